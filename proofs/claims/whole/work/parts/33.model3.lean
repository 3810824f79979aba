set_option maxHeartbeats 4000000 in
set_option maxRecDepth 100000 in
theorem c_X4_copy01 (l : Launch) (dC : Nat → ClassId) (dI : Nat → Nat → Nat) (cyI cyA : ClassId) (m0 m1 m2 m3 m4 m5 m6 m7 m8 m9 m10 m11 m12 m13 n : Nat) (kn fz : Int32) (fh fg ff fk uh ug uf uk th tg tf tk : FN) (vs vb vd us ub ud ts tb td : Int32) (ct : Nat → Nat) (kd vl : Nat → FN) (fr fp bp : FN)  (sz : Nat) : Met l yX4_copy wsX4_copy (rm 0) (kW dC dI cyI cyA [.ref m0, .int 0, .int 1] sz [ob m0 4 [.int (nI n), .int kn, .int fz, .ref m1, .ref m2, .ref m3, .ref m4, .ref m5, .ref m6, .ref m7, .ref m8, .ref m9, .ref m10, .ref m11, .ref m12, .ref m13], ai m1 cyI 21 (f3 fh uh th), ai m2 cyI 21 (f3 fg ug tg), ai m3 cyI 21 (f3 ff uf tf), ai m4 cyI 21 (f3 fk uk tk), ai m5 cyI 3 (t3 vs us ts), ai m6 cyI 3 (t3 vb ub tb), ai m7 cyI 3 (t3 vd ud td), ai m8 cyI 3 (nF ct), ai m9 cyI 36 (q12 kd), ai m10 cyI 36 (q12 vl), ai m11 cyI 7 fr, ai m12 cyI 3 fp, ai m13 cyI 3 bp]) (qV dC dI cyI cyA (fun (_ : Unit) => True) (va_A [ob m0 4 [.int (nI n), .int kn, .int fz, .ref m1, .ref m2, .ref m3, .ref m4, .ref m5, .ref m6, .ref m7, .ref m8, .ref m9, .ref m10, .ref m11, .ref m12, .ref m13], ai m1 cyI 21 (f3 fh uh th), ai m2 cyI 21 (f3 fg ug tg), ai m3 cyI 21 (f3 ff uf tf), ai m4 cyI 21 (f3 fk uk tk), ai m5 cyI 3 (t3 vs us ts), ai m6 cyI 3 (t3 vb ub tb), ai m7 cyI 3 (t3 vd ud td), ai m8 cyI 3 (nF ct), ai m9 cyI 36 (q12 kd), ai m10 cyI 36 (q12 vl), ai m11 cyI 7 fr, ai m12 cyI 3 fp, ai m13 cyI 3 bp] sz) (fun _ => [ob m0 4 [.int (nI n), .int kn, .int fz, .ref m1, .ref m2, .ref m3, .ref m4, .ref m5, .ref m6, .ref m7, .ref m8, .ref m9, .ref m10, .ref m11, .ref m12, .ref m13], ai m1 cyI 21 (f3 fh fh th), ai m2 cyI 21 (f3 fg fg tg), ai m3 cyI 21 (f3 ff ff tf), ai m4 cyI 21 (f3 fk fk tk), ai m5 cyI 3 (t3 vs vs ts), ai m6 cyI 3 (t3 vb vb tb), ai m7 cyI 3 (t3 vd vd td), ai m8 cyI 3 (nF ct), ai m9 cyI 36 (q12 kd), ai m10 cyI 36 (q12 vl), ai m11 cyI 7 fr, ai m12 cyI 3 fp, ai m13 cyI 3 bp])) 0 0 (va_A [ob m0 4 [.int (nI n), .int kn, .int fz, .ref m1, .ref m2, .ref m3, .ref m4, .ref m5, .ref m6, .ref m7, .ref m8, .ref m9, .ref m10, .ref m11, .ref m12, .ref m13], ai m1 cyI 21 (f3 fh uh th), ai m2 cyI 21 (f3 fg ug tg), ai m3 cyI 21 (f3 ff uf tf), ai m4 cyI 21 (f3 fk uk tk), ai m5 cyI 3 (t3 vs us ts), ai m6 cyI 3 (t3 vb ub tb), ai m7 cyI 3 (t3 vd ud td), ai m8 cyI 3 (nF ct), ai m9 cyI 36 (q12 kd), ai m10 cyI 36 (q12 vl), ai m11 cyI 7 fr, ai m12 cyI 3 fp, ai m13 cyI 3 bp] sz) := by
  refine ra_metW (cc := cX4_copy) (maxL := 4) (Qc := fun A => qV dC dI cyI cyA (fun (_ : Unit) => True) A (fun _ => [ob m0 4 [.int (nI n), .int kn, .int fz, .ref m1, .ref m2, .ref m3, .ref m4, .ref m5, .ref m6, .ref m7, .ref m8, .ref m9, .ref m10, .ref m11, .ref m12, .ref m13], ai m1 cyI 21 (f3 fh fh th), ai m2 cyI 21 (f3 fg fg tg), ai m3 cyI 21 (f3 ff ff tf), ai m4 cyI 21 (f3 fk fk tk), ai m5 cyI 3 (t3 vs vs ts), ai m6 cyI 3 (t3 vb vb tb), ai m7 cyI 3 (t3 vd vd td), ai m8 cyI 3 (nF ct), ai m9 cyI 36 (q12 kd), ai m10 cyI 36 (q12 vl), ai m11 cyI 7 fr, ai m12 cyI 3 fp, ai m13 cyI 3 bp])) (by decide) rfl (Nat.le_of_ble_eq_true rfl) ?_
  intro p e s m below meth c A args Q hQ hx hb hr hlocks hml hts hown hnm hK hN hP hD hA hS ls hl
  have hl : lv_has ls 4 [(0, .ref m0), (1, .int 0), (2, .int 1)] := hl
  have hown : s.vm.findClass RX4 = some m.cls := hown
  have hw_1 := hts (.fieldLink RX4 29 "DuneBenchModel" "sea" "[I") (by decide +kernel)
  have hin_X4 : ∀ w ∈ u_ws RX4 TX4 16, w ∈ wsX4_copy := by decide +kernel
  have hw_3 := hts (.fieldLink RX4 32 "DuneBenchModel" "behind" "[I") (by decide +kernel)
  have hw_4 := hts (.fieldLink RX4 35 "DuneBenchModel" "flooded" "[I") (by decide +kernel)
  have hw_5 := hts (.fieldLink RX4 16 "DuneBenchModel" "height" "[I") (by decide +kernel)
  have hw_6 := hts (.fieldLink RX4 20 "DuneBenchModel" "grass" "[I") (by decide +kernel)
  have hw_7 := hts (.fieldLink RX4 23 "DuneBenchModel" "fence" "[I") (by decide +kernel)
  have hw_8 := hts (.fieldLink RX4 26 "DuneBenchModel" "gained" "[I") (by decide +kernel)
  obtain ⟨H, hHe⟩ : ∃ H, H = s.heap := ⟨_, rfl⟩
  obtain ⟨locs, hLe⟩ : ∃ locs : List Loc, locs = [] := ⟨_, rfl⟩
  have hP : va_P (dC, dI) vwCl [ob m0 4 [.int (nI n), .int kn, .int fz, .ref m1, .ref m2, .ref m3, .ref m4, .ref m5, .ref m6, .ref m7, .ref m8, .ref m9, .ref m10, .ref m11, .ref m12, .ref m13], ai m1 cyI 21 (f3 fh uh th), ai m2 cyI 21 (f3 fg ug tg), ai m3 cyI 21 (f3 ff uf tf), ai m4 cyI 21 (f3 fk uk tk), ai m5 cyI 3 (t3 vs us ts), ai m6 cyI 3 (t3 vb ub tb), ai m7 cyI 3 (t3 vd ud td), ai m8 cyI 3 (nF ct), ai m9 cyI 36 (q12 kd), ai m10 cyI 36 (q12 vl), ai m11 cyI 7 fr, ai m12 cyI 3 fp, ai m13 cyI 3 bp] H := by rw [hHe]; exact hP
  have hS : va_S A s.heap H locs := by rw [hHe, hLe]; exact hS
  suffices hgo : W p l e (rm 0) s m args below meth c H locs 0 0 Q (F0 m 0 ls []) by rw [hHe, hLe] at hgo; exact hgo
  refine lv_iconst (v := 0) hx hb dX4_copy_0 (by decide) ?_
  refine lv_istore_n (lv' := [(3, .int 0), (0, .ref m0), (1, .int 0), (2, .int 1)]) hx hb dX4_copy_1 rfl hl (by decide) rfl (fun ls hl => ?_)
  have L_2 : ∀ (n9 : Nat) (i : Nat) (xh0 : FN) (xg0 : FN) (xf0 : FN) (xk0 : FN), (i ≤ 7) → (∀ j, j < i → xh0 j = fh j ∧ xg0 j = fg j ∧ xf0 j = ff j ∧ xk0 j = fk j) → (7 - i) < n9 → ∀ (H : Heap) (locs : List Loc), va_P (dC, dI) vwCl [ob m0 4 [.int (nI n), .int kn, .int fz, .ref m1, .ref m2, .ref m3, .ref m4, .ref m5, .ref m6, .ref m7, .ref m8, .ref m9, .ref m10, .ref m11, .ref m12, .ref m13], ai m1 cyI 21 (f3 fh xh0 th), ai m2 cyI 21 (f3 fg xg0 tg), ai m3 cyI 21 (f3 ff xf0 tf), ai m4 cyI 21 (f3 fk xk0 tk), ai m5 cyI 3 (t3 vs us ts), ai m6 cyI 3 (t3 vb ub tb), ai m7 cyI 3 (t3 vd ud td), ai m8 cyI 3 (nF ct), ai m9 cyI 36 (q12 kd), ai m10 cyI 36 (q12 vl), ai m11 cyI 7 fr, ai m12 cyI 3 fp, ai m13 cyI 3 bp] H → va_D A [ob m0 4 [.int (nI n), .int kn, .int fz, .ref m1, .ref m2, .ref m3, .ref m4, .ref m5, .ref m6, .ref m7, .ref m8, .ref m9, .ref m10, .ref m11, .ref m12, .ref m13], ai m1 cyI 21 (f3 fh xh0 th), ai m2 cyI 21 (f3 fg xg0 tg), ai m3 cyI 21 (f3 ff xf0 tf), ai m4 cyI 21 (f3 fk xk0 tk), ai m5 cyI 3 (t3 vs us ts), ai m6 cyI 3 (t3 vb ub tb), ai m7 cyI 3 (t3 vd ud td), ai m8 cyI 3 (nF ct), ai m9 cyI 36 (q12 kd), ai m10 cyI 36 (q12 vl), ai m11 cyI 7 fr, ai m12 cyI 3 fp, ai m13 cyI 3 bp] → va_S A s.heap H locs → ∀ ls : Array Slot, lv_has ls 4 [(0, .ref m0), (1, .int 0), (2, .int 1), (3, .int (nI i))] → W p l e (rm 0) s m args below meth c H locs 0 0 Q (F0 m 2 ls []) := by
    intro n9
    induction n9 with
    | zero =>
      intro i xh0 xg0 xf0 xk0 hi hz hm9
      exact absurd hm9 (Nat.not_lt_zero _)
    | succ n9 ih_2 =>
      intro i xh0 xg0 xf0 xk0 hi hz hm9 H locs hP hD hS ls hl
      refine lv_iload_n hx hb dX4_copy_2 rfl (lv_at hl 3 rfl) ?_
      refine lv_bipush (v := 7) hx hb dX4_copy_3 (by decide) ?_
      refine lv_icmp_ge (tgt := 102) hx hb dX4_copy_5 (by decide) (fun c_5 => ?_) (fun c_5 => ?_)
      · ---- to 102
        have n_5 := (nq_le 7 i (by omega) (by omega)).mp c_5
        obtain ⟨hP, hD⟩ := ra_cong hP hD 1 (f3 fh fh th) rfl (f3_c1 (fun j hj => (hz j (by omega)).1))
        obtain ⟨hP, hD⟩ := ra_cong hP hD 2 (f3 fg fg tg) rfl (f3_c1 (fun j hj => (hz j (by omega)).2.1))
        obtain ⟨hP, hD⟩ := ra_cong hP hD 3 (f3 ff ff tf) rfl (f3_c1 (fun j hj => (hz j (by omega)).2.2.1))
        obtain ⟨hP, hD⟩ := ra_cong hP hD 4 (f3 fk fk tk) rfl (f3_c1 (fun j hj => (hz j (by omega)).2.2.2))
        have hP : va_P (dC, dI) vwCl [ob m0 4 [.int (nI n), .int kn, .int fz, .ref m1, .ref m2, .ref m3, .ref m4, .ref m5, .ref m6, .ref m7, .ref m8, .ref m9, .ref m10, .ref m11, .ref m12, .ref m13], ai m1 cyI 21 (f3 fh fh th), ai m2 cyI 21 (f3 fg fg tg), ai m3 cyI 21 (f3 ff ff tf), ai m4 cyI 21 (f3 fk fk tk), ai m5 cyI 3 (t3 vs us ts), ai m6 cyI 3 (t3 vb ub tb), ai m7 cyI 3 (t3 vd ud td), ai m8 cyI 3 (nF ct), ai m9 cyI 36 (q12 kd), ai m10 cyI 36 (q12 vl), ai m11 cyI 7 fr, ai m12 cyI 3 fp, ai m13 cyI 3 bp] H := hP
        have hD : va_D A [ob m0 4 [.int (nI n), .int kn, .int fz, .ref m1, .ref m2, .ref m3, .ref m4, .ref m5, .ref m6, .ref m7, .ref m8, .ref m9, .ref m10, .ref m11, .ref m12, .ref m13], ai m1 cyI 21 (f3 fh fh th), ai m2 cyI 21 (f3 fg fg tg), ai m3 cyI 21 (f3 ff ff tf), ai m4 cyI 21 (f3 fk fk tk), ai m5 cyI 3 (t3 vs us ts), ai m6 cyI 3 (t3 vb ub tb), ai m7 cyI 3 (t3 vd ud td), ai m8 cyI 3 (nF ct), ai m9 cyI 36 (q12 kd), ai m10 cyI 36 (q12 vl), ai m11 cyI 7 fr, ai m12 cyI 3 fp, ai m13 cyI 3 bp] := hD
        refine lv_aload_n hx hb dX4_copy_102 rfl (lv_at hl 0 rfl) ?_
        refine va_get (D := (dC, dI)) (ci := 4) (v := .ref m5) (C := RX4) (T := TX4) (N := 16) hx hb hts hin_X4 hown hK hP 0 rfl rfl 7 (by decide) hw_1 (fun _ h9 => h9) rfl dX4_copy_103 ?_
        refine lv_iload_n hx hb dX4_copy_106 rfl (lv_at hl 2 rfl) ?_
        refine lv_aload_n hx hb dX4_copy_107 rfl (lv_at hl 0 rfl) ?_
        refine va_get (D := (dC, dI)) (ci := 4) (v := .ref m5) (C := RX4) (T := TX4) (N := 16) hx hb hts hin_X4 hown hK hP 0 rfl rfl 7 (by decide) hw_1 (fun _ h9 => h9) rfl dX4_copy_108 ?_
        refine lv_iload_n hx hb dX4_copy_111 rfl (lv_at hl 1 rfl) ?_
        refine ra_iald hx hb hK hP 5 rfl 0 rfl (by omega) (Nat.le_of_ble_eq_true rfl) dX4_copy_112 ?_
        refine ra_top vs rfl ?_
        refine ra_iast hx hb hK hP hD hS 5 rfl 1 rfl (by omega) (Nat.le_of_ble_eq_true rfl) dX4_copy_113 (fun H locs hP hD hS => ?_)
        rw [t3_w1] at hP hD
        have hP : va_P (dC, dI) vwCl [ob m0 4 [.int (nI n), .int kn, .int fz, .ref m1, .ref m2, .ref m3, .ref m4, .ref m5, .ref m6, .ref m7, .ref m8, .ref m9, .ref m10, .ref m11, .ref m12, .ref m13], ai m1 cyI 21 (f3 fh fh th), ai m2 cyI 21 (f3 fg fg tg), ai m3 cyI 21 (f3 ff ff tf), ai m4 cyI 21 (f3 fk fk tk), ai m5 cyI 3 (t3 vs vs ts), ai m6 cyI 3 (t3 vb ub tb), ai m7 cyI 3 (t3 vd ud td), ai m8 cyI 3 (nF ct), ai m9 cyI 36 (q12 kd), ai m10 cyI 36 (q12 vl), ai m11 cyI 7 fr, ai m12 cyI 3 fp, ai m13 cyI 3 bp] H := hP
        have hD : va_D A [ob m0 4 [.int (nI n), .int kn, .int fz, .ref m1, .ref m2, .ref m3, .ref m4, .ref m5, .ref m6, .ref m7, .ref m8, .ref m9, .ref m10, .ref m11, .ref m12, .ref m13], ai m1 cyI 21 (f3 fh fh th), ai m2 cyI 21 (f3 fg fg tg), ai m3 cyI 21 (f3 ff ff tf), ai m4 cyI 21 (f3 fk fk tk), ai m5 cyI 3 (t3 vs vs ts), ai m6 cyI 3 (t3 vb ub tb), ai m7 cyI 3 (t3 vd ud td), ai m8 cyI 3 (nF ct), ai m9 cyI 36 (q12 kd), ai m10 cyI 36 (q12 vl), ai m11 cyI 7 fr, ai m12 cyI 3 fp, ai m13 cyI 3 bp] := hD
        refine lv_aload_n hx hb dX4_copy_114 rfl (lv_at hl 0 rfl) ?_
        refine va_get (D := (dC, dI)) (ci := 4) (v := .ref m6) (C := RX4) (T := TX4) (N := 16) hx hb hts hin_X4 hown hK hP 0 rfl rfl 8 (by decide) hw_3 (fun _ h9 => h9) rfl dX4_copy_115 ?_
        refine lv_iload_n hx hb dX4_copy_118 rfl (lv_at hl 2 rfl) ?_
        refine lv_aload_n hx hb dX4_copy_119 rfl (lv_at hl 0 rfl) ?_
        refine va_get (D := (dC, dI)) (ci := 4) (v := .ref m6) (C := RX4) (T := TX4) (N := 16) hx hb hts hin_X4 hown hK hP 0 rfl rfl 8 (by decide) hw_3 (fun _ h9 => h9) rfl dX4_copy_120 ?_
        refine lv_iload_n hx hb dX4_copy_123 rfl (lv_at hl 1 rfl) ?_
        refine ra_iald hx hb hK hP 6 rfl 0 rfl (by omega) (Nat.le_of_ble_eq_true rfl) dX4_copy_124 ?_
        refine ra_top vb rfl ?_
        refine ra_iast hx hb hK hP hD hS 6 rfl 1 rfl (by omega) (Nat.le_of_ble_eq_true rfl) dX4_copy_125 (fun H locs hP hD hS => ?_)
        rw [t3_w1] at hP hD
        have hP : va_P (dC, dI) vwCl [ob m0 4 [.int (nI n), .int kn, .int fz, .ref m1, .ref m2, .ref m3, .ref m4, .ref m5, .ref m6, .ref m7, .ref m8, .ref m9, .ref m10, .ref m11, .ref m12, .ref m13], ai m1 cyI 21 (f3 fh fh th), ai m2 cyI 21 (f3 fg fg tg), ai m3 cyI 21 (f3 ff ff tf), ai m4 cyI 21 (f3 fk fk tk), ai m5 cyI 3 (t3 vs vs ts), ai m6 cyI 3 (t3 vb vb tb), ai m7 cyI 3 (t3 vd ud td), ai m8 cyI 3 (nF ct), ai m9 cyI 36 (q12 kd), ai m10 cyI 36 (q12 vl), ai m11 cyI 7 fr, ai m12 cyI 3 fp, ai m13 cyI 3 bp] H := hP
        have hD : va_D A [ob m0 4 [.int (nI n), .int kn, .int fz, .ref m1, .ref m2, .ref m3, .ref m4, .ref m5, .ref m6, .ref m7, .ref m8, .ref m9, .ref m10, .ref m11, .ref m12, .ref m13], ai m1 cyI 21 (f3 fh fh th), ai m2 cyI 21 (f3 fg fg tg), ai m3 cyI 21 (f3 ff ff tf), ai m4 cyI 21 (f3 fk fk tk), ai m5 cyI 3 (t3 vs vs ts), ai m6 cyI 3 (t3 vb vb tb), ai m7 cyI 3 (t3 vd ud td), ai m8 cyI 3 (nF ct), ai m9 cyI 36 (q12 kd), ai m10 cyI 36 (q12 vl), ai m11 cyI 7 fr, ai m12 cyI 3 fp, ai m13 cyI 3 bp] := hD
        refine lv_aload_n hx hb dX4_copy_126 rfl (lv_at hl 0 rfl) ?_
        refine va_get (D := (dC, dI)) (ci := 4) (v := .ref m7) (C := RX4) (T := TX4) (N := 16) hx hb hts hin_X4 hown hK hP 0 rfl rfl 9 (by decide) hw_4 (fun _ h9 => h9) rfl dX4_copy_127 ?_
        refine lv_iload_n hx hb dX4_copy_130 rfl (lv_at hl 2 rfl) ?_
        refine lv_aload_n hx hb dX4_copy_131 rfl (lv_at hl 0 rfl) ?_
        refine va_get (D := (dC, dI)) (ci := 4) (v := .ref m7) (C := RX4) (T := TX4) (N := 16) hx hb hts hin_X4 hown hK hP 0 rfl rfl 9 (by decide) hw_4 (fun _ h9 => h9) rfl dX4_copy_132 ?_
        refine lv_iload_n hx hb dX4_copy_135 rfl (lv_at hl 1 rfl) ?_
        refine ra_iald hx hb hK hP 7 rfl 0 rfl (by omega) (Nat.le_of_ble_eq_true rfl) dX4_copy_136 ?_
        refine ra_top vd rfl ?_
        refine ra_iast hx hb hK hP hD hS 7 rfl 1 rfl (by omega) (Nat.le_of_ble_eq_true rfl) dX4_copy_137 (fun H locs hP hD hS => ?_)
        rw [t3_w1] at hP hD
        have hP : va_P (dC, dI) vwCl [ob m0 4 [.int (nI n), .int kn, .int fz, .ref m1, .ref m2, .ref m3, .ref m4, .ref m5, .ref m6, .ref m7, .ref m8, .ref m9, .ref m10, .ref m11, .ref m12, .ref m13], ai m1 cyI 21 (f3 fh fh th), ai m2 cyI 21 (f3 fg fg tg), ai m3 cyI 21 (f3 ff ff tf), ai m4 cyI 21 (f3 fk fk tk), ai m5 cyI 3 (t3 vs vs ts), ai m6 cyI 3 (t3 vb vb tb), ai m7 cyI 3 (t3 vd vd td), ai m8 cyI 3 (nF ct), ai m9 cyI 36 (q12 kd), ai m10 cyI 36 (q12 vl), ai m11 cyI 7 fr, ai m12 cyI 3 fp, ai m13 cyI 3 bp] H := hP
        have hD : va_D A [ob m0 4 [.int (nI n), .int kn, .int fz, .ref m1, .ref m2, .ref m3, .ref m4, .ref m5, .ref m6, .ref m7, .ref m8, .ref m9, .ref m10, .ref m11, .ref m12, .ref m13], ai m1 cyI 21 (f3 fh fh th), ai m2 cyI 21 (f3 fg fg tg), ai m3 cyI 21 (f3 ff ff tf), ai m4 cyI 21 (f3 fk fk tk), ai m5 cyI 3 (t3 vs vs ts), ai m6 cyI 3 (t3 vb vb tb), ai m7 cyI 3 (t3 vd vd td), ai m8 cyI 3 (nF ct), ai m9 cyI 36 (q12 kd), ai m10 cyI 36 (q12 vl), ai m11 cyI 7 fr, ai m12 cyI 3 fp, ai m13 cyI 3 bp] := hD
        rw [hQ]
        exact ra_vretW () hx hb hr hlocks hK hP hD hS trivial dX4_copy_138
      · ---- on
        have n_5 := (nq_le_n 7 i (by omega) (by omega)).mp c_5
        refine lv_aload_n hx hb dX4_copy_8 rfl (lv_at hl 0 rfl) ?_
        refine va_get (D := (dC, dI)) (ci := 4) (v := .ref m1) (C := RX4) (T := TX4) (N := 16) hx hb hts hin_X4 hown hK hP 0 rfl rfl 3 (by decide) hw_5 (fun _ h9 => h9) rfl dX4_copy_9 ?_
        refine lv_bipush (v := 7) hx hb dX4_copy_12 (by decide) ?_
        refine lv_iload_n hx hb dX4_copy_14 rfl (lv_at hl 2 rfl) ?_
        refine lv_imul hx hb dX4_copy_15 ?_
        refine ra_top (7) (by decide) ?_
        refine lv_iload_n hx hb dX4_copy_16 rfl (lv_at hl 3 rfl) ?_
        refine lv_iadd hx hb dX4_copy_17 ?_
        refine ra_top (nI (7 + i)) (nI_add 7 i) ?_
        refine lv_aload_n hx hb dX4_copy_18 rfl (lv_at hl 0 rfl) ?_
        refine va_get (D := (dC, dI)) (ci := 4) (v := .ref m1) (C := RX4) (T := TX4) (N := 16) hx hb hts hin_X4 hown hK hP 0 rfl rfl 3 (by decide) hw_5 (fun _ h9 => h9) rfl dX4_copy_19 ?_
        refine lv_bipush (v := 7) hx hb dX4_copy_22 (by decide) ?_
        refine lv_iload_n hx hb dX4_copy_24 rfl (lv_at hl 1 rfl) ?_
        refine lv_imul hx hb dX4_copy_25 ?_
        refine ra_top (0) (by decide) ?_
        refine lv_iload_n hx hb dX4_copy_26 rfl (lv_at hl 3 rfl) ?_
        refine lv_iadd hx hb dX4_copy_27 ?_
        refine ra_top (nI i) (Int32.zero_add _) ?_
        refine ra_iald hx hb hK hP 1 rfl i rfl (by omega) (Nat.le_of_ble_eq_true rfl) dX4_copy_28 ?_
        refine ra_top (fh i) (f3_r0 _ _ _ (by omega)) ?_
        refine ra_iast hx hb hK hP hD hS 1 rfl (7 + i) rfl (by omega) (Nat.le_of_ble_eq_true rfl) dX4_copy_29 (fun H locs hP hD hS => ?_)
        rw [f3_w1 _ _ _ _ (by omega)] at hP hD
        have hP : va_P (dC, dI) vwCl [ob m0 4 [.int (nI n), .int kn, .int fz, .ref m1, .ref m2, .ref m3, .ref m4, .ref m5, .ref m6, .ref m7, .ref m8, .ref m9, .ref m10, .ref m11, .ref m12, .ref m13], ai m1 cyI 21 (f3 fh (upd xh0 i (fh i)) th), ai m2 cyI 21 (f3 fg xg0 tg), ai m3 cyI 21 (f3 ff xf0 tf), ai m4 cyI 21 (f3 fk xk0 tk), ai m5 cyI 3 (t3 vs us ts), ai m6 cyI 3 (t3 vb ub tb), ai m7 cyI 3 (t3 vd ud td), ai m8 cyI 3 (nF ct), ai m9 cyI 36 (q12 kd), ai m10 cyI 36 (q12 vl), ai m11 cyI 7 fr, ai m12 cyI 3 fp, ai m13 cyI 3 bp] H := hP
        have hD : va_D A [ob m0 4 [.int (nI n), .int kn, .int fz, .ref m1, .ref m2, .ref m3, .ref m4, .ref m5, .ref m6, .ref m7, .ref m8, .ref m9, .ref m10, .ref m11, .ref m12, .ref m13], ai m1 cyI 21 (f3 fh (upd xh0 i (fh i)) th), ai m2 cyI 21 (f3 fg xg0 tg), ai m3 cyI 21 (f3 ff xf0 tf), ai m4 cyI 21 (f3 fk xk0 tk), ai m5 cyI 3 (t3 vs us ts), ai m6 cyI 3 (t3 vb ub tb), ai m7 cyI 3 (t3 vd ud td), ai m8 cyI 3 (nF ct), ai m9 cyI 36 (q12 kd), ai m10 cyI 36 (q12 vl), ai m11 cyI 7 fr, ai m12 cyI 3 fp, ai m13 cyI 3 bp] := hD
        refine lv_aload_n hx hb dX4_copy_30 rfl (lv_at hl 0 rfl) ?_
        refine va_get (D := (dC, dI)) (ci := 4) (v := .ref m2) (C := RX4) (T := TX4) (N := 16) hx hb hts hin_X4 hown hK hP 0 rfl rfl 4 (by decide) hw_6 (fun _ h9 => h9) rfl dX4_copy_31 ?_
        refine lv_bipush (v := 7) hx hb dX4_copy_34 (by decide) ?_
        refine lv_iload_n hx hb dX4_copy_36 rfl (lv_at hl 2 rfl) ?_
        refine lv_imul hx hb dX4_copy_37 ?_
        refine ra_top (7) (by decide) ?_
        refine lv_iload_n hx hb dX4_copy_38 rfl (lv_at hl 3 rfl) ?_
        refine lv_iadd hx hb dX4_copy_39 ?_
        refine ra_top (nI (7 + i)) (nI_add 7 i) ?_
        refine lv_aload_n hx hb dX4_copy_40 rfl (lv_at hl 0 rfl) ?_
        refine va_get (D := (dC, dI)) (ci := 4) (v := .ref m2) (C := RX4) (T := TX4) (N := 16) hx hb hts hin_X4 hown hK hP 0 rfl rfl 4 (by decide) hw_6 (fun _ h9 => h9) rfl dX4_copy_41 ?_
        refine lv_bipush (v := 7) hx hb dX4_copy_44 (by decide) ?_
        refine lv_iload_n hx hb dX4_copy_46 rfl (lv_at hl 1 rfl) ?_
        refine lv_imul hx hb dX4_copy_47 ?_
        refine ra_top (0) (by decide) ?_
        refine lv_iload_n hx hb dX4_copy_48 rfl (lv_at hl 3 rfl) ?_
        refine lv_iadd hx hb dX4_copy_49 ?_
        refine ra_top (nI i) (Int32.zero_add _) ?_
        refine ra_iald hx hb hK hP 2 rfl i rfl (by omega) (Nat.le_of_ble_eq_true rfl) dX4_copy_50 ?_
        refine ra_top (fg i) (f3_r0 _ _ _ (by omega)) ?_
        refine ra_iast hx hb hK hP hD hS 2 rfl (7 + i) rfl (by omega) (Nat.le_of_ble_eq_true rfl) dX4_copy_51 (fun H locs hP hD hS => ?_)
        rw [f3_w1 _ _ _ _ (by omega)] at hP hD
        have hP : va_P (dC, dI) vwCl [ob m0 4 [.int (nI n), .int kn, .int fz, .ref m1, .ref m2, .ref m3, .ref m4, .ref m5, .ref m6, .ref m7, .ref m8, .ref m9, .ref m10, .ref m11, .ref m12, .ref m13], ai m1 cyI 21 (f3 fh (upd xh0 i (fh i)) th), ai m2 cyI 21 (f3 fg (upd xg0 i (fg i)) tg), ai m3 cyI 21 (f3 ff xf0 tf), ai m4 cyI 21 (f3 fk xk0 tk), ai m5 cyI 3 (t3 vs us ts), ai m6 cyI 3 (t3 vb ub tb), ai m7 cyI 3 (t3 vd ud td), ai m8 cyI 3 (nF ct), ai m9 cyI 36 (q12 kd), ai m10 cyI 36 (q12 vl), ai m11 cyI 7 fr, ai m12 cyI 3 fp, ai m13 cyI 3 bp] H := hP
        have hD : va_D A [ob m0 4 [.int (nI n), .int kn, .int fz, .ref m1, .ref m2, .ref m3, .ref m4, .ref m5, .ref m6, .ref m7, .ref m8, .ref m9, .ref m10, .ref m11, .ref m12, .ref m13], ai m1 cyI 21 (f3 fh (upd xh0 i (fh i)) th), ai m2 cyI 21 (f3 fg (upd xg0 i (fg i)) tg), ai m3 cyI 21 (f3 ff xf0 tf), ai m4 cyI 21 (f3 fk xk0 tk), ai m5 cyI 3 (t3 vs us ts), ai m6 cyI 3 (t3 vb ub tb), ai m7 cyI 3 (t3 vd ud td), ai m8 cyI 3 (nF ct), ai m9 cyI 36 (q12 kd), ai m10 cyI 36 (q12 vl), ai m11 cyI 7 fr, ai m12 cyI 3 fp, ai m13 cyI 3 bp] := hD
        refine lv_aload_n hx hb dX4_copy_52 rfl (lv_at hl 0 rfl) ?_
        refine va_get (D := (dC, dI)) (ci := 4) (v := .ref m3) (C := RX4) (T := TX4) (N := 16) hx hb hts hin_X4 hown hK hP 0 rfl rfl 5 (by decide) hw_7 (fun _ h9 => h9) rfl dX4_copy_53 ?_
        refine lv_bipush (v := 7) hx hb dX4_copy_56 (by decide) ?_
        refine lv_iload_n hx hb dX4_copy_58 rfl (lv_at hl 2 rfl) ?_
        refine lv_imul hx hb dX4_copy_59 ?_
        refine ra_top (7) (by decide) ?_
        refine lv_iload_n hx hb dX4_copy_60 rfl (lv_at hl 3 rfl) ?_
        refine lv_iadd hx hb dX4_copy_61 ?_
        refine ra_top (nI (7 + i)) (nI_add 7 i) ?_
        refine lv_aload_n hx hb dX4_copy_62 rfl (lv_at hl 0 rfl) ?_
        refine va_get (D := (dC, dI)) (ci := 4) (v := .ref m3) (C := RX4) (T := TX4) (N := 16) hx hb hts hin_X4 hown hK hP 0 rfl rfl 5 (by decide) hw_7 (fun _ h9 => h9) rfl dX4_copy_63 ?_
        refine lv_bipush (v := 7) hx hb dX4_copy_66 (by decide) ?_
        refine lv_iload_n hx hb dX4_copy_68 rfl (lv_at hl 1 rfl) ?_
        refine lv_imul hx hb dX4_copy_69 ?_
        refine ra_top (0) (by decide) ?_
        refine lv_iload_n hx hb dX4_copy_70 rfl (lv_at hl 3 rfl) ?_
        refine lv_iadd hx hb dX4_copy_71 ?_
        refine ra_top (nI i) (Int32.zero_add _) ?_
        refine ra_iald hx hb hK hP 3 rfl i rfl (by omega) (Nat.le_of_ble_eq_true rfl) dX4_copy_72 ?_
        refine ra_top (ff i) (f3_r0 _ _ _ (by omega)) ?_
        refine ra_iast hx hb hK hP hD hS 3 rfl (7 + i) rfl (by omega) (Nat.le_of_ble_eq_true rfl) dX4_copy_73 (fun H locs hP hD hS => ?_)
        rw [f3_w1 _ _ _ _ (by omega)] at hP hD
        have hP : va_P (dC, dI) vwCl [ob m0 4 [.int (nI n), .int kn, .int fz, .ref m1, .ref m2, .ref m3, .ref m4, .ref m5, .ref m6, .ref m7, .ref m8, .ref m9, .ref m10, .ref m11, .ref m12, .ref m13], ai m1 cyI 21 (f3 fh (upd xh0 i (fh i)) th), ai m2 cyI 21 (f3 fg (upd xg0 i (fg i)) tg), ai m3 cyI 21 (f3 ff (upd xf0 i (ff i)) tf), ai m4 cyI 21 (f3 fk xk0 tk), ai m5 cyI 3 (t3 vs us ts), ai m6 cyI 3 (t3 vb ub tb), ai m7 cyI 3 (t3 vd ud td), ai m8 cyI 3 (nF ct), ai m9 cyI 36 (q12 kd), ai m10 cyI 36 (q12 vl), ai m11 cyI 7 fr, ai m12 cyI 3 fp, ai m13 cyI 3 bp] H := hP
        have hD : va_D A [ob m0 4 [.int (nI n), .int kn, .int fz, .ref m1, .ref m2, .ref m3, .ref m4, .ref m5, .ref m6, .ref m7, .ref m8, .ref m9, .ref m10, .ref m11, .ref m12, .ref m13], ai m1 cyI 21 (f3 fh (upd xh0 i (fh i)) th), ai m2 cyI 21 (f3 fg (upd xg0 i (fg i)) tg), ai m3 cyI 21 (f3 ff (upd xf0 i (ff i)) tf), ai m4 cyI 21 (f3 fk xk0 tk), ai m5 cyI 3 (t3 vs us ts), ai m6 cyI 3 (t3 vb ub tb), ai m7 cyI 3 (t3 vd ud td), ai m8 cyI 3 (nF ct), ai m9 cyI 36 (q12 kd), ai m10 cyI 36 (q12 vl), ai m11 cyI 7 fr, ai m12 cyI 3 fp, ai m13 cyI 3 bp] := hD
        refine lv_aload_n hx hb dX4_copy_74 rfl (lv_at hl 0 rfl) ?_
        refine va_get (D := (dC, dI)) (ci := 4) (v := .ref m4) (C := RX4) (T := TX4) (N := 16) hx hb hts hin_X4 hown hK hP 0 rfl rfl 6 (by decide) hw_8 (fun _ h9 => h9) rfl dX4_copy_75 ?_
        refine lv_bipush (v := 7) hx hb dX4_copy_78 (by decide) ?_
        refine lv_iload_n hx hb dX4_copy_80 rfl (lv_at hl 2 rfl) ?_
        refine lv_imul hx hb dX4_copy_81 ?_
        refine ra_top (7) (by decide) ?_
        refine lv_iload_n hx hb dX4_copy_82 rfl (lv_at hl 3 rfl) ?_
        refine lv_iadd hx hb dX4_copy_83 ?_
        refine ra_top (nI (7 + i)) (nI_add 7 i) ?_
        refine lv_aload_n hx hb dX4_copy_84 rfl (lv_at hl 0 rfl) ?_
        refine va_get (D := (dC, dI)) (ci := 4) (v := .ref m4) (C := RX4) (T := TX4) (N := 16) hx hb hts hin_X4 hown hK hP 0 rfl rfl 6 (by decide) hw_8 (fun _ h9 => h9) rfl dX4_copy_85 ?_
        refine lv_bipush (v := 7) hx hb dX4_copy_88 (by decide) ?_
        refine lv_iload_n hx hb dX4_copy_90 rfl (lv_at hl 1 rfl) ?_
        refine lv_imul hx hb dX4_copy_91 ?_
        refine ra_top (0) (by decide) ?_
        refine lv_iload_n hx hb dX4_copy_92 rfl (lv_at hl 3 rfl) ?_
        refine lv_iadd hx hb dX4_copy_93 ?_
        refine ra_top (nI i) (Int32.zero_add _) ?_
        refine ra_iald hx hb hK hP 4 rfl i rfl (by omega) (Nat.le_of_ble_eq_true rfl) dX4_copy_94 ?_
        refine ra_top (fk i) (f3_r0 _ _ _ (by omega)) ?_
        refine ra_iast hx hb hK hP hD hS 4 rfl (7 + i) rfl (by omega) (Nat.le_of_ble_eq_true rfl) dX4_copy_95 (fun H locs hP hD hS => ?_)
        rw [f3_w1 _ _ _ _ (by omega)] at hP hD
        have hP : va_P (dC, dI) vwCl [ob m0 4 [.int (nI n), .int kn, .int fz, .ref m1, .ref m2, .ref m3, .ref m4, .ref m5, .ref m6, .ref m7, .ref m8, .ref m9, .ref m10, .ref m11, .ref m12, .ref m13], ai m1 cyI 21 (f3 fh (upd xh0 i (fh i)) th), ai m2 cyI 21 (f3 fg (upd xg0 i (fg i)) tg), ai m3 cyI 21 (f3 ff (upd xf0 i (ff i)) tf), ai m4 cyI 21 (f3 fk (upd xk0 i (fk i)) tk), ai m5 cyI 3 (t3 vs us ts), ai m6 cyI 3 (t3 vb ub tb), ai m7 cyI 3 (t3 vd ud td), ai m8 cyI 3 (nF ct), ai m9 cyI 36 (q12 kd), ai m10 cyI 36 (q12 vl), ai m11 cyI 7 fr, ai m12 cyI 3 fp, ai m13 cyI 3 bp] H := hP
        have hD : va_D A [ob m0 4 [.int (nI n), .int kn, .int fz, .ref m1, .ref m2, .ref m3, .ref m4, .ref m5, .ref m6, .ref m7, .ref m8, .ref m9, .ref m10, .ref m11, .ref m12, .ref m13], ai m1 cyI 21 (f3 fh (upd xh0 i (fh i)) th), ai m2 cyI 21 (f3 fg (upd xg0 i (fg i)) tg), ai m3 cyI 21 (f3 ff (upd xf0 i (ff i)) tf), ai m4 cyI 21 (f3 fk (upd xk0 i (fk i)) tk), ai m5 cyI 3 (t3 vs us ts), ai m6 cyI 3 (t3 vb ub tb), ai m7 cyI 3 (t3 vd ud td), ai m8 cyI 3 (nF ct), ai m9 cyI 36 (q12 kd), ai m10 cyI 36 (q12 vl), ai m11 cyI 7 fr, ai m12 cyI 3 fp, ai m13 cyI 3 bp] := hD
        refine lv_iinc (v := nI (i + 1)) (lv' := [(3, .int (nI (i + 1))), (0, .ref m0), (1, .int 0), (2, .int 1)]) hx hb dX4_copy_96 hl (k := 3) rfl (ra_inc1 _) (by decide) rfl (fun ls hl => ?_)
        refine lv_goto (tgt := 2) hx hb dX4_copy_99 (by decide) ?_
        exact ih_2 (i + 1) (upd xh0 i (fh i)) (upd xg0 i (fg i)) (upd xf0 i (ff i)) (upd xk0 i (fk i)) (by omega) (fun j hj => by by_cases h : j = i; (· subst h; simp only [pk_us, and_self]); (· simp only [pk_un h]; exact hz j (by omega))) (by omega) H locs hP hD hS ls (lv_sub hl [1, 2, 3, 0] rfl)
  exact L_2 _ 0 uh ug uf uk (by omega) (fun j hj => absurd hj (Nat.not_lt_zero j)) (Nat.lt_succ_self _) H locs hP hD hS ls (lv_sub hl [1, 2, 3, 0] rfl)

set_option maxHeartbeats 4000000 in
set_option maxRecDepth 100000 in
theorem c_X4_copy02 (l : Launch) (dC : Nat → ClassId) (dI : Nat → Nat → Nat) (cyI cyA : ClassId) (m0 m1 m2 m3 m4 m5 m6 m7 m8 m9 m10 m11 m12 m13 n : Nat) (kn fz : Int32) (fh fg ff fk uh ug uf uk th tg tf tk : FN) (vs vb vd us ub ud ts tb td : Int32) (ct : Nat → Nat) (kd vl : Nat → FN) (fr fp bp : FN)  (sz : Nat) : Met l yX4_copy wsX4_copy (rm 0) (kW dC dI cyI cyA [.ref m0, .int 0, .int 2] sz [ob m0 4 [.int (nI n), .int kn, .int fz, .ref m1, .ref m2, .ref m3, .ref m4, .ref m5, .ref m6, .ref m7, .ref m8, .ref m9, .ref m10, .ref m11, .ref m12, .ref m13], ai m1 cyI 21 (f3 fh uh th), ai m2 cyI 21 (f3 fg ug tg), ai m3 cyI 21 (f3 ff uf tf), ai m4 cyI 21 (f3 fk uk tk), ai m5 cyI 3 (t3 vs us ts), ai m6 cyI 3 (t3 vb ub tb), ai m7 cyI 3 (t3 vd ud td), ai m8 cyI 3 (nF ct), ai m9 cyI 36 (q12 kd), ai m10 cyI 36 (q12 vl), ai m11 cyI 7 fr, ai m12 cyI 3 fp, ai m13 cyI 3 bp]) (qV dC dI cyI cyA (fun (_ : Unit) => True) (va_A [ob m0 4 [.int (nI n), .int kn, .int fz, .ref m1, .ref m2, .ref m3, .ref m4, .ref m5, .ref m6, .ref m7, .ref m8, .ref m9, .ref m10, .ref m11, .ref m12, .ref m13], ai m1 cyI 21 (f3 fh uh th), ai m2 cyI 21 (f3 fg ug tg), ai m3 cyI 21 (f3 ff uf tf), ai m4 cyI 21 (f3 fk uk tk), ai m5 cyI 3 (t3 vs us ts), ai m6 cyI 3 (t3 vb ub tb), ai m7 cyI 3 (t3 vd ud td), ai m8 cyI 3 (nF ct), ai m9 cyI 36 (q12 kd), ai m10 cyI 36 (q12 vl), ai m11 cyI 7 fr, ai m12 cyI 3 fp, ai m13 cyI 3 bp] sz) (fun _ => [ob m0 4 [.int (nI n), .int kn, .int fz, .ref m1, .ref m2, .ref m3, .ref m4, .ref m5, .ref m6, .ref m7, .ref m8, .ref m9, .ref m10, .ref m11, .ref m12, .ref m13], ai m1 cyI 21 (f3 fh uh fh), ai m2 cyI 21 (f3 fg ug fg), ai m3 cyI 21 (f3 ff uf ff), ai m4 cyI 21 (f3 fk uk fk), ai m5 cyI 3 (t3 vs us vs), ai m6 cyI 3 (t3 vb ub vb), ai m7 cyI 3 (t3 vd ud vd), ai m8 cyI 3 (nF ct), ai m9 cyI 36 (q12 kd), ai m10 cyI 36 (q12 vl), ai m11 cyI 7 fr, ai m12 cyI 3 fp, ai m13 cyI 3 bp])) 0 0 (va_A [ob m0 4 [.int (nI n), .int kn, .int fz, .ref m1, .ref m2, .ref m3, .ref m4, .ref m5, .ref m6, .ref m7, .ref m8, .ref m9, .ref m10, .ref m11, .ref m12, .ref m13], ai m1 cyI 21 (f3 fh uh th), ai m2 cyI 21 (f3 fg ug tg), ai m3 cyI 21 (f3 ff uf tf), ai m4 cyI 21 (f3 fk uk tk), ai m5 cyI 3 (t3 vs us ts), ai m6 cyI 3 (t3 vb ub tb), ai m7 cyI 3 (t3 vd ud td), ai m8 cyI 3 (nF ct), ai m9 cyI 36 (q12 kd), ai m10 cyI 36 (q12 vl), ai m11 cyI 7 fr, ai m12 cyI 3 fp, ai m13 cyI 3 bp] sz) := by
  refine ra_metW (cc := cX4_copy) (maxL := 4) (Qc := fun A => qV dC dI cyI cyA (fun (_ : Unit) => True) A (fun _ => [ob m0 4 [.int (nI n), .int kn, .int fz, .ref m1, .ref m2, .ref m3, .ref m4, .ref m5, .ref m6, .ref m7, .ref m8, .ref m9, .ref m10, .ref m11, .ref m12, .ref m13], ai m1 cyI 21 (f3 fh uh fh), ai m2 cyI 21 (f3 fg ug fg), ai m3 cyI 21 (f3 ff uf ff), ai m4 cyI 21 (f3 fk uk fk), ai m5 cyI 3 (t3 vs us vs), ai m6 cyI 3 (t3 vb ub vb), ai m7 cyI 3 (t3 vd ud vd), ai m8 cyI 3 (nF ct), ai m9 cyI 36 (q12 kd), ai m10 cyI 36 (q12 vl), ai m11 cyI 7 fr, ai m12 cyI 3 fp, ai m13 cyI 3 bp])) (by decide) rfl (Nat.le_of_ble_eq_true rfl) ?_
  intro p e s m below meth c A args Q hQ hx hb hr hlocks hml hts hown hnm hK hN hP hD hA hS ls hl
  have hl : lv_has ls 4 [(0, .ref m0), (1, .int 0), (2, .int 2)] := hl
  have hown : s.vm.findClass RX4 = some m.cls := hown
  have hw_1 := hts (.fieldLink RX4 29 "DuneBenchModel" "sea" "[I") (by decide +kernel)
  have hin_X4 : ∀ w ∈ u_ws RX4 TX4 16, w ∈ wsX4_copy := by decide +kernel
  have hw_3 := hts (.fieldLink RX4 32 "DuneBenchModel" "behind" "[I") (by decide +kernel)
  have hw_4 := hts (.fieldLink RX4 35 "DuneBenchModel" "flooded" "[I") (by decide +kernel)
  have hw_5 := hts (.fieldLink RX4 16 "DuneBenchModel" "height" "[I") (by decide +kernel)
  have hw_6 := hts (.fieldLink RX4 20 "DuneBenchModel" "grass" "[I") (by decide +kernel)
  have hw_7 := hts (.fieldLink RX4 23 "DuneBenchModel" "fence" "[I") (by decide +kernel)
  have hw_8 := hts (.fieldLink RX4 26 "DuneBenchModel" "gained" "[I") (by decide +kernel)
  obtain ⟨H, hHe⟩ : ∃ H, H = s.heap := ⟨_, rfl⟩
  obtain ⟨locs, hLe⟩ : ∃ locs : List Loc, locs = [] := ⟨_, rfl⟩
  have hP : va_P (dC, dI) vwCl [ob m0 4 [.int (nI n), .int kn, .int fz, .ref m1, .ref m2, .ref m3, .ref m4, .ref m5, .ref m6, .ref m7, .ref m8, .ref m9, .ref m10, .ref m11, .ref m12, .ref m13], ai m1 cyI 21 (f3 fh uh th), ai m2 cyI 21 (f3 fg ug tg), ai m3 cyI 21 (f3 ff uf tf), ai m4 cyI 21 (f3 fk uk tk), ai m5 cyI 3 (t3 vs us ts), ai m6 cyI 3 (t3 vb ub tb), ai m7 cyI 3 (t3 vd ud td), ai m8 cyI 3 (nF ct), ai m9 cyI 36 (q12 kd), ai m10 cyI 36 (q12 vl), ai m11 cyI 7 fr, ai m12 cyI 3 fp, ai m13 cyI 3 bp] H := by rw [hHe]; exact hP
  have hS : va_S A s.heap H locs := by rw [hHe, hLe]; exact hS
  suffices hgo : W p l e (rm 0) s m args below meth c H locs 0 0 Q (F0 m 0 ls []) by rw [hHe, hLe] at hgo; exact hgo
  refine lv_iconst (v := 0) hx hb dX4_copy_0 (by decide) ?_
  refine lv_istore_n (lv' := [(3, .int 0), (0, .ref m0), (1, .int 0), (2, .int 2)]) hx hb dX4_copy_1 rfl hl (by decide) rfl (fun ls hl => ?_)
  have L_2 : ∀ (n9 : Nat) (i : Nat) (xh0 : FN) (xg0 : FN) (xf0 : FN) (xk0 : FN), (i ≤ 7) → (∀ j, j < i → xh0 j = fh j ∧ xg0 j = fg j ∧ xf0 j = ff j ∧ xk0 j = fk j) → (7 - i) < n9 → ∀ (H : Heap) (locs : List Loc), va_P (dC, dI) vwCl [ob m0 4 [.int (nI n), .int kn, .int fz, .ref m1, .ref m2, .ref m3, .ref m4, .ref m5, .ref m6, .ref m7, .ref m8, .ref m9, .ref m10, .ref m11, .ref m12, .ref m13], ai m1 cyI 21 (f3 fh uh xh0), ai m2 cyI 21 (f3 fg ug xg0), ai m3 cyI 21 (f3 ff uf xf0), ai m4 cyI 21 (f3 fk uk xk0), ai m5 cyI 3 (t3 vs us ts), ai m6 cyI 3 (t3 vb ub tb), ai m7 cyI 3 (t3 vd ud td), ai m8 cyI 3 (nF ct), ai m9 cyI 36 (q12 kd), ai m10 cyI 36 (q12 vl), ai m11 cyI 7 fr, ai m12 cyI 3 fp, ai m13 cyI 3 bp] H → va_D A [ob m0 4 [.int (nI n), .int kn, .int fz, .ref m1, .ref m2, .ref m3, .ref m4, .ref m5, .ref m6, .ref m7, .ref m8, .ref m9, .ref m10, .ref m11, .ref m12, .ref m13], ai m1 cyI 21 (f3 fh uh xh0), ai m2 cyI 21 (f3 fg ug xg0), ai m3 cyI 21 (f3 ff uf xf0), ai m4 cyI 21 (f3 fk uk xk0), ai m5 cyI 3 (t3 vs us ts), ai m6 cyI 3 (t3 vb ub tb), ai m7 cyI 3 (t3 vd ud td), ai m8 cyI 3 (nF ct), ai m9 cyI 36 (q12 kd), ai m10 cyI 36 (q12 vl), ai m11 cyI 7 fr, ai m12 cyI 3 fp, ai m13 cyI 3 bp] → va_S A s.heap H locs → ∀ ls : Array Slot, lv_has ls 4 [(0, .ref m0), (1, .int 0), (2, .int 2), (3, .int (nI i))] → W p l e (rm 0) s m args below meth c H locs 0 0 Q (F0 m 2 ls []) := by
    intro n9
    induction n9 with
    | zero =>
      intro i xh0 xg0 xf0 xk0 hi hz hm9
      exact absurd hm9 (Nat.not_lt_zero _)
    | succ n9 ih_2 =>
      intro i xh0 xg0 xf0 xk0 hi hz hm9 H locs hP hD hS ls hl
      refine lv_iload_n hx hb dX4_copy_2 rfl (lv_at hl 3 rfl) ?_
      refine lv_bipush (v := 7) hx hb dX4_copy_3 (by decide) ?_
      refine lv_icmp_ge (tgt := 102) hx hb dX4_copy_5 (by decide) (fun c_5 => ?_) (fun c_5 => ?_)
      · ---- to 102
        have n_5 := (nq_le 7 i (by omega) (by omega)).mp c_5
        obtain ⟨hP, hD⟩ := ra_cong hP hD 1 (f3 fh uh fh) rfl (f3_c2 (fun j hj => (hz j (by omega)).1))
        obtain ⟨hP, hD⟩ := ra_cong hP hD 2 (f3 fg ug fg) rfl (f3_c2 (fun j hj => (hz j (by omega)).2.1))
        obtain ⟨hP, hD⟩ := ra_cong hP hD 3 (f3 ff uf ff) rfl (f3_c2 (fun j hj => (hz j (by omega)).2.2.1))
        obtain ⟨hP, hD⟩ := ra_cong hP hD 4 (f3 fk uk fk) rfl (f3_c2 (fun j hj => (hz j (by omega)).2.2.2))
        have hP : va_P (dC, dI) vwCl [ob m0 4 [.int (nI n), .int kn, .int fz, .ref m1, .ref m2, .ref m3, .ref m4, .ref m5, .ref m6, .ref m7, .ref m8, .ref m9, .ref m10, .ref m11, .ref m12, .ref m13], ai m1 cyI 21 (f3 fh uh fh), ai m2 cyI 21 (f3 fg ug fg), ai m3 cyI 21 (f3 ff uf ff), ai m4 cyI 21 (f3 fk uk fk), ai m5 cyI 3 (t3 vs us ts), ai m6 cyI 3 (t3 vb ub tb), ai m7 cyI 3 (t3 vd ud td), ai m8 cyI 3 (nF ct), ai m9 cyI 36 (q12 kd), ai m10 cyI 36 (q12 vl), ai m11 cyI 7 fr, ai m12 cyI 3 fp, ai m13 cyI 3 bp] H := hP
        have hD : va_D A [ob m0 4 [.int (nI n), .int kn, .int fz, .ref m1, .ref m2, .ref m3, .ref m4, .ref m5, .ref m6, .ref m7, .ref m8, .ref m9, .ref m10, .ref m11, .ref m12, .ref m13], ai m1 cyI 21 (f3 fh uh fh), ai m2 cyI 21 (f3 fg ug fg), ai m3 cyI 21 (f3 ff uf ff), ai m4 cyI 21 (f3 fk uk fk), ai m5 cyI 3 (t3 vs us ts), ai m6 cyI 3 (t3 vb ub tb), ai m7 cyI 3 (t3 vd ud td), ai m8 cyI 3 (nF ct), ai m9 cyI 36 (q12 kd), ai m10 cyI 36 (q12 vl), ai m11 cyI 7 fr, ai m12 cyI 3 fp, ai m13 cyI 3 bp] := hD
        refine lv_aload_n hx hb dX4_copy_102 rfl (lv_at hl 0 rfl) ?_
        refine va_get (D := (dC, dI)) (ci := 4) (v := .ref m5) (C := RX4) (T := TX4) (N := 16) hx hb hts hin_X4 hown hK hP 0 rfl rfl 7 (by decide) hw_1 (fun _ h9 => h9) rfl dX4_copy_103 ?_
        refine lv_iload_n hx hb dX4_copy_106 rfl (lv_at hl 2 rfl) ?_
        refine lv_aload_n hx hb dX4_copy_107 rfl (lv_at hl 0 rfl) ?_
        refine va_get (D := (dC, dI)) (ci := 4) (v := .ref m5) (C := RX4) (T := TX4) (N := 16) hx hb hts hin_X4 hown hK hP 0 rfl rfl 7 (by decide) hw_1 (fun _ h9 => h9) rfl dX4_copy_108 ?_
        refine lv_iload_n hx hb dX4_copy_111 rfl (lv_at hl 1 rfl) ?_
        refine ra_iald hx hb hK hP 5 rfl 0 rfl (by omega) (Nat.le_of_ble_eq_true rfl) dX4_copy_112 ?_
        refine ra_top vs rfl ?_
        refine ra_iast hx hb hK hP hD hS 5 rfl 2 rfl (by omega) (Nat.le_of_ble_eq_true rfl) dX4_copy_113 (fun H locs hP hD hS => ?_)
        rw [t3_w2] at hP hD
        have hP : va_P (dC, dI) vwCl [ob m0 4 [.int (nI n), .int kn, .int fz, .ref m1, .ref m2, .ref m3, .ref m4, .ref m5, .ref m6, .ref m7, .ref m8, .ref m9, .ref m10, .ref m11, .ref m12, .ref m13], ai m1 cyI 21 (f3 fh uh fh), ai m2 cyI 21 (f3 fg ug fg), ai m3 cyI 21 (f3 ff uf ff), ai m4 cyI 21 (f3 fk uk fk), ai m5 cyI 3 (t3 vs us vs), ai m6 cyI 3 (t3 vb ub tb), ai m7 cyI 3 (t3 vd ud td), ai m8 cyI 3 (nF ct), ai m9 cyI 36 (q12 kd), ai m10 cyI 36 (q12 vl), ai m11 cyI 7 fr, ai m12 cyI 3 fp, ai m13 cyI 3 bp] H := hP
        have hD : va_D A [ob m0 4 [.int (nI n), .int kn, .int fz, .ref m1, .ref m2, .ref m3, .ref m4, .ref m5, .ref m6, .ref m7, .ref m8, .ref m9, .ref m10, .ref m11, .ref m12, .ref m13], ai m1 cyI 21 (f3 fh uh fh), ai m2 cyI 21 (f3 fg ug fg), ai m3 cyI 21 (f3 ff uf ff), ai m4 cyI 21 (f3 fk uk fk), ai m5 cyI 3 (t3 vs us vs), ai m6 cyI 3 (t3 vb ub tb), ai m7 cyI 3 (t3 vd ud td), ai m8 cyI 3 (nF ct), ai m9 cyI 36 (q12 kd), ai m10 cyI 36 (q12 vl), ai m11 cyI 7 fr, ai m12 cyI 3 fp, ai m13 cyI 3 bp] := hD
        refine lv_aload_n hx hb dX4_copy_114 rfl (lv_at hl 0 rfl) ?_
        refine va_get (D := (dC, dI)) (ci := 4) (v := .ref m6) (C := RX4) (T := TX4) (N := 16) hx hb hts hin_X4 hown hK hP 0 rfl rfl 8 (by decide) hw_3 (fun _ h9 => h9) rfl dX4_copy_115 ?_
        refine lv_iload_n hx hb dX4_copy_118 rfl (lv_at hl 2 rfl) ?_
        refine lv_aload_n hx hb dX4_copy_119 rfl (lv_at hl 0 rfl) ?_
        refine va_get (D := (dC, dI)) (ci := 4) (v := .ref m6) (C := RX4) (T := TX4) (N := 16) hx hb hts hin_X4 hown hK hP 0 rfl rfl 8 (by decide) hw_3 (fun _ h9 => h9) rfl dX4_copy_120 ?_
        refine lv_iload_n hx hb dX4_copy_123 rfl (lv_at hl 1 rfl) ?_
        refine ra_iald hx hb hK hP 6 rfl 0 rfl (by omega) (Nat.le_of_ble_eq_true rfl) dX4_copy_124 ?_
        refine ra_top vb rfl ?_
        refine ra_iast hx hb hK hP hD hS 6 rfl 2 rfl (by omega) (Nat.le_of_ble_eq_true rfl) dX4_copy_125 (fun H locs hP hD hS => ?_)
        rw [t3_w2] at hP hD
        have hP : va_P (dC, dI) vwCl [ob m0 4 [.int (nI n), .int kn, .int fz, .ref m1, .ref m2, .ref m3, .ref m4, .ref m5, .ref m6, .ref m7, .ref m8, .ref m9, .ref m10, .ref m11, .ref m12, .ref m13], ai m1 cyI 21 (f3 fh uh fh), ai m2 cyI 21 (f3 fg ug fg), ai m3 cyI 21 (f3 ff uf ff), ai m4 cyI 21 (f3 fk uk fk), ai m5 cyI 3 (t3 vs us vs), ai m6 cyI 3 (t3 vb ub vb), ai m7 cyI 3 (t3 vd ud td), ai m8 cyI 3 (nF ct), ai m9 cyI 36 (q12 kd), ai m10 cyI 36 (q12 vl), ai m11 cyI 7 fr, ai m12 cyI 3 fp, ai m13 cyI 3 bp] H := hP
        have hD : va_D A [ob m0 4 [.int (nI n), .int kn, .int fz, .ref m1, .ref m2, .ref m3, .ref m4, .ref m5, .ref m6, .ref m7, .ref m8, .ref m9, .ref m10, .ref m11, .ref m12, .ref m13], ai m1 cyI 21 (f3 fh uh fh), ai m2 cyI 21 (f3 fg ug fg), ai m3 cyI 21 (f3 ff uf ff), ai m4 cyI 21 (f3 fk uk fk), ai m5 cyI 3 (t3 vs us vs), ai m6 cyI 3 (t3 vb ub vb), ai m7 cyI 3 (t3 vd ud td), ai m8 cyI 3 (nF ct), ai m9 cyI 36 (q12 kd), ai m10 cyI 36 (q12 vl), ai m11 cyI 7 fr, ai m12 cyI 3 fp, ai m13 cyI 3 bp] := hD
        refine lv_aload_n hx hb dX4_copy_126 rfl (lv_at hl 0 rfl) ?_
        refine va_get (D := (dC, dI)) (ci := 4) (v := .ref m7) (C := RX4) (T := TX4) (N := 16) hx hb hts hin_X4 hown hK hP 0 rfl rfl 9 (by decide) hw_4 (fun _ h9 => h9) rfl dX4_copy_127 ?_
        refine lv_iload_n hx hb dX4_copy_130 rfl (lv_at hl 2 rfl) ?_
        refine lv_aload_n hx hb dX4_copy_131 rfl (lv_at hl 0 rfl) ?_
        refine va_get (D := (dC, dI)) (ci := 4) (v := .ref m7) (C := RX4) (T := TX4) (N := 16) hx hb hts hin_X4 hown hK hP 0 rfl rfl 9 (by decide) hw_4 (fun _ h9 => h9) rfl dX4_copy_132 ?_
        refine lv_iload_n hx hb dX4_copy_135 rfl (lv_at hl 1 rfl) ?_
        refine ra_iald hx hb hK hP 7 rfl 0 rfl (by omega) (Nat.le_of_ble_eq_true rfl) dX4_copy_136 ?_
        refine ra_top vd rfl ?_
        refine ra_iast hx hb hK hP hD hS 7 rfl 2 rfl (by omega) (Nat.le_of_ble_eq_true rfl) dX4_copy_137 (fun H locs hP hD hS => ?_)
        rw [t3_w2] at hP hD
        have hP : va_P (dC, dI) vwCl [ob m0 4 [.int (nI n), .int kn, .int fz, .ref m1, .ref m2, .ref m3, .ref m4, .ref m5, .ref m6, .ref m7, .ref m8, .ref m9, .ref m10, .ref m11, .ref m12, .ref m13], ai m1 cyI 21 (f3 fh uh fh), ai m2 cyI 21 (f3 fg ug fg), ai m3 cyI 21 (f3 ff uf ff), ai m4 cyI 21 (f3 fk uk fk), ai m5 cyI 3 (t3 vs us vs), ai m6 cyI 3 (t3 vb ub vb), ai m7 cyI 3 (t3 vd ud vd), ai m8 cyI 3 (nF ct), ai m9 cyI 36 (q12 kd), ai m10 cyI 36 (q12 vl), ai m11 cyI 7 fr, ai m12 cyI 3 fp, ai m13 cyI 3 bp] H := hP
        have hD : va_D A [ob m0 4 [.int (nI n), .int kn, .int fz, .ref m1, .ref m2, .ref m3, .ref m4, .ref m5, .ref m6, .ref m7, .ref m8, .ref m9, .ref m10, .ref m11, .ref m12, .ref m13], ai m1 cyI 21 (f3 fh uh fh), ai m2 cyI 21 (f3 fg ug fg), ai m3 cyI 21 (f3 ff uf ff), ai m4 cyI 21 (f3 fk uk fk), ai m5 cyI 3 (t3 vs us vs), ai m6 cyI 3 (t3 vb ub vb), ai m7 cyI 3 (t3 vd ud vd), ai m8 cyI 3 (nF ct), ai m9 cyI 36 (q12 kd), ai m10 cyI 36 (q12 vl), ai m11 cyI 7 fr, ai m12 cyI 3 fp, ai m13 cyI 3 bp] := hD
        rw [hQ]
        exact ra_vretW () hx hb hr hlocks hK hP hD hS trivial dX4_copy_138
      · ---- on
        have n_5 := (nq_le_n 7 i (by omega) (by omega)).mp c_5
        refine lv_aload_n hx hb dX4_copy_8 rfl (lv_at hl 0 rfl) ?_
        refine va_get (D := (dC, dI)) (ci := 4) (v := .ref m1) (C := RX4) (T := TX4) (N := 16) hx hb hts hin_X4 hown hK hP 0 rfl rfl 3 (by decide) hw_5 (fun _ h9 => h9) rfl dX4_copy_9 ?_
        refine lv_bipush (v := 7) hx hb dX4_copy_12 (by decide) ?_
        refine lv_iload_n hx hb dX4_copy_14 rfl (lv_at hl 2 rfl) ?_
        refine lv_imul hx hb dX4_copy_15 ?_
        refine ra_top (14) (by decide) ?_
        refine lv_iload_n hx hb dX4_copy_16 rfl (lv_at hl 3 rfl) ?_
        refine lv_iadd hx hb dX4_copy_17 ?_
        refine ra_top (nI (14 + i)) (nI_add 14 i) ?_
        refine lv_aload_n hx hb dX4_copy_18 rfl (lv_at hl 0 rfl) ?_
        refine va_get (D := (dC, dI)) (ci := 4) (v := .ref m1) (C := RX4) (T := TX4) (N := 16) hx hb hts hin_X4 hown hK hP 0 rfl rfl 3 (by decide) hw_5 (fun _ h9 => h9) rfl dX4_copy_19 ?_
        refine lv_bipush (v := 7) hx hb dX4_copy_22 (by decide) ?_
        refine lv_iload_n hx hb dX4_copy_24 rfl (lv_at hl 1 rfl) ?_
        refine lv_imul hx hb dX4_copy_25 ?_
        refine ra_top (0) (by decide) ?_
        refine lv_iload_n hx hb dX4_copy_26 rfl (lv_at hl 3 rfl) ?_
        refine lv_iadd hx hb dX4_copy_27 ?_
        refine ra_top (nI i) (Int32.zero_add _) ?_
        refine ra_iald hx hb hK hP 1 rfl i rfl (by omega) (Nat.le_of_ble_eq_true rfl) dX4_copy_28 ?_
        refine ra_top (fh i) (f3_r0 _ _ _ (by omega)) ?_
        refine ra_iast hx hb hK hP hD hS 1 rfl (14 + i) rfl (by omega) (Nat.le_of_ble_eq_true rfl) dX4_copy_29 (fun H locs hP hD hS => ?_)
        rw [f3_w2] at hP hD
        have hP : va_P (dC, dI) vwCl [ob m0 4 [.int (nI n), .int kn, .int fz, .ref m1, .ref m2, .ref m3, .ref m4, .ref m5, .ref m6, .ref m7, .ref m8, .ref m9, .ref m10, .ref m11, .ref m12, .ref m13], ai m1 cyI 21 (f3 fh uh (upd xh0 i (fh i))), ai m2 cyI 21 (f3 fg ug xg0), ai m3 cyI 21 (f3 ff uf xf0), ai m4 cyI 21 (f3 fk uk xk0), ai m5 cyI 3 (t3 vs us ts), ai m6 cyI 3 (t3 vb ub tb), ai m7 cyI 3 (t3 vd ud td), ai m8 cyI 3 (nF ct), ai m9 cyI 36 (q12 kd), ai m10 cyI 36 (q12 vl), ai m11 cyI 7 fr, ai m12 cyI 3 fp, ai m13 cyI 3 bp] H := hP
        have hD : va_D A [ob m0 4 [.int (nI n), .int kn, .int fz, .ref m1, .ref m2, .ref m3, .ref m4, .ref m5, .ref m6, .ref m7, .ref m8, .ref m9, .ref m10, .ref m11, .ref m12, .ref m13], ai m1 cyI 21 (f3 fh uh (upd xh0 i (fh i))), ai m2 cyI 21 (f3 fg ug xg0), ai m3 cyI 21 (f3 ff uf xf0), ai m4 cyI 21 (f3 fk uk xk0), ai m5 cyI 3 (t3 vs us ts), ai m6 cyI 3 (t3 vb ub tb), ai m7 cyI 3 (t3 vd ud td), ai m8 cyI 3 (nF ct), ai m9 cyI 36 (q12 kd), ai m10 cyI 36 (q12 vl), ai m11 cyI 7 fr, ai m12 cyI 3 fp, ai m13 cyI 3 bp] := hD
        refine lv_aload_n hx hb dX4_copy_30 rfl (lv_at hl 0 rfl) ?_
        refine va_get (D := (dC, dI)) (ci := 4) (v := .ref m2) (C := RX4) (T := TX4) (N := 16) hx hb hts hin_X4 hown hK hP 0 rfl rfl 4 (by decide) hw_6 (fun _ h9 => h9) rfl dX4_copy_31 ?_
        refine lv_bipush (v := 7) hx hb dX4_copy_34 (by decide) ?_
        refine lv_iload_n hx hb dX4_copy_36 rfl (lv_at hl 2 rfl) ?_
        refine lv_imul hx hb dX4_copy_37 ?_
        refine ra_top (14) (by decide) ?_
        refine lv_iload_n hx hb dX4_copy_38 rfl (lv_at hl 3 rfl) ?_
        refine lv_iadd hx hb dX4_copy_39 ?_
        refine ra_top (nI (14 + i)) (nI_add 14 i) ?_
        refine lv_aload_n hx hb dX4_copy_40 rfl (lv_at hl 0 rfl) ?_
        refine va_get (D := (dC, dI)) (ci := 4) (v := .ref m2) (C := RX4) (T := TX4) (N := 16) hx hb hts hin_X4 hown hK hP 0 rfl rfl 4 (by decide) hw_6 (fun _ h9 => h9) rfl dX4_copy_41 ?_
        refine lv_bipush (v := 7) hx hb dX4_copy_44 (by decide) ?_
        refine lv_iload_n hx hb dX4_copy_46 rfl (lv_at hl 1 rfl) ?_
        refine lv_imul hx hb dX4_copy_47 ?_
        refine ra_top (0) (by decide) ?_
        refine lv_iload_n hx hb dX4_copy_48 rfl (lv_at hl 3 rfl) ?_
        refine lv_iadd hx hb dX4_copy_49 ?_
        refine ra_top (nI i) (Int32.zero_add _) ?_
        refine ra_iald hx hb hK hP 2 rfl i rfl (by omega) (Nat.le_of_ble_eq_true rfl) dX4_copy_50 ?_
        refine ra_top (fg i) (f3_r0 _ _ _ (by omega)) ?_
        refine ra_iast hx hb hK hP hD hS 2 rfl (14 + i) rfl (by omega) (Nat.le_of_ble_eq_true rfl) dX4_copy_51 (fun H locs hP hD hS => ?_)
        rw [f3_w2] at hP hD
        have hP : va_P (dC, dI) vwCl [ob m0 4 [.int (nI n), .int kn, .int fz, .ref m1, .ref m2, .ref m3, .ref m4, .ref m5, .ref m6, .ref m7, .ref m8, .ref m9, .ref m10, .ref m11, .ref m12, .ref m13], ai m1 cyI 21 (f3 fh uh (upd xh0 i (fh i))), ai m2 cyI 21 (f3 fg ug (upd xg0 i (fg i))), ai m3 cyI 21 (f3 ff uf xf0), ai m4 cyI 21 (f3 fk uk xk0), ai m5 cyI 3 (t3 vs us ts), ai m6 cyI 3 (t3 vb ub tb), ai m7 cyI 3 (t3 vd ud td), ai m8 cyI 3 (nF ct), ai m9 cyI 36 (q12 kd), ai m10 cyI 36 (q12 vl), ai m11 cyI 7 fr, ai m12 cyI 3 fp, ai m13 cyI 3 bp] H := hP
        have hD : va_D A [ob m0 4 [.int (nI n), .int kn, .int fz, .ref m1, .ref m2, .ref m3, .ref m4, .ref m5, .ref m6, .ref m7, .ref m8, .ref m9, .ref m10, .ref m11, .ref m12, .ref m13], ai m1 cyI 21 (f3 fh uh (upd xh0 i (fh i))), ai m2 cyI 21 (f3 fg ug (upd xg0 i (fg i))), ai m3 cyI 21 (f3 ff uf xf0), ai m4 cyI 21 (f3 fk uk xk0), ai m5 cyI 3 (t3 vs us ts), ai m6 cyI 3 (t3 vb ub tb), ai m7 cyI 3 (t3 vd ud td), ai m8 cyI 3 (nF ct), ai m9 cyI 36 (q12 kd), ai m10 cyI 36 (q12 vl), ai m11 cyI 7 fr, ai m12 cyI 3 fp, ai m13 cyI 3 bp] := hD
        refine lv_aload_n hx hb dX4_copy_52 rfl (lv_at hl 0 rfl) ?_
        refine va_get (D := (dC, dI)) (ci := 4) (v := .ref m3) (C := RX4) (T := TX4) (N := 16) hx hb hts hin_X4 hown hK hP 0 rfl rfl 5 (by decide) hw_7 (fun _ h9 => h9) rfl dX4_copy_53 ?_
        refine lv_bipush (v := 7) hx hb dX4_copy_56 (by decide) ?_
        refine lv_iload_n hx hb dX4_copy_58 rfl (lv_at hl 2 rfl) ?_
        refine lv_imul hx hb dX4_copy_59 ?_
        refine ra_top (14) (by decide) ?_
        refine lv_iload_n hx hb dX4_copy_60 rfl (lv_at hl 3 rfl) ?_
        refine lv_iadd hx hb dX4_copy_61 ?_
        refine ra_top (nI (14 + i)) (nI_add 14 i) ?_
        refine lv_aload_n hx hb dX4_copy_62 rfl (lv_at hl 0 rfl) ?_
        refine va_get (D := (dC, dI)) (ci := 4) (v := .ref m3) (C := RX4) (T := TX4) (N := 16) hx hb hts hin_X4 hown hK hP 0 rfl rfl 5 (by decide) hw_7 (fun _ h9 => h9) rfl dX4_copy_63 ?_
        refine lv_bipush (v := 7) hx hb dX4_copy_66 (by decide) ?_
        refine lv_iload_n hx hb dX4_copy_68 rfl (lv_at hl 1 rfl) ?_
        refine lv_imul hx hb dX4_copy_69 ?_
        refine ra_top (0) (by decide) ?_
        refine lv_iload_n hx hb dX4_copy_70 rfl (lv_at hl 3 rfl) ?_
        refine lv_iadd hx hb dX4_copy_71 ?_
        refine ra_top (nI i) (Int32.zero_add _) ?_
        refine ra_iald hx hb hK hP 3 rfl i rfl (by omega) (Nat.le_of_ble_eq_true rfl) dX4_copy_72 ?_
        refine ra_top (ff i) (f3_r0 _ _ _ (by omega)) ?_
        refine ra_iast hx hb hK hP hD hS 3 rfl (14 + i) rfl (by omega) (Nat.le_of_ble_eq_true rfl) dX4_copy_73 (fun H locs hP hD hS => ?_)
        rw [f3_w2] at hP hD
        have hP : va_P (dC, dI) vwCl [ob m0 4 [.int (nI n), .int kn, .int fz, .ref m1, .ref m2, .ref m3, .ref m4, .ref m5, .ref m6, .ref m7, .ref m8, .ref m9, .ref m10, .ref m11, .ref m12, .ref m13], ai m1 cyI 21 (f3 fh uh (upd xh0 i (fh i))), ai m2 cyI 21 (f3 fg ug (upd xg0 i (fg i))), ai m3 cyI 21 (f3 ff uf (upd xf0 i (ff i))), ai m4 cyI 21 (f3 fk uk xk0), ai m5 cyI 3 (t3 vs us ts), ai m6 cyI 3 (t3 vb ub tb), ai m7 cyI 3 (t3 vd ud td), ai m8 cyI 3 (nF ct), ai m9 cyI 36 (q12 kd), ai m10 cyI 36 (q12 vl), ai m11 cyI 7 fr, ai m12 cyI 3 fp, ai m13 cyI 3 bp] H := hP
        have hD : va_D A [ob m0 4 [.int (nI n), .int kn, .int fz, .ref m1, .ref m2, .ref m3, .ref m4, .ref m5, .ref m6, .ref m7, .ref m8, .ref m9, .ref m10, .ref m11, .ref m12, .ref m13], ai m1 cyI 21 (f3 fh uh (upd xh0 i (fh i))), ai m2 cyI 21 (f3 fg ug (upd xg0 i (fg i))), ai m3 cyI 21 (f3 ff uf (upd xf0 i (ff i))), ai m4 cyI 21 (f3 fk uk xk0), ai m5 cyI 3 (t3 vs us ts), ai m6 cyI 3 (t3 vb ub tb), ai m7 cyI 3 (t3 vd ud td), ai m8 cyI 3 (nF ct), ai m9 cyI 36 (q12 kd), ai m10 cyI 36 (q12 vl), ai m11 cyI 7 fr, ai m12 cyI 3 fp, ai m13 cyI 3 bp] := hD
        refine lv_aload_n hx hb dX4_copy_74 rfl (lv_at hl 0 rfl) ?_
        refine va_get (D := (dC, dI)) (ci := 4) (v := .ref m4) (C := RX4) (T := TX4) (N := 16) hx hb hts hin_X4 hown hK hP 0 rfl rfl 6 (by decide) hw_8 (fun _ h9 => h9) rfl dX4_copy_75 ?_
        refine lv_bipush (v := 7) hx hb dX4_copy_78 (by decide) ?_
        refine lv_iload_n hx hb dX4_copy_80 rfl (lv_at hl 2 rfl) ?_
        refine lv_imul hx hb dX4_copy_81 ?_
        refine ra_top (14) (by decide) ?_
        refine lv_iload_n hx hb dX4_copy_82 rfl (lv_at hl 3 rfl) ?_
        refine lv_iadd hx hb dX4_copy_83 ?_
        refine ra_top (nI (14 + i)) (nI_add 14 i) ?_
        refine lv_aload_n hx hb dX4_copy_84 rfl (lv_at hl 0 rfl) ?_
        refine va_get (D := (dC, dI)) (ci := 4) (v := .ref m4) (C := RX4) (T := TX4) (N := 16) hx hb hts hin_X4 hown hK hP 0 rfl rfl 6 (by decide) hw_8 (fun _ h9 => h9) rfl dX4_copy_85 ?_
        refine lv_bipush (v := 7) hx hb dX4_copy_88 (by decide) ?_
        refine lv_iload_n hx hb dX4_copy_90 rfl (lv_at hl 1 rfl) ?_
        refine lv_imul hx hb dX4_copy_91 ?_
        refine ra_top (0) (by decide) ?_
        refine lv_iload_n hx hb dX4_copy_92 rfl (lv_at hl 3 rfl) ?_
        refine lv_iadd hx hb dX4_copy_93 ?_
        refine ra_top (nI i) (Int32.zero_add _) ?_
        refine ra_iald hx hb hK hP 4 rfl i rfl (by omega) (Nat.le_of_ble_eq_true rfl) dX4_copy_94 ?_
        refine ra_top (fk i) (f3_r0 _ _ _ (by omega)) ?_
        refine ra_iast hx hb hK hP hD hS 4 rfl (14 + i) rfl (by omega) (Nat.le_of_ble_eq_true rfl) dX4_copy_95 (fun H locs hP hD hS => ?_)
        rw [f3_w2] at hP hD
        have hP : va_P (dC, dI) vwCl [ob m0 4 [.int (nI n), .int kn, .int fz, .ref m1, .ref m2, .ref m3, .ref m4, .ref m5, .ref m6, .ref m7, .ref m8, .ref m9, .ref m10, .ref m11, .ref m12, .ref m13], ai m1 cyI 21 (f3 fh uh (upd xh0 i (fh i))), ai m2 cyI 21 (f3 fg ug (upd xg0 i (fg i))), ai m3 cyI 21 (f3 ff uf (upd xf0 i (ff i))), ai m4 cyI 21 (f3 fk uk (upd xk0 i (fk i))), ai m5 cyI 3 (t3 vs us ts), ai m6 cyI 3 (t3 vb ub tb), ai m7 cyI 3 (t3 vd ud td), ai m8 cyI 3 (nF ct), ai m9 cyI 36 (q12 kd), ai m10 cyI 36 (q12 vl), ai m11 cyI 7 fr, ai m12 cyI 3 fp, ai m13 cyI 3 bp] H := hP
        have hD : va_D A [ob m0 4 [.int (nI n), .int kn, .int fz, .ref m1, .ref m2, .ref m3, .ref m4, .ref m5, .ref m6, .ref m7, .ref m8, .ref m9, .ref m10, .ref m11, .ref m12, .ref m13], ai m1 cyI 21 (f3 fh uh (upd xh0 i (fh i))), ai m2 cyI 21 (f3 fg ug (upd xg0 i (fg i))), ai m3 cyI 21 (f3 ff uf (upd xf0 i (ff i))), ai m4 cyI 21 (f3 fk uk (upd xk0 i (fk i))), ai m5 cyI 3 (t3 vs us ts), ai m6 cyI 3 (t3 vb ub tb), ai m7 cyI 3 (t3 vd ud td), ai m8 cyI 3 (nF ct), ai m9 cyI 36 (q12 kd), ai m10 cyI 36 (q12 vl), ai m11 cyI 7 fr, ai m12 cyI 3 fp, ai m13 cyI 3 bp] := hD
        refine lv_iinc (v := nI (i + 1)) (lv' := [(3, .int (nI (i + 1))), (0, .ref m0), (1, .int 0), (2, .int 2)]) hx hb dX4_copy_96 hl (k := 3) rfl (ra_inc1 _) (by decide) rfl (fun ls hl => ?_)
        refine lv_goto (tgt := 2) hx hb dX4_copy_99 (by decide) ?_
        exact ih_2 (i + 1) (upd xh0 i (fh i)) (upd xg0 i (fg i)) (upd xf0 i (ff i)) (upd xk0 i (fk i)) (by omega) (fun j hj => by by_cases h : j = i; (· subst h; simp only [pk_us, and_self]); (· simp only [pk_un h]; exact hz j (by omega))) (by omega) H locs hP hD hS ls (lv_sub hl [1, 2, 3, 0] rfl)
  exact L_2 _ 0 th tg tf tk (by omega) (fun j hj => absurd hj (Nat.not_lt_zero j)) (Nat.lt_succ_self _) H locs hP hD hS ls (lv_sub hl [1, 2, 3, 0] rfl)

set_option maxHeartbeats 4000000 in
set_option maxRecDepth 100000 in
theorem c_X4_copy10 (l : Launch) (dC : Nat → ClassId) (dI : Nat → Nat → Nat) (cyI cyA : ClassId) (m0 m1 m2 m3 m4 m5 m6 m7 m8 m9 m10 m11 m12 m13 n : Nat) (kn fz : Int32) (fh fg ff fk uh ug uf uk th tg tf tk : FN) (vs vb vd us ub ud ts tb td : Int32) (ct : Nat → Nat) (kd vl : Nat → FN) (fr fp bp : FN)  (sz : Nat) : Met l yX4_copy wsX4_copy (rm 0) (kW dC dI cyI cyA [.ref m0, .int 1, .int 0] sz [ob m0 4 [.int (nI n), .int kn, .int fz, .ref m1, .ref m2, .ref m3, .ref m4, .ref m5, .ref m6, .ref m7, .ref m8, .ref m9, .ref m10, .ref m11, .ref m12, .ref m13], ai m1 cyI 21 (f3 fh uh th), ai m2 cyI 21 (f3 fg ug tg), ai m3 cyI 21 (f3 ff uf tf), ai m4 cyI 21 (f3 fk uk tk), ai m5 cyI 3 (t3 vs us ts), ai m6 cyI 3 (t3 vb ub tb), ai m7 cyI 3 (t3 vd ud td), ai m8 cyI 3 (nF ct), ai m9 cyI 36 (q12 kd), ai m10 cyI 36 (q12 vl), ai m11 cyI 7 fr, ai m12 cyI 3 fp, ai m13 cyI 3 bp]) (qV dC dI cyI cyA (fun (_ : Unit) => True) (va_A [ob m0 4 [.int (nI n), .int kn, .int fz, .ref m1, .ref m2, .ref m3, .ref m4, .ref m5, .ref m6, .ref m7, .ref m8, .ref m9, .ref m10, .ref m11, .ref m12, .ref m13], ai m1 cyI 21 (f3 fh uh th), ai m2 cyI 21 (f3 fg ug tg), ai m3 cyI 21 (f3 ff uf tf), ai m4 cyI 21 (f3 fk uk tk), ai m5 cyI 3 (t3 vs us ts), ai m6 cyI 3 (t3 vb ub tb), ai m7 cyI 3 (t3 vd ud td), ai m8 cyI 3 (nF ct), ai m9 cyI 36 (q12 kd), ai m10 cyI 36 (q12 vl), ai m11 cyI 7 fr, ai m12 cyI 3 fp, ai m13 cyI 3 bp] sz) (fun _ => [ob m0 4 [.int (nI n), .int kn, .int fz, .ref m1, .ref m2, .ref m3, .ref m4, .ref m5, .ref m6, .ref m7, .ref m8, .ref m9, .ref m10, .ref m11, .ref m12, .ref m13], ai m1 cyI 21 (f3 uh uh th), ai m2 cyI 21 (f3 ug ug tg), ai m3 cyI 21 (f3 uf uf tf), ai m4 cyI 21 (f3 uk uk tk), ai m5 cyI 3 (t3 us us ts), ai m6 cyI 3 (t3 ub ub tb), ai m7 cyI 3 (t3 ud ud td), ai m8 cyI 3 (nF ct), ai m9 cyI 36 (q12 kd), ai m10 cyI 36 (q12 vl), ai m11 cyI 7 fr, ai m12 cyI 3 fp, ai m13 cyI 3 bp])) 0 0 (va_A [ob m0 4 [.int (nI n), .int kn, .int fz, .ref m1, .ref m2, .ref m3, .ref m4, .ref m5, .ref m6, .ref m7, .ref m8, .ref m9, .ref m10, .ref m11, .ref m12, .ref m13], ai m1 cyI 21 (f3 fh uh th), ai m2 cyI 21 (f3 fg ug tg), ai m3 cyI 21 (f3 ff uf tf), ai m4 cyI 21 (f3 fk uk tk), ai m5 cyI 3 (t3 vs us ts), ai m6 cyI 3 (t3 vb ub tb), ai m7 cyI 3 (t3 vd ud td), ai m8 cyI 3 (nF ct), ai m9 cyI 36 (q12 kd), ai m10 cyI 36 (q12 vl), ai m11 cyI 7 fr, ai m12 cyI 3 fp, ai m13 cyI 3 bp] sz) := by
  refine ra_metW (cc := cX4_copy) (maxL := 4) (Qc := fun A => qV dC dI cyI cyA (fun (_ : Unit) => True) A (fun _ => [ob m0 4 [.int (nI n), .int kn, .int fz, .ref m1, .ref m2, .ref m3, .ref m4, .ref m5, .ref m6, .ref m7, .ref m8, .ref m9, .ref m10, .ref m11, .ref m12, .ref m13], ai m1 cyI 21 (f3 uh uh th), ai m2 cyI 21 (f3 ug ug tg), ai m3 cyI 21 (f3 uf uf tf), ai m4 cyI 21 (f3 uk uk tk), ai m5 cyI 3 (t3 us us ts), ai m6 cyI 3 (t3 ub ub tb), ai m7 cyI 3 (t3 ud ud td), ai m8 cyI 3 (nF ct), ai m9 cyI 36 (q12 kd), ai m10 cyI 36 (q12 vl), ai m11 cyI 7 fr, ai m12 cyI 3 fp, ai m13 cyI 3 bp])) (by decide) rfl (Nat.le_of_ble_eq_true rfl) ?_
  intro p e s m below meth c A args Q hQ hx hb hr hlocks hml hts hown hnm hK hN hP hD hA hS ls hl
  have hl : lv_has ls 4 [(0, .ref m0), (1, .int 1), (2, .int 0)] := hl
  have hown : s.vm.findClass RX4 = some m.cls := hown
  have hw_1 := hts (.fieldLink RX4 29 "DuneBenchModel" "sea" "[I") (by decide +kernel)
  have hin_X4 : ∀ w ∈ u_ws RX4 TX4 16, w ∈ wsX4_copy := by decide +kernel
  have hw_3 := hts (.fieldLink RX4 32 "DuneBenchModel" "behind" "[I") (by decide +kernel)
  have hw_4 := hts (.fieldLink RX4 35 "DuneBenchModel" "flooded" "[I") (by decide +kernel)
  have hw_5 := hts (.fieldLink RX4 16 "DuneBenchModel" "height" "[I") (by decide +kernel)
  have hw_6 := hts (.fieldLink RX4 20 "DuneBenchModel" "grass" "[I") (by decide +kernel)
  have hw_7 := hts (.fieldLink RX4 23 "DuneBenchModel" "fence" "[I") (by decide +kernel)
  have hw_8 := hts (.fieldLink RX4 26 "DuneBenchModel" "gained" "[I") (by decide +kernel)
  obtain ⟨H, hHe⟩ : ∃ H, H = s.heap := ⟨_, rfl⟩
  obtain ⟨locs, hLe⟩ : ∃ locs : List Loc, locs = [] := ⟨_, rfl⟩
  have hP : va_P (dC, dI) vwCl [ob m0 4 [.int (nI n), .int kn, .int fz, .ref m1, .ref m2, .ref m3, .ref m4, .ref m5, .ref m6, .ref m7, .ref m8, .ref m9, .ref m10, .ref m11, .ref m12, .ref m13], ai m1 cyI 21 (f3 fh uh th), ai m2 cyI 21 (f3 fg ug tg), ai m3 cyI 21 (f3 ff uf tf), ai m4 cyI 21 (f3 fk uk tk), ai m5 cyI 3 (t3 vs us ts), ai m6 cyI 3 (t3 vb ub tb), ai m7 cyI 3 (t3 vd ud td), ai m8 cyI 3 (nF ct), ai m9 cyI 36 (q12 kd), ai m10 cyI 36 (q12 vl), ai m11 cyI 7 fr, ai m12 cyI 3 fp, ai m13 cyI 3 bp] H := by rw [hHe]; exact hP
  have hS : va_S A s.heap H locs := by rw [hHe, hLe]; exact hS
  suffices hgo : W p l e (rm 0) s m args below meth c H locs 0 0 Q (F0 m 0 ls []) by rw [hHe, hLe] at hgo; exact hgo
  refine lv_iconst (v := 0) hx hb dX4_copy_0 (by decide) ?_
  refine lv_istore_n (lv' := [(3, .int 0), (0, .ref m0), (1, .int 1), (2, .int 0)]) hx hb dX4_copy_1 rfl hl (by decide) rfl (fun ls hl => ?_)
  have L_2 : ∀ (n9 : Nat) (i : Nat) (xh0 : FN) (xg0 : FN) (xf0 : FN) (xk0 : FN), (i ≤ 7) → (∀ j, j < i → xh0 j = uh j ∧ xg0 j = ug j ∧ xf0 j = uf j ∧ xk0 j = uk j) → (7 - i) < n9 → ∀ (H : Heap) (locs : List Loc), va_P (dC, dI) vwCl [ob m0 4 [.int (nI n), .int kn, .int fz, .ref m1, .ref m2, .ref m3, .ref m4, .ref m5, .ref m6, .ref m7, .ref m8, .ref m9, .ref m10, .ref m11, .ref m12, .ref m13], ai m1 cyI 21 (f3 xh0 uh th), ai m2 cyI 21 (f3 xg0 ug tg), ai m3 cyI 21 (f3 xf0 uf tf), ai m4 cyI 21 (f3 xk0 uk tk), ai m5 cyI 3 (t3 vs us ts), ai m6 cyI 3 (t3 vb ub tb), ai m7 cyI 3 (t3 vd ud td), ai m8 cyI 3 (nF ct), ai m9 cyI 36 (q12 kd), ai m10 cyI 36 (q12 vl), ai m11 cyI 7 fr, ai m12 cyI 3 fp, ai m13 cyI 3 bp] H → va_D A [ob m0 4 [.int (nI n), .int kn, .int fz, .ref m1, .ref m2, .ref m3, .ref m4, .ref m5, .ref m6, .ref m7, .ref m8, .ref m9, .ref m10, .ref m11, .ref m12, .ref m13], ai m1 cyI 21 (f3 xh0 uh th), ai m2 cyI 21 (f3 xg0 ug tg), ai m3 cyI 21 (f3 xf0 uf tf), ai m4 cyI 21 (f3 xk0 uk tk), ai m5 cyI 3 (t3 vs us ts), ai m6 cyI 3 (t3 vb ub tb), ai m7 cyI 3 (t3 vd ud td), ai m8 cyI 3 (nF ct), ai m9 cyI 36 (q12 kd), ai m10 cyI 36 (q12 vl), ai m11 cyI 7 fr, ai m12 cyI 3 fp, ai m13 cyI 3 bp] → va_S A s.heap H locs → ∀ ls : Array Slot, lv_has ls 4 [(0, .ref m0), (1, .int 1), (2, .int 0), (3, .int (nI i))] → W p l e (rm 0) s m args below meth c H locs 0 0 Q (F0 m 2 ls []) := by
    intro n9
    induction n9 with
    | zero =>
      intro i xh0 xg0 xf0 xk0 hi hz hm9
      exact absurd hm9 (Nat.not_lt_zero _)
    | succ n9 ih_2 =>
      intro i xh0 xg0 xf0 xk0 hi hz hm9 H locs hP hD hS ls hl
      refine lv_iload_n hx hb dX4_copy_2 rfl (lv_at hl 3 rfl) ?_
      refine lv_bipush (v := 7) hx hb dX4_copy_3 (by decide) ?_
      refine lv_icmp_ge (tgt := 102) hx hb dX4_copy_5 (by decide) (fun c_5 => ?_) (fun c_5 => ?_)
      · ---- to 102
        have n_5 := (nq_le 7 i (by omega) (by omega)).mp c_5
        obtain ⟨hP, hD⟩ := ra_cong hP hD 1 (f3 uh uh th) rfl (f3_c0 (fun j hj => (hz j (by omega)).1))
        obtain ⟨hP, hD⟩ := ra_cong hP hD 2 (f3 ug ug tg) rfl (f3_c0 (fun j hj => (hz j (by omega)).2.1))
        obtain ⟨hP, hD⟩ := ra_cong hP hD 3 (f3 uf uf tf) rfl (f3_c0 (fun j hj => (hz j (by omega)).2.2.1))
        obtain ⟨hP, hD⟩ := ra_cong hP hD 4 (f3 uk uk tk) rfl (f3_c0 (fun j hj => (hz j (by omega)).2.2.2))
        have hP : va_P (dC, dI) vwCl [ob m0 4 [.int (nI n), .int kn, .int fz, .ref m1, .ref m2, .ref m3, .ref m4, .ref m5, .ref m6, .ref m7, .ref m8, .ref m9, .ref m10, .ref m11, .ref m12, .ref m13], ai m1 cyI 21 (f3 uh uh th), ai m2 cyI 21 (f3 ug ug tg), ai m3 cyI 21 (f3 uf uf tf), ai m4 cyI 21 (f3 uk uk tk), ai m5 cyI 3 (t3 vs us ts), ai m6 cyI 3 (t3 vb ub tb), ai m7 cyI 3 (t3 vd ud td), ai m8 cyI 3 (nF ct), ai m9 cyI 36 (q12 kd), ai m10 cyI 36 (q12 vl), ai m11 cyI 7 fr, ai m12 cyI 3 fp, ai m13 cyI 3 bp] H := hP
        have hD : va_D A [ob m0 4 [.int (nI n), .int kn, .int fz, .ref m1, .ref m2, .ref m3, .ref m4, .ref m5, .ref m6, .ref m7, .ref m8, .ref m9, .ref m10, .ref m11, .ref m12, .ref m13], ai m1 cyI 21 (f3 uh uh th), ai m2 cyI 21 (f3 ug ug tg), ai m3 cyI 21 (f3 uf uf tf), ai m4 cyI 21 (f3 uk uk tk), ai m5 cyI 3 (t3 vs us ts), ai m6 cyI 3 (t3 vb ub tb), ai m7 cyI 3 (t3 vd ud td), ai m8 cyI 3 (nF ct), ai m9 cyI 36 (q12 kd), ai m10 cyI 36 (q12 vl), ai m11 cyI 7 fr, ai m12 cyI 3 fp, ai m13 cyI 3 bp] := hD
        refine lv_aload_n hx hb dX4_copy_102 rfl (lv_at hl 0 rfl) ?_
        refine va_get (D := (dC, dI)) (ci := 4) (v := .ref m5) (C := RX4) (T := TX4) (N := 16) hx hb hts hin_X4 hown hK hP 0 rfl rfl 7 (by decide) hw_1 (fun _ h9 => h9) rfl dX4_copy_103 ?_
        refine lv_iload_n hx hb dX4_copy_106 rfl (lv_at hl 2 rfl) ?_
        refine lv_aload_n hx hb dX4_copy_107 rfl (lv_at hl 0 rfl) ?_
        refine va_get (D := (dC, dI)) (ci := 4) (v := .ref m5) (C := RX4) (T := TX4) (N := 16) hx hb hts hin_X4 hown hK hP 0 rfl rfl 7 (by decide) hw_1 (fun _ h9 => h9) rfl dX4_copy_108 ?_
        refine lv_iload_n hx hb dX4_copy_111 rfl (lv_at hl 1 rfl) ?_
        refine ra_iald hx hb hK hP 5 rfl 1 rfl (by omega) (Nat.le_of_ble_eq_true rfl) dX4_copy_112 ?_
        refine ra_top us rfl ?_
        refine ra_iast hx hb hK hP hD hS 5 rfl 0 rfl (by omega) (Nat.le_of_ble_eq_true rfl) dX4_copy_113 (fun H locs hP hD hS => ?_)
        rw [t3_w0] at hP hD
        have hP : va_P (dC, dI) vwCl [ob m0 4 [.int (nI n), .int kn, .int fz, .ref m1, .ref m2, .ref m3, .ref m4, .ref m5, .ref m6, .ref m7, .ref m8, .ref m9, .ref m10, .ref m11, .ref m12, .ref m13], ai m1 cyI 21 (f3 uh uh th), ai m2 cyI 21 (f3 ug ug tg), ai m3 cyI 21 (f3 uf uf tf), ai m4 cyI 21 (f3 uk uk tk), ai m5 cyI 3 (t3 us us ts), ai m6 cyI 3 (t3 vb ub tb), ai m7 cyI 3 (t3 vd ud td), ai m8 cyI 3 (nF ct), ai m9 cyI 36 (q12 kd), ai m10 cyI 36 (q12 vl), ai m11 cyI 7 fr, ai m12 cyI 3 fp, ai m13 cyI 3 bp] H := hP
        have hD : va_D A [ob m0 4 [.int (nI n), .int kn, .int fz, .ref m1, .ref m2, .ref m3, .ref m4, .ref m5, .ref m6, .ref m7, .ref m8, .ref m9, .ref m10, .ref m11, .ref m12, .ref m13], ai m1 cyI 21 (f3 uh uh th), ai m2 cyI 21 (f3 ug ug tg), ai m3 cyI 21 (f3 uf uf tf), ai m4 cyI 21 (f3 uk uk tk), ai m5 cyI 3 (t3 us us ts), ai m6 cyI 3 (t3 vb ub tb), ai m7 cyI 3 (t3 vd ud td), ai m8 cyI 3 (nF ct), ai m9 cyI 36 (q12 kd), ai m10 cyI 36 (q12 vl), ai m11 cyI 7 fr, ai m12 cyI 3 fp, ai m13 cyI 3 bp] := hD
        refine lv_aload_n hx hb dX4_copy_114 rfl (lv_at hl 0 rfl) ?_
        refine va_get (D := (dC, dI)) (ci := 4) (v := .ref m6) (C := RX4) (T := TX4) (N := 16) hx hb hts hin_X4 hown hK hP 0 rfl rfl 8 (by decide) hw_3 (fun _ h9 => h9) rfl dX4_copy_115 ?_
        refine lv_iload_n hx hb dX4_copy_118 rfl (lv_at hl 2 rfl) ?_
        refine lv_aload_n hx hb dX4_copy_119 rfl (lv_at hl 0 rfl) ?_
        refine va_get (D := (dC, dI)) (ci := 4) (v := .ref m6) (C := RX4) (T := TX4) (N := 16) hx hb hts hin_X4 hown hK hP 0 rfl rfl 8 (by decide) hw_3 (fun _ h9 => h9) rfl dX4_copy_120 ?_
        refine lv_iload_n hx hb dX4_copy_123 rfl (lv_at hl 1 rfl) ?_
        refine ra_iald hx hb hK hP 6 rfl 1 rfl (by omega) (Nat.le_of_ble_eq_true rfl) dX4_copy_124 ?_
        refine ra_top ub rfl ?_
        refine ra_iast hx hb hK hP hD hS 6 rfl 0 rfl (by omega) (Nat.le_of_ble_eq_true rfl) dX4_copy_125 (fun H locs hP hD hS => ?_)
        rw [t3_w0] at hP hD
        have hP : va_P (dC, dI) vwCl [ob m0 4 [.int (nI n), .int kn, .int fz, .ref m1, .ref m2, .ref m3, .ref m4, .ref m5, .ref m6, .ref m7, .ref m8, .ref m9, .ref m10, .ref m11, .ref m12, .ref m13], ai m1 cyI 21 (f3 uh uh th), ai m2 cyI 21 (f3 ug ug tg), ai m3 cyI 21 (f3 uf uf tf), ai m4 cyI 21 (f3 uk uk tk), ai m5 cyI 3 (t3 us us ts), ai m6 cyI 3 (t3 ub ub tb), ai m7 cyI 3 (t3 vd ud td), ai m8 cyI 3 (nF ct), ai m9 cyI 36 (q12 kd), ai m10 cyI 36 (q12 vl), ai m11 cyI 7 fr, ai m12 cyI 3 fp, ai m13 cyI 3 bp] H := hP
        have hD : va_D A [ob m0 4 [.int (nI n), .int kn, .int fz, .ref m1, .ref m2, .ref m3, .ref m4, .ref m5, .ref m6, .ref m7, .ref m8, .ref m9, .ref m10, .ref m11, .ref m12, .ref m13], ai m1 cyI 21 (f3 uh uh th), ai m2 cyI 21 (f3 ug ug tg), ai m3 cyI 21 (f3 uf uf tf), ai m4 cyI 21 (f3 uk uk tk), ai m5 cyI 3 (t3 us us ts), ai m6 cyI 3 (t3 ub ub tb), ai m7 cyI 3 (t3 vd ud td), ai m8 cyI 3 (nF ct), ai m9 cyI 36 (q12 kd), ai m10 cyI 36 (q12 vl), ai m11 cyI 7 fr, ai m12 cyI 3 fp, ai m13 cyI 3 bp] := hD
        refine lv_aload_n hx hb dX4_copy_126 rfl (lv_at hl 0 rfl) ?_
        refine va_get (D := (dC, dI)) (ci := 4) (v := .ref m7) (C := RX4) (T := TX4) (N := 16) hx hb hts hin_X4 hown hK hP 0 rfl rfl 9 (by decide) hw_4 (fun _ h9 => h9) rfl dX4_copy_127 ?_
        refine lv_iload_n hx hb dX4_copy_130 rfl (lv_at hl 2 rfl) ?_
        refine lv_aload_n hx hb dX4_copy_131 rfl (lv_at hl 0 rfl) ?_
        refine va_get (D := (dC, dI)) (ci := 4) (v := .ref m7) (C := RX4) (T := TX4) (N := 16) hx hb hts hin_X4 hown hK hP 0 rfl rfl 9 (by decide) hw_4 (fun _ h9 => h9) rfl dX4_copy_132 ?_
        refine lv_iload_n hx hb dX4_copy_135 rfl (lv_at hl 1 rfl) ?_
        refine ra_iald hx hb hK hP 7 rfl 1 rfl (by omega) (Nat.le_of_ble_eq_true rfl) dX4_copy_136 ?_
        refine ra_top ud rfl ?_
        refine ra_iast hx hb hK hP hD hS 7 rfl 0 rfl (by omega) (Nat.le_of_ble_eq_true rfl) dX4_copy_137 (fun H locs hP hD hS => ?_)
        rw [t3_w0] at hP hD
        have hP : va_P (dC, dI) vwCl [ob m0 4 [.int (nI n), .int kn, .int fz, .ref m1, .ref m2, .ref m3, .ref m4, .ref m5, .ref m6, .ref m7, .ref m8, .ref m9, .ref m10, .ref m11, .ref m12, .ref m13], ai m1 cyI 21 (f3 uh uh th), ai m2 cyI 21 (f3 ug ug tg), ai m3 cyI 21 (f3 uf uf tf), ai m4 cyI 21 (f3 uk uk tk), ai m5 cyI 3 (t3 us us ts), ai m6 cyI 3 (t3 ub ub tb), ai m7 cyI 3 (t3 ud ud td), ai m8 cyI 3 (nF ct), ai m9 cyI 36 (q12 kd), ai m10 cyI 36 (q12 vl), ai m11 cyI 7 fr, ai m12 cyI 3 fp, ai m13 cyI 3 bp] H := hP
        have hD : va_D A [ob m0 4 [.int (nI n), .int kn, .int fz, .ref m1, .ref m2, .ref m3, .ref m4, .ref m5, .ref m6, .ref m7, .ref m8, .ref m9, .ref m10, .ref m11, .ref m12, .ref m13], ai m1 cyI 21 (f3 uh uh th), ai m2 cyI 21 (f3 ug ug tg), ai m3 cyI 21 (f3 uf uf tf), ai m4 cyI 21 (f3 uk uk tk), ai m5 cyI 3 (t3 us us ts), ai m6 cyI 3 (t3 ub ub tb), ai m7 cyI 3 (t3 ud ud td), ai m8 cyI 3 (nF ct), ai m9 cyI 36 (q12 kd), ai m10 cyI 36 (q12 vl), ai m11 cyI 7 fr, ai m12 cyI 3 fp, ai m13 cyI 3 bp] := hD
        rw [hQ]
        exact ra_vretW () hx hb hr hlocks hK hP hD hS trivial dX4_copy_138
      · ---- on
        have n_5 := (nq_le_n 7 i (by omega) (by omega)).mp c_5
        refine lv_aload_n hx hb dX4_copy_8 rfl (lv_at hl 0 rfl) ?_
        refine va_get (D := (dC, dI)) (ci := 4) (v := .ref m1) (C := RX4) (T := TX4) (N := 16) hx hb hts hin_X4 hown hK hP 0 rfl rfl 3 (by decide) hw_5 (fun _ h9 => h9) rfl dX4_copy_9 ?_
        refine lv_bipush (v := 7) hx hb dX4_copy_12 (by decide) ?_
        refine lv_iload_n hx hb dX4_copy_14 rfl (lv_at hl 2 rfl) ?_
        refine lv_imul hx hb dX4_copy_15 ?_
        refine ra_top (0) (by decide) ?_
        refine lv_iload_n hx hb dX4_copy_16 rfl (lv_at hl 3 rfl) ?_
        refine lv_iadd hx hb dX4_copy_17 ?_
        refine ra_top (nI i) (Int32.zero_add _) ?_
        refine lv_aload_n hx hb dX4_copy_18 rfl (lv_at hl 0 rfl) ?_
        refine va_get (D := (dC, dI)) (ci := 4) (v := .ref m1) (C := RX4) (T := TX4) (N := 16) hx hb hts hin_X4 hown hK hP 0 rfl rfl 3 (by decide) hw_5 (fun _ h9 => h9) rfl dX4_copy_19 ?_
        refine lv_bipush (v := 7) hx hb dX4_copy_22 (by decide) ?_
        refine lv_iload_n hx hb dX4_copy_24 rfl (lv_at hl 1 rfl) ?_
        refine lv_imul hx hb dX4_copy_25 ?_
        refine ra_top (7) (by decide) ?_
        refine lv_iload_n hx hb dX4_copy_26 rfl (lv_at hl 3 rfl) ?_
        refine lv_iadd hx hb dX4_copy_27 ?_
        refine ra_top (nI (7 + i)) (nI_add 7 i) ?_
        refine ra_iald hx hb hK hP 1 rfl (7 + i) rfl (by omega) (Nat.le_of_ble_eq_true rfl) dX4_copy_28 ?_
        refine ra_top (uh i) (f3_r1 _ _ _ (by omega)) ?_
        refine ra_iast hx hb hK hP hD hS 1 rfl i rfl (by omega) (Nat.le_of_ble_eq_true rfl) dX4_copy_29 (fun H locs hP hD hS => ?_)
        rw [f3_w0 _ _ _ _ (by omega)] at hP hD
        have hP : va_P (dC, dI) vwCl [ob m0 4 [.int (nI n), .int kn, .int fz, .ref m1, .ref m2, .ref m3, .ref m4, .ref m5, .ref m6, .ref m7, .ref m8, .ref m9, .ref m10, .ref m11, .ref m12, .ref m13], ai m1 cyI 21 (f3 (upd xh0 i (uh i)) uh th), ai m2 cyI 21 (f3 xg0 ug tg), ai m3 cyI 21 (f3 xf0 uf tf), ai m4 cyI 21 (f3 xk0 uk tk), ai m5 cyI 3 (t3 vs us ts), ai m6 cyI 3 (t3 vb ub tb), ai m7 cyI 3 (t3 vd ud td), ai m8 cyI 3 (nF ct), ai m9 cyI 36 (q12 kd), ai m10 cyI 36 (q12 vl), ai m11 cyI 7 fr, ai m12 cyI 3 fp, ai m13 cyI 3 bp] H := hP
        have hD : va_D A [ob m0 4 [.int (nI n), .int kn, .int fz, .ref m1, .ref m2, .ref m3, .ref m4, .ref m5, .ref m6, .ref m7, .ref m8, .ref m9, .ref m10, .ref m11, .ref m12, .ref m13], ai m1 cyI 21 (f3 (upd xh0 i (uh i)) uh th), ai m2 cyI 21 (f3 xg0 ug tg), ai m3 cyI 21 (f3 xf0 uf tf), ai m4 cyI 21 (f3 xk0 uk tk), ai m5 cyI 3 (t3 vs us ts), ai m6 cyI 3 (t3 vb ub tb), ai m7 cyI 3 (t3 vd ud td), ai m8 cyI 3 (nF ct), ai m9 cyI 36 (q12 kd), ai m10 cyI 36 (q12 vl), ai m11 cyI 7 fr, ai m12 cyI 3 fp, ai m13 cyI 3 bp] := hD
        refine lv_aload_n hx hb dX4_copy_30 rfl (lv_at hl 0 rfl) ?_
        refine va_get (D := (dC, dI)) (ci := 4) (v := .ref m2) (C := RX4) (T := TX4) (N := 16) hx hb hts hin_X4 hown hK hP 0 rfl rfl 4 (by decide) hw_6 (fun _ h9 => h9) rfl dX4_copy_31 ?_
        refine lv_bipush (v := 7) hx hb dX4_copy_34 (by decide) ?_
        refine lv_iload_n hx hb dX4_copy_36 rfl (lv_at hl 2 rfl) ?_
        refine lv_imul hx hb dX4_copy_37 ?_
        refine ra_top (0) (by decide) ?_
        refine lv_iload_n hx hb dX4_copy_38 rfl (lv_at hl 3 rfl) ?_
        refine lv_iadd hx hb dX4_copy_39 ?_
        refine ra_top (nI i) (Int32.zero_add _) ?_
        refine lv_aload_n hx hb dX4_copy_40 rfl (lv_at hl 0 rfl) ?_
        refine va_get (D := (dC, dI)) (ci := 4) (v := .ref m2) (C := RX4) (T := TX4) (N := 16) hx hb hts hin_X4 hown hK hP 0 rfl rfl 4 (by decide) hw_6 (fun _ h9 => h9) rfl dX4_copy_41 ?_
        refine lv_bipush (v := 7) hx hb dX4_copy_44 (by decide) ?_
        refine lv_iload_n hx hb dX4_copy_46 rfl (lv_at hl 1 rfl) ?_
        refine lv_imul hx hb dX4_copy_47 ?_
        refine ra_top (7) (by decide) ?_
        refine lv_iload_n hx hb dX4_copy_48 rfl (lv_at hl 3 rfl) ?_
        refine lv_iadd hx hb dX4_copy_49 ?_
        refine ra_top (nI (7 + i)) (nI_add 7 i) ?_
        refine ra_iald hx hb hK hP 2 rfl (7 + i) rfl (by omega) (Nat.le_of_ble_eq_true rfl) dX4_copy_50 ?_
        refine ra_top (ug i) (f3_r1 _ _ _ (by omega)) ?_
        refine ra_iast hx hb hK hP hD hS 2 rfl i rfl (by omega) (Nat.le_of_ble_eq_true rfl) dX4_copy_51 (fun H locs hP hD hS => ?_)
        rw [f3_w0 _ _ _ _ (by omega)] at hP hD
        have hP : va_P (dC, dI) vwCl [ob m0 4 [.int (nI n), .int kn, .int fz, .ref m1, .ref m2, .ref m3, .ref m4, .ref m5, .ref m6, .ref m7, .ref m8, .ref m9, .ref m10, .ref m11, .ref m12, .ref m13], ai m1 cyI 21 (f3 (upd xh0 i (uh i)) uh th), ai m2 cyI 21 (f3 (upd xg0 i (ug i)) ug tg), ai m3 cyI 21 (f3 xf0 uf tf), ai m4 cyI 21 (f3 xk0 uk tk), ai m5 cyI 3 (t3 vs us ts), ai m6 cyI 3 (t3 vb ub tb), ai m7 cyI 3 (t3 vd ud td), ai m8 cyI 3 (nF ct), ai m9 cyI 36 (q12 kd), ai m10 cyI 36 (q12 vl), ai m11 cyI 7 fr, ai m12 cyI 3 fp, ai m13 cyI 3 bp] H := hP
        have hD : va_D A [ob m0 4 [.int (nI n), .int kn, .int fz, .ref m1, .ref m2, .ref m3, .ref m4, .ref m5, .ref m6, .ref m7, .ref m8, .ref m9, .ref m10, .ref m11, .ref m12, .ref m13], ai m1 cyI 21 (f3 (upd xh0 i (uh i)) uh th), ai m2 cyI 21 (f3 (upd xg0 i (ug i)) ug tg), ai m3 cyI 21 (f3 xf0 uf tf), ai m4 cyI 21 (f3 xk0 uk tk), ai m5 cyI 3 (t3 vs us ts), ai m6 cyI 3 (t3 vb ub tb), ai m7 cyI 3 (t3 vd ud td), ai m8 cyI 3 (nF ct), ai m9 cyI 36 (q12 kd), ai m10 cyI 36 (q12 vl), ai m11 cyI 7 fr, ai m12 cyI 3 fp, ai m13 cyI 3 bp] := hD
        refine lv_aload_n hx hb dX4_copy_52 rfl (lv_at hl 0 rfl) ?_
        refine va_get (D := (dC, dI)) (ci := 4) (v := .ref m3) (C := RX4) (T := TX4) (N := 16) hx hb hts hin_X4 hown hK hP 0 rfl rfl 5 (by decide) hw_7 (fun _ h9 => h9) rfl dX4_copy_53 ?_
        refine lv_bipush (v := 7) hx hb dX4_copy_56 (by decide) ?_
        refine lv_iload_n hx hb dX4_copy_58 rfl (lv_at hl 2 rfl) ?_
        refine lv_imul hx hb dX4_copy_59 ?_
        refine ra_top (0) (by decide) ?_
        refine lv_iload_n hx hb dX4_copy_60 rfl (lv_at hl 3 rfl) ?_
        refine lv_iadd hx hb dX4_copy_61 ?_
        refine ra_top (nI i) (Int32.zero_add _) ?_
        refine lv_aload_n hx hb dX4_copy_62 rfl (lv_at hl 0 rfl) ?_
        refine va_get (D := (dC, dI)) (ci := 4) (v := .ref m3) (C := RX4) (T := TX4) (N := 16) hx hb hts hin_X4 hown hK hP 0 rfl rfl 5 (by decide) hw_7 (fun _ h9 => h9) rfl dX4_copy_63 ?_
        refine lv_bipush (v := 7) hx hb dX4_copy_66 (by decide) ?_
        refine lv_iload_n hx hb dX4_copy_68 rfl (lv_at hl 1 rfl) ?_
        refine lv_imul hx hb dX4_copy_69 ?_
        refine ra_top (7) (by decide) ?_
        refine lv_iload_n hx hb dX4_copy_70 rfl (lv_at hl 3 rfl) ?_
        refine lv_iadd hx hb dX4_copy_71 ?_
        refine ra_top (nI (7 + i)) (nI_add 7 i) ?_
        refine ra_iald hx hb hK hP 3 rfl (7 + i) rfl (by omega) (Nat.le_of_ble_eq_true rfl) dX4_copy_72 ?_
        refine ra_top (uf i) (f3_r1 _ _ _ (by omega)) ?_
        refine ra_iast hx hb hK hP hD hS 3 rfl i rfl (by omega) (Nat.le_of_ble_eq_true rfl) dX4_copy_73 (fun H locs hP hD hS => ?_)
        rw [f3_w0 _ _ _ _ (by omega)] at hP hD
        have hP : va_P (dC, dI) vwCl [ob m0 4 [.int (nI n), .int kn, .int fz, .ref m1, .ref m2, .ref m3, .ref m4, .ref m5, .ref m6, .ref m7, .ref m8, .ref m9, .ref m10, .ref m11, .ref m12, .ref m13], ai m1 cyI 21 (f3 (upd xh0 i (uh i)) uh th), ai m2 cyI 21 (f3 (upd xg0 i (ug i)) ug tg), ai m3 cyI 21 (f3 (upd xf0 i (uf i)) uf tf), ai m4 cyI 21 (f3 xk0 uk tk), ai m5 cyI 3 (t3 vs us ts), ai m6 cyI 3 (t3 vb ub tb), ai m7 cyI 3 (t3 vd ud td), ai m8 cyI 3 (nF ct), ai m9 cyI 36 (q12 kd), ai m10 cyI 36 (q12 vl), ai m11 cyI 7 fr, ai m12 cyI 3 fp, ai m13 cyI 3 bp] H := hP
        have hD : va_D A [ob m0 4 [.int (nI n), .int kn, .int fz, .ref m1, .ref m2, .ref m3, .ref m4, .ref m5, .ref m6, .ref m7, .ref m8, .ref m9, .ref m10, .ref m11, .ref m12, .ref m13], ai m1 cyI 21 (f3 (upd xh0 i (uh i)) uh th), ai m2 cyI 21 (f3 (upd xg0 i (ug i)) ug tg), ai m3 cyI 21 (f3 (upd xf0 i (uf i)) uf tf), ai m4 cyI 21 (f3 xk0 uk tk), ai m5 cyI 3 (t3 vs us ts), ai m6 cyI 3 (t3 vb ub tb), ai m7 cyI 3 (t3 vd ud td), ai m8 cyI 3 (nF ct), ai m9 cyI 36 (q12 kd), ai m10 cyI 36 (q12 vl), ai m11 cyI 7 fr, ai m12 cyI 3 fp, ai m13 cyI 3 bp] := hD
        refine lv_aload_n hx hb dX4_copy_74 rfl (lv_at hl 0 rfl) ?_
        refine va_get (D := (dC, dI)) (ci := 4) (v := .ref m4) (C := RX4) (T := TX4) (N := 16) hx hb hts hin_X4 hown hK hP 0 rfl rfl 6 (by decide) hw_8 (fun _ h9 => h9) rfl dX4_copy_75 ?_
        refine lv_bipush (v := 7) hx hb dX4_copy_78 (by decide) ?_
        refine lv_iload_n hx hb dX4_copy_80 rfl (lv_at hl 2 rfl) ?_
        refine lv_imul hx hb dX4_copy_81 ?_
        refine ra_top (0) (by decide) ?_
        refine lv_iload_n hx hb dX4_copy_82 rfl (lv_at hl 3 rfl) ?_
        refine lv_iadd hx hb dX4_copy_83 ?_
        refine ra_top (nI i) (Int32.zero_add _) ?_
        refine lv_aload_n hx hb dX4_copy_84 rfl (lv_at hl 0 rfl) ?_
        refine va_get (D := (dC, dI)) (ci := 4) (v := .ref m4) (C := RX4) (T := TX4) (N := 16) hx hb hts hin_X4 hown hK hP 0 rfl rfl 6 (by decide) hw_8 (fun _ h9 => h9) rfl dX4_copy_85 ?_
        refine lv_bipush (v := 7) hx hb dX4_copy_88 (by decide) ?_
        refine lv_iload_n hx hb dX4_copy_90 rfl (lv_at hl 1 rfl) ?_
        refine lv_imul hx hb dX4_copy_91 ?_
        refine ra_top (7) (by decide) ?_
        refine lv_iload_n hx hb dX4_copy_92 rfl (lv_at hl 3 rfl) ?_
        refine lv_iadd hx hb dX4_copy_93 ?_
        refine ra_top (nI (7 + i)) (nI_add 7 i) ?_
        refine ra_iald hx hb hK hP 4 rfl (7 + i) rfl (by omega) (Nat.le_of_ble_eq_true rfl) dX4_copy_94 ?_
        refine ra_top (uk i) (f3_r1 _ _ _ (by omega)) ?_
        refine ra_iast hx hb hK hP hD hS 4 rfl i rfl (by omega) (Nat.le_of_ble_eq_true rfl) dX4_copy_95 (fun H locs hP hD hS => ?_)
        rw [f3_w0 _ _ _ _ (by omega)] at hP hD
        have hP : va_P (dC, dI) vwCl [ob m0 4 [.int (nI n), .int kn, .int fz, .ref m1, .ref m2, .ref m3, .ref m4, .ref m5, .ref m6, .ref m7, .ref m8, .ref m9, .ref m10, .ref m11, .ref m12, .ref m13], ai m1 cyI 21 (f3 (upd xh0 i (uh i)) uh th), ai m2 cyI 21 (f3 (upd xg0 i (ug i)) ug tg), ai m3 cyI 21 (f3 (upd xf0 i (uf i)) uf tf), ai m4 cyI 21 (f3 (upd xk0 i (uk i)) uk tk), ai m5 cyI 3 (t3 vs us ts), ai m6 cyI 3 (t3 vb ub tb), ai m7 cyI 3 (t3 vd ud td), ai m8 cyI 3 (nF ct), ai m9 cyI 36 (q12 kd), ai m10 cyI 36 (q12 vl), ai m11 cyI 7 fr, ai m12 cyI 3 fp, ai m13 cyI 3 bp] H := hP
        have hD : va_D A [ob m0 4 [.int (nI n), .int kn, .int fz, .ref m1, .ref m2, .ref m3, .ref m4, .ref m5, .ref m6, .ref m7, .ref m8, .ref m9, .ref m10, .ref m11, .ref m12, .ref m13], ai m1 cyI 21 (f3 (upd xh0 i (uh i)) uh th), ai m2 cyI 21 (f3 (upd xg0 i (ug i)) ug tg), ai m3 cyI 21 (f3 (upd xf0 i (uf i)) uf tf), ai m4 cyI 21 (f3 (upd xk0 i (uk i)) uk tk), ai m5 cyI 3 (t3 vs us ts), ai m6 cyI 3 (t3 vb ub tb), ai m7 cyI 3 (t3 vd ud td), ai m8 cyI 3 (nF ct), ai m9 cyI 36 (q12 kd), ai m10 cyI 36 (q12 vl), ai m11 cyI 7 fr, ai m12 cyI 3 fp, ai m13 cyI 3 bp] := hD
        refine lv_iinc (v := nI (i + 1)) (lv' := [(3, .int (nI (i + 1))), (0, .ref m0), (1, .int 1), (2, .int 0)]) hx hb dX4_copy_96 hl (k := 3) rfl (ra_inc1 _) (by decide) rfl (fun ls hl => ?_)
        refine lv_goto (tgt := 2) hx hb dX4_copy_99 (by decide) ?_
        exact ih_2 (i + 1) (upd xh0 i (uh i)) (upd xg0 i (ug i)) (upd xf0 i (uf i)) (upd xk0 i (uk i)) (by omega) (fun j hj => by by_cases h : j = i; (· subst h; simp only [pk_us, and_self]); (· simp only [pk_un h]; exact hz j (by omega))) (by omega) H locs hP hD hS ls (lv_sub hl [1, 2, 3, 0] rfl)
  exact L_2 _ 0 fh fg ff fk (by omega) (fun j hj => absurd hj (Nat.not_lt_zero j)) (Nat.lt_succ_self _) H locs hP hD hS ls (lv_sub hl [1, 2, 3, 0] rfl)

set_option maxHeartbeats 4000000 in
set_option maxRecDepth 100000 in
theorem c_X4_begin (l : Launch) (dC : Nat → ClassId) (dI : Nat → Nat → Nat) (cyI cyA : ClassId) (m0 m1 m2 m3 m4 m5 m6 m7 m8 m9 m10 m11 m12 m13 : Nat) (x0 : Int32) (kn fz : Int32) (fh fg ff fk uh ug uf uk th tg tf tk : FN) (vs vb vd us ub ud ts tb td : Int32) (ct : Nat → Nat) (kd vl : Nat → FN) (fr fp bp : FN) (q : Int32)  (sz : Nat) : Met l yX4_begin wsX4_begin (rm 0) (kW dC dI cyI cyA [.ref m0, .int q] sz [ob m0 4 [.int x0, .int kn, .int fz, .ref m1, .ref m2, .ref m3, .ref m4, .ref m5, .ref m6, .ref m7, .ref m8, .ref m9, .ref m10, .ref m11, .ref m12, .ref m13], ai m1 cyI 21 (f3 fh uh th), ai m2 cyI 21 (f3 fg ug tg), ai m3 cyI 21 (f3 ff uf tf), ai m4 cyI 21 (f3 fk uk tk), ai m5 cyI 3 (t3 vs us ts), ai m6 cyI 3 (t3 vb ub tb), ai m7 cyI 3 (t3 vd ud td), ai m8 cyI 3 (nF ct), ai m9 cyI 36 (q12 kd), ai m10 cyI 36 (q12 vl), ai m11 cyI 7 fr, ai m12 cyI 3 fp, ai m13 cyI 3 bp]) (qV dC dI cyI cyA (fun (_ : Unit) => True) (va_A [ob m0 4 [.int x0, .int kn, .int fz, .ref m1, .ref m2, .ref m3, .ref m4, .ref m5, .ref m6, .ref m7, .ref m8, .ref m9, .ref m10, .ref m11, .ref m12, .ref m13], ai m1 cyI 21 (f3 fh uh th), ai m2 cyI 21 (f3 fg ug tg), ai m3 cyI 21 (f3 ff uf tf), ai m4 cyI 21 (f3 fk uk tk), ai m5 cyI 3 (t3 vs us ts), ai m6 cyI 3 (t3 vb ub tb), ai m7 cyI 3 (t3 vd ud td), ai m8 cyI 3 (nF ct), ai m9 cyI 36 (q12 kd), ai m10 cyI 36 (q12 vl), ai m11 cyI 7 fr, ai m12 cyI 3 fp, ai m13 cyI 3 bp] sz) (fun _ => [ob m0 4 [.int q, .int kn, .int fz, .ref m1, .ref m2, .ref m3, .ref m4, .ref m5, .ref m6, .ref m7, .ref m8, .ref m9, .ref m10, .ref m11, .ref m12, .ref m13], ai m1 cyI 21 (f3 zF uh th), ai m2 cyI 21 (f3 zF ug tg), ai m3 cyI 21 (f3 zF uf tf), ai m4 cyI 21 (f3 zF uk tk), ai m5 cyI 3 (t3 0 us ts), ai m6 cyI 3 (t3 0 ub tb), ai m7 cyI 3 (t3 0 ud td), ai m8 cyI 3 (nF ct), ai m9 cyI 36 (q12 kd), ai m10 cyI 36 (q12 vl), ai m11 cyI 7 mF, ai m12 cyI 3 fp, ai m13 cyI 3 bp])) 0 0 (va_A [ob m0 4 [.int x0, .int kn, .int fz, .ref m1, .ref m2, .ref m3, .ref m4, .ref m5, .ref m6, .ref m7, .ref m8, .ref m9, .ref m10, .ref m11, .ref m12, .ref m13], ai m1 cyI 21 (f3 fh uh th), ai m2 cyI 21 (f3 fg ug tg), ai m3 cyI 21 (f3 ff uf tf), ai m4 cyI 21 (f3 fk uk tk), ai m5 cyI 3 (t3 vs us ts), ai m6 cyI 3 (t3 vb ub tb), ai m7 cyI 3 (t3 vd ud td), ai m8 cyI 3 (nF ct), ai m9 cyI 36 (q12 kd), ai m10 cyI 36 (q12 vl), ai m11 cyI 7 fr, ai m12 cyI 3 fp, ai m13 cyI 3 bp] sz) := by
  refine ra_metW (cc := cX4_begin) (maxL := 3) (Qc := fun A => qV dC dI cyI cyA (fun (_ : Unit) => True) A (fun _ => [ob m0 4 [.int q, .int kn, .int fz, .ref m1, .ref m2, .ref m3, .ref m4, .ref m5, .ref m6, .ref m7, .ref m8, .ref m9, .ref m10, .ref m11, .ref m12, .ref m13], ai m1 cyI 21 (f3 zF uh th), ai m2 cyI 21 (f3 zF ug tg), ai m3 cyI 21 (f3 zF uf tf), ai m4 cyI 21 (f3 zF uk tk), ai m5 cyI 3 (t3 0 us ts), ai m6 cyI 3 (t3 0 ub tb), ai m7 cyI 3 (t3 0 ud td), ai m8 cyI 3 (nF ct), ai m9 cyI 36 (q12 kd), ai m10 cyI 36 (q12 vl), ai m11 cyI 7 mF, ai m12 cyI 3 fp, ai m13 cyI 3 bp])) (by decide) rfl (Nat.le_of_ble_eq_true rfl) ?_
  intro p e s m below meth c A args Q hQ hx hb hr hlocks hml hts hown hnm hK hN hP hD hA hS ls hl
  have hl : lv_has ls 3 [(0, .ref m0), (1, .int q)] := hl
  have hown : s.vm.findClass RX4 = some m.cls := hown
  have hw_1 := hts (.fieldLink RX4 7 "DuneBenchModel" "n" "I") (by decide +kernel)
  have hin_X4 : ∀ w ∈ u_ws RX4 TX4 16, w ∈ wsX4_begin := by decide +kernel
  have hw_3 := hts (.fieldLink RX4 29 "DuneBenchModel" "sea" "[I") (by decide +kernel)
  have hw_4 := hts (.fieldLink RX4 32 "DuneBenchModel" "behind" "[I") (by decide +kernel)
  have hw_5 := hts (.fieldLink RX4 35 "DuneBenchModel" "flooded" "[I") (by decide +kernel)
  have hw_6 := hts (.fieldLink RX4 16 "DuneBenchModel" "height" "[I") (by decide +kernel)
  have hw_7 := hts (.fieldLink RX4 20 "DuneBenchModel" "grass" "[I") (by decide +kernel)
  have hw_8 := hts (.fieldLink RX4 23 "DuneBenchModel" "fence" "[I") (by decide +kernel)
  have hw_9 := hts (.fieldLink RX4 26 "DuneBenchModel" "gained" "[I") (by decide +kernel)
  have hw_10 := hts (.fieldLink RX4 47 "DuneBenchModel" "reading" "[I") (by decide +kernel)
  obtain ⟨H, hHe⟩ : ∃ H, H = s.heap := ⟨_, rfl⟩
  obtain ⟨locs, hLe⟩ : ∃ locs : List Loc, locs = [] := ⟨_, rfl⟩
  have hP : va_P (dC, dI) vwCl [ob m0 4 [.int x0, .int kn, .int fz, .ref m1, .ref m2, .ref m3, .ref m4, .ref m5, .ref m6, .ref m7, .ref m8, .ref m9, .ref m10, .ref m11, .ref m12, .ref m13], ai m1 cyI 21 (f3 fh uh th), ai m2 cyI 21 (f3 fg ug tg), ai m3 cyI 21 (f3 ff uf tf), ai m4 cyI 21 (f3 fk uk tk), ai m5 cyI 3 (t3 vs us ts), ai m6 cyI 3 (t3 vb ub tb), ai m7 cyI 3 (t3 vd ud td), ai m8 cyI 3 (nF ct), ai m9 cyI 36 (q12 kd), ai m10 cyI 36 (q12 vl), ai m11 cyI 7 fr, ai m12 cyI 3 fp, ai m13 cyI 3 bp] H := by rw [hHe]; exact hP
  have hS : va_S A s.heap H locs := by rw [hHe, hLe]; exact hS
  suffices hgo : W p l e (rm 0) s m args below meth c H locs 0 0 Q (F0 m 0 ls []) by rw [hHe, hLe] at hgo; exact hgo
  refine lv_aload_n hx hb dX4_begin_0 rfl (lv_at hl 0 rfl) ?_
  refine lv_iload_n hx hb dX4_begin_1 rfl (lv_at hl 1 rfl) ?_
  refine va_put (D := (dC, dI)) (ci := 4) (v := .int q) (ty := .int) (C := RX4) (T := TX4) (N := 16) hx hb hts hin_X4 tyX4 tyX4_ok nmX4 hown hK hP hD hS 0 rfl rfl 0 (by decide) hw_1 (fun _ h9 => h9) rfl (by decide +kernel) rfl rfl (Nat.le_of_ble_eq_true rfl) dX4_begin_2 (fun H locs hP hD hS => ?_)
  have hP : va_P (dC, dI) vwCl [ob m0 4 [.int q, .int kn, .int fz, .ref m1, .ref m2, .ref m3, .ref m4, .ref m5, .ref m6, .ref m7, .ref m8, .ref m9, .ref m10, .ref m11, .ref m12, .ref m13], ai m1 cyI 21 (f3 fh uh th), ai m2 cyI 21 (f3 fg ug tg), ai m3 cyI 21 (f3 ff uf tf), ai m4 cyI 21 (f3 fk uk tk), ai m5 cyI 3 (t3 vs us ts), ai m6 cyI 3 (t3 vb ub tb), ai m7 cyI 3 (t3 vd ud td), ai m8 cyI 3 (nF ct), ai m9 cyI 36 (q12 kd), ai m10 cyI 36 (q12 vl), ai m11 cyI 7 fr, ai m12 cyI 3 fp, ai m13 cyI 3 bp] H := hP
  have hD : va_D A [ob m0 4 [.int q, .int kn, .int fz, .ref m1, .ref m2, .ref m3, .ref m4, .ref m5, .ref m6, .ref m7, .ref m8, .ref m9, .ref m10, .ref m11, .ref m12, .ref m13], ai m1 cyI 21 (f3 fh uh th), ai m2 cyI 21 (f3 fg ug tg), ai m3 cyI 21 (f3 ff uf tf), ai m4 cyI 21 (f3 fk uk tk), ai m5 cyI 3 (t3 vs us ts), ai m6 cyI 3 (t3 vb ub tb), ai m7 cyI 3 (t3 vd ud td), ai m8 cyI 3 (nF ct), ai m9 cyI 36 (q12 kd), ai m10 cyI 36 (q12 vl), ai m11 cyI 7 fr, ai m12 cyI 3 fp, ai m13 cyI 3 bp] := hD
  refine lv_iconst (v := 0) hx hb dX4_begin_5 (by decide) ?_
  refine lv_istore_n (lv' := [(2, .int 0), (0, .ref m0), (1, .int q)]) hx hb dX4_begin_6 rfl hl (by decide) rfl (fun ls hl => ?_)
  have L_7 : ∀ (n9 : Nat) (i : Nat) (xh0 : FN) (xg0 : FN) (xf0 : FN) (xk0 : FN) (xr0 : FN), (i ≤ 7) → (∀ j, j < i → xh0 j = 0 ∧ xg0 j = 0 ∧ xf0 j = 0 ∧ xk0 j = 0 ∧ xr0 j = -1) → (7 - i) < n9 → ∀ (H : Heap) (locs : List Loc), va_P (dC, dI) vwCl [ob m0 4 [.int q, .int kn, .int fz, .ref m1, .ref m2, .ref m3, .ref m4, .ref m5, .ref m6, .ref m7, .ref m8, .ref m9, .ref m10, .ref m11, .ref m12, .ref m13], ai m1 cyI 21 (f3 xh0 uh th), ai m2 cyI 21 (f3 xg0 ug tg), ai m3 cyI 21 (f3 xf0 uf tf), ai m4 cyI 21 (f3 xk0 uk tk), ai m5 cyI 3 (t3 vs us ts), ai m6 cyI 3 (t3 vb ub tb), ai m7 cyI 3 (t3 vd ud td), ai m8 cyI 3 (nF ct), ai m9 cyI 36 (q12 kd), ai m10 cyI 36 (q12 vl), ai m11 cyI 7 xr0, ai m12 cyI 3 fp, ai m13 cyI 3 bp] H → va_D A [ob m0 4 [.int q, .int kn, .int fz, .ref m1, .ref m2, .ref m3, .ref m4, .ref m5, .ref m6, .ref m7, .ref m8, .ref m9, .ref m10, .ref m11, .ref m12, .ref m13], ai m1 cyI 21 (f3 xh0 uh th), ai m2 cyI 21 (f3 xg0 ug tg), ai m3 cyI 21 (f3 xf0 uf tf), ai m4 cyI 21 (f3 xk0 uk tk), ai m5 cyI 3 (t3 vs us ts), ai m6 cyI 3 (t3 vb ub tb), ai m7 cyI 3 (t3 vd ud td), ai m8 cyI 3 (nF ct), ai m9 cyI 36 (q12 kd), ai m10 cyI 36 (q12 vl), ai m11 cyI 7 xr0, ai m12 cyI 3 fp, ai m13 cyI 3 bp] → va_S A s.heap H locs → ∀ ls : Array Slot, lv_has ls 3 [(0, .ref m0), (1, .int q), (2, .int (nI i))] → W p l e (rm 0) s m args below meth c H locs 0 0 Q (F0 m 7 ls []) := by
    intro n9
    induction n9 with
    | zero =>
      intro i xh0 xg0 xf0 xk0 xr0 hi hz hm9
      exact absurd hm9 (Nat.not_lt_zero _)
    | succ n9 ih_7 =>
      intro i xh0 xg0 xf0 xk0 xr0 hi hz hm9 H locs hP hD hS ls hl
      refine lv_iload_n hx hb dX4_begin_7 rfl (lv_at hl 2 rfl) ?_
      refine lv_bipush (v := 7) hx hb dX4_begin_8 (by decide) ?_
      refine lv_icmp_ge (tgt := 54) hx hb dX4_begin_10 (by decide) (fun c_10 => ?_) (fun c_10 => ?_)
      · ---- to 54
        have n_10 := (nq_le 7 i (by omega) (by omega)).mp c_10
        obtain ⟨hP, hD⟩ := ra_cong hP hD 1 (f3 zF uh th) rfl (f3_c0 (fun j hj => (hz j (by omega)).1))
        obtain ⟨hP, hD⟩ := ra_cong hP hD 2 (f3 zF ug tg) rfl (f3_c0 (fun j hj => (hz j (by omega)).2.1))
        obtain ⟨hP, hD⟩ := ra_cong hP hD 3 (f3 zF uf tf) rfl (f3_c0 (fun j hj => (hz j (by omega)).2.2.1))
        obtain ⟨hP, hD⟩ := ra_cong hP hD 4 (f3 zF uk tk) rfl (f3_c0 (fun j hj => (hz j (by omega)).2.2.2.1))
        obtain ⟨hP, hD⟩ := ra_cong hP hD 11 mF rfl (fun j hj => (hz j (by omega)).2.2.2.2)
        have hP : va_P (dC, dI) vwCl [ob m0 4 [.int q, .int kn, .int fz, .ref m1, .ref m2, .ref m3, .ref m4, .ref m5, .ref m6, .ref m7, .ref m8, .ref m9, .ref m10, .ref m11, .ref m12, .ref m13], ai m1 cyI 21 (f3 zF uh th), ai m2 cyI 21 (f3 zF ug tg), ai m3 cyI 21 (f3 zF uf tf), ai m4 cyI 21 (f3 zF uk tk), ai m5 cyI 3 (t3 vs us ts), ai m6 cyI 3 (t3 vb ub tb), ai m7 cyI 3 (t3 vd ud td), ai m8 cyI 3 (nF ct), ai m9 cyI 36 (q12 kd), ai m10 cyI 36 (q12 vl), ai m11 cyI 7 mF, ai m12 cyI 3 fp, ai m13 cyI 3 bp] H := hP
        have hD : va_D A [ob m0 4 [.int q, .int kn, .int fz, .ref m1, .ref m2, .ref m3, .ref m4, .ref m5, .ref m6, .ref m7, .ref m8, .ref m9, .ref m10, .ref m11, .ref m12, .ref m13], ai m1 cyI 21 (f3 zF uh th), ai m2 cyI 21 (f3 zF ug tg), ai m3 cyI 21 (f3 zF uf tf), ai m4 cyI 21 (f3 zF uk tk), ai m5 cyI 3 (t3 vs us ts), ai m6 cyI 3 (t3 vb ub tb), ai m7 cyI 3 (t3 vd ud td), ai m8 cyI 3 (nF ct), ai m9 cyI 36 (q12 kd), ai m10 cyI 36 (q12 vl), ai m11 cyI 7 mF, ai m12 cyI 3 fp, ai m13 cyI 3 bp] := hD
        refine lv_aload_n hx hb dX4_begin_54 rfl (lv_at hl 0 rfl) ?_
        refine va_get (D := (dC, dI)) (ci := 4) (v := .ref m5) (C := RX4) (T := TX4) (N := 16) hx hb hts hin_X4 hown hK hP 0 rfl rfl 7 (by decide) hw_3 (fun _ h9 => h9) rfl dX4_begin_55 ?_
        refine lv_iconst (v := 0) hx hb dX4_begin_58 (by decide) ?_
        refine lv_iconst (v := 0) hx hb dX4_begin_59 (by decide) ?_
        refine ra_iast hx hb hK hP hD hS 5 rfl 0 rfl (by omega) (Nat.le_of_ble_eq_true rfl) dX4_begin_60 (fun H locs hP hD hS => ?_)
        rw [t3_w0] at hP hD
        have hP : va_P (dC, dI) vwCl [ob m0 4 [.int q, .int kn, .int fz, .ref m1, .ref m2, .ref m3, .ref m4, .ref m5, .ref m6, .ref m7, .ref m8, .ref m9, .ref m10, .ref m11, .ref m12, .ref m13], ai m1 cyI 21 (f3 zF uh th), ai m2 cyI 21 (f3 zF ug tg), ai m3 cyI 21 (f3 zF uf tf), ai m4 cyI 21 (f3 zF uk tk), ai m5 cyI 3 (t3 0 us ts), ai m6 cyI 3 (t3 vb ub tb), ai m7 cyI 3 (t3 vd ud td), ai m8 cyI 3 (nF ct), ai m9 cyI 36 (q12 kd), ai m10 cyI 36 (q12 vl), ai m11 cyI 7 mF, ai m12 cyI 3 fp, ai m13 cyI 3 bp] H := hP
        have hD : va_D A [ob m0 4 [.int q, .int kn, .int fz, .ref m1, .ref m2, .ref m3, .ref m4, .ref m5, .ref m6, .ref m7, .ref m8, .ref m9, .ref m10, .ref m11, .ref m12, .ref m13], ai m1 cyI 21 (f3 zF uh th), ai m2 cyI 21 (f3 zF ug tg), ai m3 cyI 21 (f3 zF uf tf), ai m4 cyI 21 (f3 zF uk tk), ai m5 cyI 3 (t3 0 us ts), ai m6 cyI 3 (t3 vb ub tb), ai m7 cyI 3 (t3 vd ud td), ai m8 cyI 3 (nF ct), ai m9 cyI 36 (q12 kd), ai m10 cyI 36 (q12 vl), ai m11 cyI 7 mF, ai m12 cyI 3 fp, ai m13 cyI 3 bp] := hD
        refine lv_aload_n hx hb dX4_begin_61 rfl (lv_at hl 0 rfl) ?_
        refine va_get (D := (dC, dI)) (ci := 4) (v := .ref m6) (C := RX4) (T := TX4) (N := 16) hx hb hts hin_X4 hown hK hP 0 rfl rfl 8 (by decide) hw_4 (fun _ h9 => h9) rfl dX4_begin_62 ?_
        refine lv_iconst (v := 0) hx hb dX4_begin_65 (by decide) ?_
        refine lv_iconst (v := 0) hx hb dX4_begin_66 (by decide) ?_
        refine ra_iast hx hb hK hP hD hS 6 rfl 0 rfl (by omega) (Nat.le_of_ble_eq_true rfl) dX4_begin_67 (fun H locs hP hD hS => ?_)
        rw [t3_w0] at hP hD
        have hP : va_P (dC, dI) vwCl [ob m0 4 [.int q, .int kn, .int fz, .ref m1, .ref m2, .ref m3, .ref m4, .ref m5, .ref m6, .ref m7, .ref m8, .ref m9, .ref m10, .ref m11, .ref m12, .ref m13], ai m1 cyI 21 (f3 zF uh th), ai m2 cyI 21 (f3 zF ug tg), ai m3 cyI 21 (f3 zF uf tf), ai m4 cyI 21 (f3 zF uk tk), ai m5 cyI 3 (t3 0 us ts), ai m6 cyI 3 (t3 0 ub tb), ai m7 cyI 3 (t3 vd ud td), ai m8 cyI 3 (nF ct), ai m9 cyI 36 (q12 kd), ai m10 cyI 36 (q12 vl), ai m11 cyI 7 mF, ai m12 cyI 3 fp, ai m13 cyI 3 bp] H := hP
        have hD : va_D A [ob m0 4 [.int q, .int kn, .int fz, .ref m1, .ref m2, .ref m3, .ref m4, .ref m5, .ref m6, .ref m7, .ref m8, .ref m9, .ref m10, .ref m11, .ref m12, .ref m13], ai m1 cyI 21 (f3 zF uh th), ai m2 cyI 21 (f3 zF ug tg), ai m3 cyI 21 (f3 zF uf tf), ai m4 cyI 21 (f3 zF uk tk), ai m5 cyI 3 (t3 0 us ts), ai m6 cyI 3 (t3 0 ub tb), ai m7 cyI 3 (t3 vd ud td), ai m8 cyI 3 (nF ct), ai m9 cyI 36 (q12 kd), ai m10 cyI 36 (q12 vl), ai m11 cyI 7 mF, ai m12 cyI 3 fp, ai m13 cyI 3 bp] := hD
        refine lv_aload_n hx hb dX4_begin_68 rfl (lv_at hl 0 rfl) ?_
        refine va_get (D := (dC, dI)) (ci := 4) (v := .ref m7) (C := RX4) (T := TX4) (N := 16) hx hb hts hin_X4 hown hK hP 0 rfl rfl 9 (by decide) hw_5 (fun _ h9 => h9) rfl dX4_begin_69 ?_
        refine lv_iconst (v := 0) hx hb dX4_begin_72 (by decide) ?_
        refine lv_iconst (v := 0) hx hb dX4_begin_73 (by decide) ?_
        refine ra_iast hx hb hK hP hD hS 7 rfl 0 rfl (by omega) (Nat.le_of_ble_eq_true rfl) dX4_begin_74 (fun H locs hP hD hS => ?_)
        rw [t3_w0] at hP hD
        have hP : va_P (dC, dI) vwCl [ob m0 4 [.int q, .int kn, .int fz, .ref m1, .ref m2, .ref m3, .ref m4, .ref m5, .ref m6, .ref m7, .ref m8, .ref m9, .ref m10, .ref m11, .ref m12, .ref m13], ai m1 cyI 21 (f3 zF uh th), ai m2 cyI 21 (f3 zF ug tg), ai m3 cyI 21 (f3 zF uf tf), ai m4 cyI 21 (f3 zF uk tk), ai m5 cyI 3 (t3 0 us ts), ai m6 cyI 3 (t3 0 ub tb), ai m7 cyI 3 (t3 0 ud td), ai m8 cyI 3 (nF ct), ai m9 cyI 36 (q12 kd), ai m10 cyI 36 (q12 vl), ai m11 cyI 7 mF, ai m12 cyI 3 fp, ai m13 cyI 3 bp] H := hP
        have hD : va_D A [ob m0 4 [.int q, .int kn, .int fz, .ref m1, .ref m2, .ref m3, .ref m4, .ref m5, .ref m6, .ref m7, .ref m8, .ref m9, .ref m10, .ref m11, .ref m12, .ref m13], ai m1 cyI 21 (f3 zF uh th), ai m2 cyI 21 (f3 zF ug tg), ai m3 cyI 21 (f3 zF uf tf), ai m4 cyI 21 (f3 zF uk tk), ai m5 cyI 3 (t3 0 us ts), ai m6 cyI 3 (t3 0 ub tb), ai m7 cyI 3 (t3 0 ud td), ai m8 cyI 3 (nF ct), ai m9 cyI 36 (q12 kd), ai m10 cyI 36 (q12 vl), ai m11 cyI 7 mF, ai m12 cyI 3 fp, ai m13 cyI 3 bp] := hD
        rw [hQ]
        exact ra_vretW () hx hb hr hlocks hK hP hD hS trivial dX4_begin_75
      · ---- on
        have n_10 := (nq_le_n 7 i (by omega) (by omega)).mp c_10
        refine lv_aload_n hx hb dX4_begin_13 rfl (lv_at hl 0 rfl) ?_
        refine va_get (D := (dC, dI)) (ci := 4) (v := .ref m1) (C := RX4) (T := TX4) (N := 16) hx hb hts hin_X4 hown hK hP 0 rfl rfl 3 (by decide) hw_6 (fun _ h9 => h9) rfl dX4_begin_14 ?_
        refine lv_iload_n hx hb dX4_begin_17 rfl (lv_at hl 2 rfl) ?_
        refine lv_iconst (v := 0) hx hb dX4_begin_18 (by decide) ?_
        refine ra_iast hx hb hK hP hD hS 1 rfl i rfl (by omega) (Nat.le_of_ble_eq_true rfl) dX4_begin_19 (fun H locs hP hD hS => ?_)
        rw [f3_w0 _ _ _ _ (by omega)] at hP hD
        have hP : va_P (dC, dI) vwCl [ob m0 4 [.int q, .int kn, .int fz, .ref m1, .ref m2, .ref m3, .ref m4, .ref m5, .ref m6, .ref m7, .ref m8, .ref m9, .ref m10, .ref m11, .ref m12, .ref m13], ai m1 cyI 21 (f3 (upd xh0 i 0) uh th), ai m2 cyI 21 (f3 xg0 ug tg), ai m3 cyI 21 (f3 xf0 uf tf), ai m4 cyI 21 (f3 xk0 uk tk), ai m5 cyI 3 (t3 vs us ts), ai m6 cyI 3 (t3 vb ub tb), ai m7 cyI 3 (t3 vd ud td), ai m8 cyI 3 (nF ct), ai m9 cyI 36 (q12 kd), ai m10 cyI 36 (q12 vl), ai m11 cyI 7 xr0, ai m12 cyI 3 fp, ai m13 cyI 3 bp] H := hP
        have hD : va_D A [ob m0 4 [.int q, .int kn, .int fz, .ref m1, .ref m2, .ref m3, .ref m4, .ref m5, .ref m6, .ref m7, .ref m8, .ref m9, .ref m10, .ref m11, .ref m12, .ref m13], ai m1 cyI 21 (f3 (upd xh0 i 0) uh th), ai m2 cyI 21 (f3 xg0 ug tg), ai m3 cyI 21 (f3 xf0 uf tf), ai m4 cyI 21 (f3 xk0 uk tk), ai m5 cyI 3 (t3 vs us ts), ai m6 cyI 3 (t3 vb ub tb), ai m7 cyI 3 (t3 vd ud td), ai m8 cyI 3 (nF ct), ai m9 cyI 36 (q12 kd), ai m10 cyI 36 (q12 vl), ai m11 cyI 7 xr0, ai m12 cyI 3 fp, ai m13 cyI 3 bp] := hD
        refine lv_aload_n hx hb dX4_begin_20 rfl (lv_at hl 0 rfl) ?_
        refine va_get (D := (dC, dI)) (ci := 4) (v := .ref m2) (C := RX4) (T := TX4) (N := 16) hx hb hts hin_X4 hown hK hP 0 rfl rfl 4 (by decide) hw_7 (fun _ h9 => h9) rfl dX4_begin_21 ?_
        refine lv_iload_n hx hb dX4_begin_24 rfl (lv_at hl 2 rfl) ?_
        refine lv_iconst (v := 0) hx hb dX4_begin_25 (by decide) ?_
        refine ra_iast hx hb hK hP hD hS 2 rfl i rfl (by omega) (Nat.le_of_ble_eq_true rfl) dX4_begin_26 (fun H locs hP hD hS => ?_)
        rw [f3_w0 _ _ _ _ (by omega)] at hP hD
        have hP : va_P (dC, dI) vwCl [ob m0 4 [.int q, .int kn, .int fz, .ref m1, .ref m2, .ref m3, .ref m4, .ref m5, .ref m6, .ref m7, .ref m8, .ref m9, .ref m10, .ref m11, .ref m12, .ref m13], ai m1 cyI 21 (f3 (upd xh0 i 0) uh th), ai m2 cyI 21 (f3 (upd xg0 i 0) ug tg), ai m3 cyI 21 (f3 xf0 uf tf), ai m4 cyI 21 (f3 xk0 uk tk), ai m5 cyI 3 (t3 vs us ts), ai m6 cyI 3 (t3 vb ub tb), ai m7 cyI 3 (t3 vd ud td), ai m8 cyI 3 (nF ct), ai m9 cyI 36 (q12 kd), ai m10 cyI 36 (q12 vl), ai m11 cyI 7 xr0, ai m12 cyI 3 fp, ai m13 cyI 3 bp] H := hP
        have hD : va_D A [ob m0 4 [.int q, .int kn, .int fz, .ref m1, .ref m2, .ref m3, .ref m4, .ref m5, .ref m6, .ref m7, .ref m8, .ref m9, .ref m10, .ref m11, .ref m12, .ref m13], ai m1 cyI 21 (f3 (upd xh0 i 0) uh th), ai m2 cyI 21 (f3 (upd xg0 i 0) ug tg), ai m3 cyI 21 (f3 xf0 uf tf), ai m4 cyI 21 (f3 xk0 uk tk), ai m5 cyI 3 (t3 vs us ts), ai m6 cyI 3 (t3 vb ub tb), ai m7 cyI 3 (t3 vd ud td), ai m8 cyI 3 (nF ct), ai m9 cyI 36 (q12 kd), ai m10 cyI 36 (q12 vl), ai m11 cyI 7 xr0, ai m12 cyI 3 fp, ai m13 cyI 3 bp] := hD
        refine lv_aload_n hx hb dX4_begin_27 rfl (lv_at hl 0 rfl) ?_
        refine va_get (D := (dC, dI)) (ci := 4) (v := .ref m3) (C := RX4) (T := TX4) (N := 16) hx hb hts hin_X4 hown hK hP 0 rfl rfl 5 (by decide) hw_8 (fun _ h9 => h9) rfl dX4_begin_28 ?_
        refine lv_iload_n hx hb dX4_begin_31 rfl (lv_at hl 2 rfl) ?_
        refine lv_iconst (v := 0) hx hb dX4_begin_32 (by decide) ?_
        refine ra_iast hx hb hK hP hD hS 3 rfl i rfl (by omega) (Nat.le_of_ble_eq_true rfl) dX4_begin_33 (fun H locs hP hD hS => ?_)
        rw [f3_w0 _ _ _ _ (by omega)] at hP hD
        have hP : va_P (dC, dI) vwCl [ob m0 4 [.int q, .int kn, .int fz, .ref m1, .ref m2, .ref m3, .ref m4, .ref m5, .ref m6, .ref m7, .ref m8, .ref m9, .ref m10, .ref m11, .ref m12, .ref m13], ai m1 cyI 21 (f3 (upd xh0 i 0) uh th), ai m2 cyI 21 (f3 (upd xg0 i 0) ug tg), ai m3 cyI 21 (f3 (upd xf0 i 0) uf tf), ai m4 cyI 21 (f3 xk0 uk tk), ai m5 cyI 3 (t3 vs us ts), ai m6 cyI 3 (t3 vb ub tb), ai m7 cyI 3 (t3 vd ud td), ai m8 cyI 3 (nF ct), ai m9 cyI 36 (q12 kd), ai m10 cyI 36 (q12 vl), ai m11 cyI 7 xr0, ai m12 cyI 3 fp, ai m13 cyI 3 bp] H := hP
        have hD : va_D A [ob m0 4 [.int q, .int kn, .int fz, .ref m1, .ref m2, .ref m3, .ref m4, .ref m5, .ref m6, .ref m7, .ref m8, .ref m9, .ref m10, .ref m11, .ref m12, .ref m13], ai m1 cyI 21 (f3 (upd xh0 i 0) uh th), ai m2 cyI 21 (f3 (upd xg0 i 0) ug tg), ai m3 cyI 21 (f3 (upd xf0 i 0) uf tf), ai m4 cyI 21 (f3 xk0 uk tk), ai m5 cyI 3 (t3 vs us ts), ai m6 cyI 3 (t3 vb ub tb), ai m7 cyI 3 (t3 vd ud td), ai m8 cyI 3 (nF ct), ai m9 cyI 36 (q12 kd), ai m10 cyI 36 (q12 vl), ai m11 cyI 7 xr0, ai m12 cyI 3 fp, ai m13 cyI 3 bp] := hD
        refine lv_aload_n hx hb dX4_begin_34 rfl (lv_at hl 0 rfl) ?_
        refine va_get (D := (dC, dI)) (ci := 4) (v := .ref m4) (C := RX4) (T := TX4) (N := 16) hx hb hts hin_X4 hown hK hP 0 rfl rfl 6 (by decide) hw_9 (fun _ h9 => h9) rfl dX4_begin_35 ?_
        refine lv_iload_n hx hb dX4_begin_38 rfl (lv_at hl 2 rfl) ?_
        refine lv_iconst (v := 0) hx hb dX4_begin_39 (by decide) ?_
        refine ra_iast hx hb hK hP hD hS 4 rfl i rfl (by omega) (Nat.le_of_ble_eq_true rfl) dX4_begin_40 (fun H locs hP hD hS => ?_)
        rw [f3_w0 _ _ _ _ (by omega)] at hP hD
        have hP : va_P (dC, dI) vwCl [ob m0 4 [.int q, .int kn, .int fz, .ref m1, .ref m2, .ref m3, .ref m4, .ref m5, .ref m6, .ref m7, .ref m8, .ref m9, .ref m10, .ref m11, .ref m12, .ref m13], ai m1 cyI 21 (f3 (upd xh0 i 0) uh th), ai m2 cyI 21 (f3 (upd xg0 i 0) ug tg), ai m3 cyI 21 (f3 (upd xf0 i 0) uf tf), ai m4 cyI 21 (f3 (upd xk0 i 0) uk tk), ai m5 cyI 3 (t3 vs us ts), ai m6 cyI 3 (t3 vb ub tb), ai m7 cyI 3 (t3 vd ud td), ai m8 cyI 3 (nF ct), ai m9 cyI 36 (q12 kd), ai m10 cyI 36 (q12 vl), ai m11 cyI 7 xr0, ai m12 cyI 3 fp, ai m13 cyI 3 bp] H := hP
        have hD : va_D A [ob m0 4 [.int q, .int kn, .int fz, .ref m1, .ref m2, .ref m3, .ref m4, .ref m5, .ref m6, .ref m7, .ref m8, .ref m9, .ref m10, .ref m11, .ref m12, .ref m13], ai m1 cyI 21 (f3 (upd xh0 i 0) uh th), ai m2 cyI 21 (f3 (upd xg0 i 0) ug tg), ai m3 cyI 21 (f3 (upd xf0 i 0) uf tf), ai m4 cyI 21 (f3 (upd xk0 i 0) uk tk), ai m5 cyI 3 (t3 vs us ts), ai m6 cyI 3 (t3 vb ub tb), ai m7 cyI 3 (t3 vd ud td), ai m8 cyI 3 (nF ct), ai m9 cyI 36 (q12 kd), ai m10 cyI 36 (q12 vl), ai m11 cyI 7 xr0, ai m12 cyI 3 fp, ai m13 cyI 3 bp] := hD
        refine lv_aload_n hx hb dX4_begin_41 rfl (lv_at hl 0 rfl) ?_
        refine va_get (D := (dC, dI)) (ci := 4) (v := .ref m11) (C := RX4) (T := TX4) (N := 16) hx hb hts hin_X4 hown hK hP 0 rfl rfl 13 (by decide) hw_10 (fun _ h9 => h9) rfl dX4_begin_42 ?_
        refine lv_iload_n hx hb dX4_begin_45 rfl (lv_at hl 2 rfl) ?_
        refine lv_iconst (v := (-1)) hx hb dX4_begin_46 (by decide) ?_
        refine ra_iast hx hb hK hP hD hS 11 rfl i rfl (by omega) (Nat.le_of_ble_eq_true rfl) dX4_begin_47 (fun H locs hP hD hS => ?_)
        have hP : va_P (dC, dI) vwCl [ob m0 4 [.int q, .int kn, .int fz, .ref m1, .ref m2, .ref m3, .ref m4, .ref m5, .ref m6, .ref m7, .ref m8, .ref m9, .ref m10, .ref m11, .ref m12, .ref m13], ai m1 cyI 21 (f3 (upd xh0 i 0) uh th), ai m2 cyI 21 (f3 (upd xg0 i 0) ug tg), ai m3 cyI 21 (f3 (upd xf0 i 0) uf tf), ai m4 cyI 21 (f3 (upd xk0 i 0) uk tk), ai m5 cyI 3 (t3 vs us ts), ai m6 cyI 3 (t3 vb ub tb), ai m7 cyI 3 (t3 vd ud td), ai m8 cyI 3 (nF ct), ai m9 cyI 36 (q12 kd), ai m10 cyI 36 (q12 vl), ai m11 cyI 7 (upd xr0 i (-1)), ai m12 cyI 3 fp, ai m13 cyI 3 bp] H := hP
        have hD : va_D A [ob m0 4 [.int q, .int kn, .int fz, .ref m1, .ref m2, .ref m3, .ref m4, .ref m5, .ref m6, .ref m7, .ref m8, .ref m9, .ref m10, .ref m11, .ref m12, .ref m13], ai m1 cyI 21 (f3 (upd xh0 i 0) uh th), ai m2 cyI 21 (f3 (upd xg0 i 0) ug tg), ai m3 cyI 21 (f3 (upd xf0 i 0) uf tf), ai m4 cyI 21 (f3 (upd xk0 i 0) uk tk), ai m5 cyI 3 (t3 vs us ts), ai m6 cyI 3 (t3 vb ub tb), ai m7 cyI 3 (t3 vd ud td), ai m8 cyI 3 (nF ct), ai m9 cyI 36 (q12 kd), ai m10 cyI 36 (q12 vl), ai m11 cyI 7 (upd xr0 i (-1)), ai m12 cyI 3 fp, ai m13 cyI 3 bp] := hD
        refine lv_iinc (v := nI (i + 1)) (lv' := [(2, .int (nI (i + 1))), (0, .ref m0), (1, .int q)]) hx hb dX4_begin_48 hl (k := 2) rfl (ra_inc1 _) (by decide) rfl (fun ls hl => ?_)
        refine lv_goto (tgt := 7) hx hb dX4_begin_51 (by decide) ?_
        exact ih_7 (i + 1) (upd xh0 i 0) (upd xg0 i 0) (upd xf0 i 0) (upd xk0 i 0) (upd xr0 i (-1)) (by omega) (fun j hj => by by_cases h : j = i; (· subst h; simp only [pk_us, and_self]); (· simp only [pk_un h]; exact hz j (by omega))) (by omega) H locs hP hD hS ls (lv_sub hl [1, 2, 0] rfl)
  exact L_7 _ 0 fh fg ff fk fr (by omega) (fun j hj => absurd hj (Nat.not_lt_zero j)) (Nat.lt_succ_self _) H locs hP hD hS ls (lv_sub hl [1, 2, 0] rfl)

set_option maxHeartbeats 4000000 in
set_option maxRecDepth 100000 in
theorem c_X4_setFence (l : Launch) (dC : Nat → ClassId) (dI : Nat → Nat → Nat) (cyI cyA : ClassId) (m0 m1 m2 m3 m4 m5 m6 m7 m8 m9 m10 m11 m12 m13 n : Nat) (kn fz : Int32) (fh fg ff fk uh ug uf uk th tg tf tk : FN) (vs vb vd us ub ud ts tb td : Int32) (ct : Nat → Nat) (kd vl : Nat → FN) (fr fp bp : FN) (y : Nat) (hn : n ≤ 7) (hfp : ∀ y, y < 3 → ceN n (fp y)) (hy : y ≤ 20) (sz : Nat) : Met l yX4_setFence wsX4_setFence (rm 0) (kW dC dI cyI cyA [.ref m0, .int (nI y)] sz [ob m0 4 [.int (nI n), .int kn, .int fz, .ref m1, .ref m2, .ref m3, .ref m4, .ref m5, .ref m6, .ref m7, .ref m8, .ref m9, .ref m10, .ref m11, .ref m12, .ref m13], ai m1 cyI 21 (f3 fh uh th), ai m2 cyI 21 (f3 fg ug tg), ai m3 cyI 21 (f3 ff uf tf), ai m4 cyI 21 (f3 fk uk tk), ai m5 cyI 3 (t3 vs us ts), ai m6 cyI 3 (t3 vb ub tb), ai m7 cyI 3 (t3 vd ud td), ai m8 cyI 3 (nF ct), ai m9 cyI 36 (q12 kd), ai m10 cyI 36 (q12 vl), ai m11 cyI 7 fr, ai m12 cyI 3 fp, ai m13 cyI 3 bp]) (qV dC dI cyI cyA (fun (_ : Unit) => True) (va_A [ob m0 4 [.int (nI n), .int kn, .int fz, .ref m1, .ref m2, .ref m3, .ref m4, .ref m5, .ref m6, .ref m7, .ref m8, .ref m9, .ref m10, .ref m11, .ref m12, .ref m13], ai m1 cyI 21 (f3 fh uh th), ai m2 cyI 21 (f3 fg ug tg), ai m3 cyI 21 (f3 ff uf tf), ai m4 cyI 21 (f3 fk uk tk), ai m5 cyI 3 (t3 vs us ts), ai m6 cyI 3 (t3 vb ub tb), ai m7 cyI 3 (t3 vd ud td), ai m8 cyI 3 (nF ct), ai m9 cyI 36 (q12 kd), ai m10 cyI 36 (q12 vl), ai m11 cyI 7 fr, ai m12 cyI 3 fp, ai m13 cyI 3 bp] sz) (fun _ => [ob m0 4 [.int (nI n), .int kn, .int fz, .ref m1, .ref m2, .ref m3, .ref m4, .ref m5, .ref m6, .ref m7, .ref m8, .ref m9, .ref m10, .ref m11, .ref m12, .ref m13], ai m1 cyI 21 (f3 fh uh th), ai m2 cyI 21 (f3 fg ug tg), ai m3 cyI 21 (f3 ff uf (bgY n tf fp fz y)), ai m4 cyI 21 (f3 fk uk tk), ai m5 cyI 3 (t3 vs us ts), ai m6 cyI 3 (t3 vb ub tb), ai m7 cyI 3 (t3 vd ud td), ai m8 cyI 3 (nF ct), ai m9 cyI 36 (q12 kd), ai m10 cyI 36 (q12 vl), ai m11 cyI 7 fr, ai m12 cyI 3 fp, ai m13 cyI 3 bp])) 0 0 (va_A [ob m0 4 [.int (nI n), .int kn, .int fz, .ref m1, .ref m2, .ref m3, .ref m4, .ref m5, .ref m6, .ref m7, .ref m8, .ref m9, .ref m10, .ref m11, .ref m12, .ref m13], ai m1 cyI 21 (f3 fh uh th), ai m2 cyI 21 (f3 fg ug tg), ai m3 cyI 21 (f3 ff uf tf), ai m4 cyI 21 (f3 fk uk tk), ai m5 cyI 3 (t3 vs us ts), ai m6 cyI 3 (t3 vb ub tb), ai m7 cyI 3 (t3 vd ud td), ai m8 cyI 3 (nF ct), ai m9 cyI 36 (q12 kd), ai m10 cyI 36 (q12 vl), ai m11 cyI 7 fr, ai m12 cyI 3 fp, ai m13 cyI 3 bp] sz) := by
  refine ra_metW (cc := cX4_setFence) (maxL := 2) (Qc := fun A => qV dC dI cyI cyA (fun (_ : Unit) => True) A (fun _ => [ob m0 4 [.int (nI n), .int kn, .int fz, .ref m1, .ref m2, .ref m3, .ref m4, .ref m5, .ref m6, .ref m7, .ref m8, .ref m9, .ref m10, .ref m11, .ref m12, .ref m13], ai m1 cyI 21 (f3 fh uh th), ai m2 cyI 21 (f3 fg ug tg), ai m3 cyI 21 (f3 ff uf (bgY n tf fp fz y)), ai m4 cyI 21 (f3 fk uk tk), ai m5 cyI 3 (t3 vs us ts), ai m6 cyI 3 (t3 vb ub tb), ai m7 cyI 3 (t3 vd ud td), ai m8 cyI 3 (nF ct), ai m9 cyI 36 (q12 kd), ai m10 cyI 36 (q12 vl), ai m11 cyI 7 fr, ai m12 cyI 3 fp, ai m13 cyI 3 bp])) (by decide) rfl (Nat.le_of_ble_eq_true rfl) ?_
  intro p e s m below meth c A args Q hQ hx hb hr hlocks hml hts hown hnm hK hN hP hD hA hS ls hl
  have hl : lv_has ls 2 [(0, .ref m0), (1, .int (nI y))] := hl
  have hown : s.vm.findClass RX4 = some m.cls := hown
  have hw_1 := hts (.fieldLink RX4 50 "DuneBenchModel" "fences" "[I") (by decide +kernel)
  have hin_X4 : ∀ w ∈ u_ws RX4 TX4 16, w ∈ wsX4_setFence := by decide +kernel
  have hw_3 := hts (.fieldLink RX4 23 "DuneBenchModel" "fence" "[I") (by decide +kernel)
  have hw_4 := hts (.fieldLink RX4 13 "DuneBenchModel" "size" "I") (by decide +kernel)
  obtain ⟨H, hHe⟩ : ∃ H, H = s.heap := ⟨_, rfl⟩
  obtain ⟨locs, hLe⟩ : ∃ locs : List Loc, locs = [] := ⟨_, rfl⟩
  have hP : va_P (dC, dI) vwCl [ob m0 4 [.int (nI n), .int kn, .int fz, .ref m1, .ref m2, .ref m3, .ref m4, .ref m5, .ref m6, .ref m7, .ref m8, .ref m9, .ref m10, .ref m11, .ref m12, .ref m13], ai m1 cyI 21 (f3 fh uh th), ai m2 cyI 21 (f3 fg ug tg), ai m3 cyI 21 (f3 ff uf tf), ai m4 cyI 21 (f3 fk uk tk), ai m5 cyI 3 (t3 vs us ts), ai m6 cyI 3 (t3 vb ub tb), ai m7 cyI 3 (t3 vd ud td), ai m8 cyI 3 (nF ct), ai m9 cyI 36 (q12 kd), ai m10 cyI 36 (q12 vl), ai m11 cyI 7 fr, ai m12 cyI 3 fp, ai m13 cyI 3 bp] H := by rw [hHe]; exact hP
  have hS : va_S A s.heap H locs := by rw [hHe, hLe]; exact hS
  suffices hgo : W p l e (rm 0) s m args below meth c H locs 0 0 Q (F0 m 0 ls []) by rw [hHe, hLe] at hgo; exact hgo
  refine lv_iload_n hx hb dX4_setFence_0 rfl (lv_at hl 1 rfl) ?_
  refine lv_iconst (v := 3) hx hb dX4_setFence_1 (by decide) ?_
  refine lv_icmp_ge (tgt := 32) hx hb dX4_setFence_2 (by decide) (fun c_2 => ?_) (fun c_2 => ?_)
  · ---- to 32
    have n_2 := (nq_le 3 y (by omega) (by omega)).mp c_2
    rw [hQ]
    rw [show bgY n tf fp fz y = tf from by unfold bgY; first | (rw [if_neg (show ¬ y < 3 by omega)]; done) | (rw [if_pos (show y < 3 by omega), if_neg (fun q => i32_not q.1 c_11)]; done) | (rw [if_pos (show y < 3 by omega), if_pos h11]; done)]
    exact ra_vretW () hx hb hr hlocks hK hP hD hS trivial dX4_setFence_32
  · ---- on
    have n_2 := (nq_le_n 3 y (by omega) (by omega)).mp c_2
    refine lv_aload_n hx hb dX4_setFence_5 rfl (lv_at hl 0 rfl) ?_
    refine va_get (D := (dC, dI)) (ci := 4) (v := .ref m12) (C := RX4) (T := TX4) (N := 16) hx hb hts hin_X4 hown hK hP 0 rfl rfl 14 (by decide) hw_1 (fun _ h9 => h9) rfl dX4_setFence_6 ?_
    refine lv_iload_n hx hb dX4_setFence_9 rfl (lv_at hl 1 rfl) ?_
    refine ra_iald hx hb hK hP 12 rfl y rfl (by omega) (Nat.le_of_ble_eq_true rfl) dX4_setFence_10 ?_
    refine lv_if_lt (tgt := 32) hx hb dX4_setFence_11 (by decide) (fun c_11 => ?_) (fun c_11 => ?_)
    · ---- to 32
      rw [hQ]
      rw [show bgY n tf fp fz y = tf from by unfold bgY; first | (rw [if_neg (show ¬ y < 3 by omega)]; done) | (rw [if_pos (show y < 3 by omega), if_neg (fun q => i32_not q.1 c_11)]; done) | (rw [if_pos (show y < 3 by omega), if_pos h11]; done)]
      exact ra_vretW () hx hb hr hlocks hK hP hD hS trivial dX4_setFence_32
    · ---- on
      have h11 : 0 ≤ fp y ∧ fp y < nI n := (hfp y (by omega)).resolve_left (fun q => c_11 (by rw [q]; decide))
      have hb11 := i32_cb c_11 (Int32.not_le.mpr h11.2) hn
      refine lv_aload_n hx hb dX4_setFence_14 rfl (lv_at hl 0 rfl) ?_
      refine va_get (D := (dC, dI)) (ci := 4) (v := .ref m3) (C := RX4) (T := TX4) (N := 16) hx hb hts hin_X4 hown hK hP 0 rfl rfl 5 (by decide) hw_3 (fun _ h9 => h9) rfl dX4_setFence_15 ?_
      refine lv_bipush (v := 14) hx hb dX4_setFence_18 (by decide) ?_
      refine lv_aload_n hx hb dX4_setFence_20 rfl (lv_at hl 0 rfl) ?_
      refine va_get (D := (dC, dI)) (ci := 4) (v := .ref m12) (C := RX4) (T := TX4) (N := 16) hx hb hts hin_X4 hown hK hP 0 rfl rfl 14 (by decide) hw_1 (fun _ h9 => h9) rfl dX4_setFence_21 ?_
      refine lv_iload_n hx hb dX4_setFence_24 rfl (lv_at hl 1 rfl) ?_
      refine ra_iald hx hb hK hP 12 rfl y rfl (by omega) (Nat.le_of_ble_eq_true rfl) dX4_setFence_25 ?_
      refine lv_iadd hx hb dX4_setFence_26 ?_
      refine lv_aload_n hx hb dX4_setFence_27 rfl (lv_at hl 0 rfl) ?_
      refine va_get (D := (dC, dI)) (ci := 4) (v := .int fz) (C := RX4) (T := TX4) (N := 16) hx hb hts hin_X4 hown hK hP 0 rfl rfl 2 (by decide) hw_4 (fun _ h9 => h9) rfl dX4_setFence_28 ?_
      refine ra_iast hx hb hK hP hD hS 3 rfl (14 + (fp y).toNatClampNeg) (idx14 c_11) (by omega) (Nat.le_of_ble_eq_true rfl) dX4_setFence_31 (fun H locs hP hD hS => ?_)
      rw [f3_w2] at hP hD
      have hP : va_P (dC, dI) vwCl [ob m0 4 [.int (nI n), .int kn, .int fz, .ref m1, .ref m2, .ref m3, .ref m4, .ref m5, .ref m6, .ref m7, .ref m8, .ref m9, .ref m10, .ref m11, .ref m12, .ref m13], ai m1 cyI 21 (f3 fh uh th), ai m2 cyI 21 (f3 fg ug tg), ai m3 cyI 21 (f3 ff uf (upd tf ((fp y).toNatClampNeg) fz)), ai m4 cyI 21 (f3 fk uk tk), ai m5 cyI 3 (t3 vs us ts), ai m6 cyI 3 (t3 vb ub tb), ai m7 cyI 3 (t3 vd ud td), ai m8 cyI 3 (nF ct), ai m9 cyI 36 (q12 kd), ai m10 cyI 36 (q12 vl), ai m11 cyI 7 fr, ai m12 cyI 3 fp, ai m13 cyI 3 bp] H := hP
      have hD : va_D A [ob m0 4 [.int (nI n), .int kn, .int fz, .ref m1, .ref m2, .ref m3, .ref m4, .ref m5, .ref m6, .ref m7, .ref m8, .ref m9, .ref m10, .ref m11, .ref m12, .ref m13], ai m1 cyI 21 (f3 fh uh th), ai m2 cyI 21 (f3 fg ug tg), ai m3 cyI 21 (f3 ff uf (upd tf ((fp y).toNatClampNeg) fz)), ai m4 cyI 21 (f3 fk uk tk), ai m5 cyI 3 (t3 vs us ts), ai m6 cyI 3 (t3 vb ub tb), ai m7 cyI 3 (t3 vd ud td), ai m8 cyI 3 (nF ct), ai m9 cyI 36 (q12 kd), ai m10 cyI 36 (q12 vl), ai m11 cyI 7 fr, ai m12 cyI 3 fp, ai m13 cyI 3 bp] := hD
      rw [hQ]
      rw [show bgY n tf fp fz y = (upd tf ((fp y).toNatClampNeg) fz) from by unfold bgY; first | (rw [if_neg (show ¬ y < 3 by omega)]; done) | (rw [if_pos (show y < 3 by omega), if_neg (fun q => i32_not q.1 c_11)]; done) | (rw [if_pos (show y < 3 by omega), if_pos h11]; done)]
      exact ra_vretW () hx hb hr hlocks hK hP hD hS trivial dX4_setFence_32

set_option maxHeartbeats 4000000 in
set_option maxRecDepth 100000 in
theorem c_X4_tryOut (l : Launch) (dC : Nat → ClassId) (dI : Nat → Nat → Nat) (cyI cyA : ClassId) (m0 m1 m2 m3 m4 m5 m6 m7 m8 m9 m10 m11 m12 m13 n : Nat) (kn fz : Int32) (fh fg ff fk uh ug uf uk th tg tf tk : FN) (vs vb vd us ub ud ts tb td : Int32) (ct : Nat → Nat) (kd vl : Nat → FN) (fr fp bp : FN) (w : Nat) (hn : n ≤ 7) (hfp : ∀ y, y < 3 → ceN n (fp y)) (hw : w < 3) (hc : ct w ≤ 12) (sz : Nat) : Met l yX4_tryOut wsX4_tryOut (rm 3) (kW dC dI cyI cyA [.ref m0, .int (nI w)] sz [ob m0 4 [.int (nI n), .int kn, .int fz, .ref m1, .ref m2, .ref m3, .ref m4, .ref m5, .ref m6, .ref m7, .ref m8, .ref m9, .ref m10, .ref m11, .ref m12, .ref m13], ai m1 cyI 21 (f3 fh uh th), ai m2 cyI 21 (f3 fg ug tg), ai m3 cyI 21 (f3 ff uf tf), ai m4 cyI 21 (f3 fk uk tk), ai m5 cyI 3 (t3 vs us ts), ai m6 cyI 3 (t3 vb ub tb), ai m7 cyI 3 (t3 vd ud td), ai m8 cyI 3 (nF ct), ai m9 cyI 36 (q12 kd), ai m10 cyI 36 (q12 vl), ai m11 cyI 7 fr, ai m12 cyI 3 fp, ai m13 cyI 3 bp]) (qV dC dI cyI cyA (fun (_ : Unit) => True) (va_A [ob m0 4 [.int (nI n), .int kn, .int fz, .ref m1, .ref m2, .ref m3, .ref m4, .ref m5, .ref m6, .ref m7, .ref m8, .ref m9, .ref m10, .ref m11, .ref m12, .ref m13], ai m1 cyI 21 (f3 fh uh th), ai m2 cyI 21 (f3 fg ug tg), ai m3 cyI 21 (f3 ff uf tf), ai m4 cyI 21 (f3 fk uk tk), ai m5 cyI 3 (t3 vs us ts), ai m6 cyI 3 (t3 vb ub tb), ai m7 cyI 3 (t3 vd ud td), ai m8 cyI 3 (nF ct), ai m9 cyI 36 (q12 kd), ai m10 cyI 36 (q12 vl), ai m11 cyI 7 fr, ai m12 cyI 3 fp, ai m13 cyI 3 bp] sz) (fun _ => [ob m0 4 [.int (nI n), .int kn, .int fz, .ref m1, .ref m2, .ref m3, .ref m4, .ref m5, .ref m6, .ref m7, .ref m8, .ref m9, .ref m10, .ref m11, .ref m12, .ref m13], ai m1 cyI 21 (f3 fh uh ((plW phm psm num n fz ct kd vl fh fg ff fk vs vb fp w).1)), ai m2 cyI 21 (f3 fg ug ((plW phm psm num n fz ct kd vl fh fg ff fk vs vb fp w).2.1)), ai m3 cyI 21 (f3 ff uf ((plW phm psm num n fz ct kd vl fh fg ff fk vs vb fp w).2.2.1)), ai m4 cyI 21 (f3 fk uk ((plW phm psm num n fz ct kd vl fh fg ff fk vs vb fp w).2.2.2.1)), ai m5 cyI 3 (t3 vs us ((plW phm psm num n fz ct kd vl fh fg ff fk vs vb fp w).2.2.2.2.1)), ai m6 cyI 3 (t3 vb ub ((plW phm psm num n fz ct kd vl fh fg ff fk vs vb fp w).2.2.2.2.2.1)), ai m7 cyI 3 (t3 vd ud ((plW phm psm num n fz ct kd vl fh fg ff fk vs vb fp w).2.2.2.2.2.2)), ai m8 cyI 3 (nF ct), ai m9 cyI 36 (q12 kd), ai m10 cyI 36 (q12 vl), ai m11 cyI 7 fr, ai m12 cyI 3 fp, ai m13 cyI 3 bp])) 0 0 (va_A [ob m0 4 [.int (nI n), .int kn, .int fz, .ref m1, .ref m2, .ref m3, .ref m4, .ref m5, .ref m6, .ref m7, .ref m8, .ref m9, .ref m10, .ref m11, .ref m12, .ref m13], ai m1 cyI 21 (f3 fh uh th), ai m2 cyI 21 (f3 fg ug tg), ai m3 cyI 21 (f3 ff uf tf), ai m4 cyI 21 (f3 fk uk tk), ai m5 cyI 3 (t3 vs us ts), ai m6 cyI 3 (t3 vb ub tb), ai m7 cyI 3 (t3 vd ud td), ai m8 cyI 3 (nF ct), ai m9 cyI 36 (q12 kd), ai m10 cyI 36 (q12 vl), ai m11 cyI 7 fr, ai m12 cyI 3 fp, ai m13 cyI 3 bp] sz) := by
  refine ra_metW (cc := cX4_tryOut) (maxL := 5) (Qc := fun A => qV dC dI cyI cyA (fun (_ : Unit) => True) A (fun _ => [ob m0 4 [.int (nI n), .int kn, .int fz, .ref m1, .ref m2, .ref m3, .ref m4, .ref m5, .ref m6, .ref m7, .ref m8, .ref m9, .ref m10, .ref m11, .ref m12, .ref m13], ai m1 cyI 21 (f3 fh uh ((plW phm psm num n fz ct kd vl fh fg ff fk vs vb fp w).1)), ai m2 cyI 21 (f3 fg ug ((plW phm psm num n fz ct kd vl fh fg ff fk vs vb fp w).2.1)), ai m3 cyI 21 (f3 ff uf ((plW phm psm num n fz ct kd vl fh fg ff fk vs vb fp w).2.2.1)), ai m4 cyI 21 (f3 fk uk ((plW phm psm num n fz ct kd vl fh fg ff fk vs vb fp w).2.2.2.1)), ai m5 cyI 3 (t3 vs us ((plW phm psm num n fz ct kd vl fh fg ff fk vs vb fp w).2.2.2.2.1)), ai m6 cyI 3 (t3 vb ub ((plW phm psm num n fz ct kd vl fh fg ff fk vs vb fp w).2.2.2.2.2.1)), ai m7 cyI 3 (t3 vd ud ((plW phm psm num n fz ct kd vl fh fg ff fk vs vb fp w).2.2.2.2.2.2)), ai m8 cyI 3 (nF ct), ai m9 cyI 36 (q12 kd), ai m10 cyI 36 (q12 vl), ai m11 cyI 7 fr, ai m12 cyI 3 fp, ai m13 cyI 3 bp])) (by decide) rfl (Nat.le_of_ble_eq_true rfl) ?_
  intro p e s m below meth c A args Q hQ hx hb hr hlocks hml hts hown hnm hK hN hP hD hA hS ls hl
  have hl : lv_has ls 5 [(0, .ref m0), (1, .int (nI w))] := hl
  have hown : s.vm.findClass RX4 = some m.cls := hown
  have hw_1 := hts (.fieldLink RX4 35 "DuneBenchModel" "flooded" "[I") (by decide +kernel)
  have hin_X4 : ∀ w ∈ u_ws RX4 TX4 16, w ∈ wsX4_tryOut := by decide +kernel
  have hw_3 := hts (.fieldLink RX4 38 "DuneBenchModel" "events" "[I") (by decide +kernel)
  have hw_4 := hts (.fieldLink RX4 41 "DuneBenchModel" "kindOf" "[I") (by decide +kernel)
  have hw_5 := hts (.fieldLink RX4 44 "DuneBenchModel" "valueOf" "[I") (by decide +kernel)
  obtain ⟨H, hHe⟩ : ∃ H, H = s.heap := ⟨_, rfl⟩
  obtain ⟨locs, hLe⟩ : ∃ locs : List Loc, locs = [] := ⟨_, rfl⟩
  have hP : va_P (dC, dI) vwCl [ob m0 4 [.int (nI n), .int kn, .int fz, .ref m1, .ref m2, .ref m3, .ref m4, .ref m5, .ref m6, .ref m7, .ref m8, .ref m9, .ref m10, .ref m11, .ref m12, .ref m13], ai m1 cyI 21 (f3 fh uh th), ai m2 cyI 21 (f3 fg ug tg), ai m3 cyI 21 (f3 ff uf tf), ai m4 cyI 21 (f3 fk uk tk), ai m5 cyI 3 (t3 vs us ts), ai m6 cyI 3 (t3 vb ub tb), ai m7 cyI 3 (t3 vd ud td), ai m8 cyI 3 (nF ct), ai m9 cyI 36 (q12 kd), ai m10 cyI 36 (q12 vl), ai m11 cyI 7 fr, ai m12 cyI 3 fp, ai m13 cyI 3 bp] H := by rw [hHe]; exact hP
  have hS : va_S A s.heap H locs := by rw [hHe, hLe]; exact hS
  suffices hgo : W p l e (rm 3) s m args below meth c H locs 0 0 Q (F0 m 0 ls []) by rw [hHe, hLe] at hgo; exact hgo
  refine lv_aload_n hx hb dX4_tryOut_0 rfl (lv_at hl 0 rfl) ?_
  refine lv_iconst (v := 0) hx hb dX4_tryOut_1 (by decide) ?_
  refine lv_iconst (v := 2) hx hb dX4_tryOut_2 (by decide) ?_
  refine ra_cV (q := (RX4, TX4, 16)) (ci := 4) (As := [.int 0, .int 2]) (rest := []) (wc := [ob m0 4 [.int (nI n), .int kn, .int fz, .ref m1, .ref m2, .ref m3, .ref m4, .ref m5, .ref m6, .ref m7, .ref m8, .ref m9, .ref m10, .ref m11, .ref m12, .ref m13], ai m1 cyI 21 (f3 fh uh th), ai m2 cyI 21 (f3 fg ug tg), ai m3 cyI 21 (f3 ff uf tf), ai m4 cyI 21 (f3 fk uk tk), ai m5 cyI 3 (t3 vs us ts), ai m6 cyI 3 (t3 vb ub tb), ai m7 cyI 3 (t3 vd ud td), ai m8 cyI 3 (nF ct), ai m9 cyI 36 (q12 kd), ai m10 cyI 36 (q12 vl), ai m11 cyI 7 fr, ai m12 cyI 3 fp, ai m13 cyI 3 bp]) (wr := []) ⟨hx, hb, hml, hown, hts⟩ (c_X4_copy02 l dC dI cyI cyA m0 m1 m2 m3 m4 m5 m6 m7 m8 m9 m10 m11 m12 m13 n kn fz fh fg ff fk uh ug uf uk th tg tf tk vs vb vd us ub ud ts tb td ct kd vl fr fp bp  H.size) (cwV 2 hts gX4_tryOut_X4_copy rfl rfl rfl (by decide +kernel) ⟨Nat.le_of_ble_eq_true rfl, Nat.le_of_ble_eq_true rfl⟩) hK hN hP hD hA hS [0, 1, 2, 3, 4, 5, 6, 7, 8, 9, 10, 11, 12, 13] [] rfl rfl (by decide) (by decide) (by decide) rfl rfl rfl hl.1 rfl (Nat.le_of_ble_eq_true rfl) dX4_tryOut_3 ⟨Nat.le_of_ble_eq_true rfl, Nat.le_of_ble_eq_true rfl⟩ (fun u_1 hw_c1 H locs hP hD hS => ?_)
  have hP : va_P (dC, dI) vwCl [ob m0 4 [.int (nI n), .int kn, .int fz, .ref m1, .ref m2, .ref m3, .ref m4, .ref m5, .ref m6, .ref m7, .ref m8, .ref m9, .ref m10, .ref m11, .ref m12, .ref m13], ai m1 cyI 21 (f3 fh uh fh), ai m2 cyI 21 (f3 fg ug fg), ai m3 cyI 21 (f3 ff uf ff), ai m4 cyI 21 (f3 fk uk fk), ai m5 cyI 3 (t3 vs us vs), ai m6 cyI 3 (t3 vb ub vb), ai m7 cyI 3 (t3 vd ud vd), ai m8 cyI 3 (nF ct), ai m9 cyI 36 (q12 kd), ai m10 cyI 36 (q12 vl), ai m11 cyI 7 fr, ai m12 cyI 3 fp, ai m13 cyI 3 bp] H := hP
  have hD : va_D A [ob m0 4 [.int (nI n), .int kn, .int fz, .ref m1, .ref m2, .ref m3, .ref m4, .ref m5, .ref m6, .ref m7, .ref m8, .ref m9, .ref m10, .ref m11, .ref m12, .ref m13], ai m1 cyI 21 (f3 fh uh fh), ai m2 cyI 21 (f3 fg ug fg), ai m3 cyI 21 (f3 ff uf ff), ai m4 cyI 21 (f3 fk uk fk), ai m5 cyI 3 (t3 vs us vs), ai m6 cyI 3 (t3 vb ub vb), ai m7 cyI 3 (t3 vd ud vd), ai m8 cyI 3 (nF ct), ai m9 cyI 36 (q12 kd), ai m10 cyI 36 (q12 vl), ai m11 cyI 7 fr, ai m12 cyI 3 fp, ai m13 cyI 3 bp] := hD
  refine lv_aload_n hx hb dX4_tryOut_6 rfl (lv_at hl 0 rfl) ?_
  refine va_get (D := (dC, dI)) (ci := 4) (v := .ref m7) (C := RX4) (T := TX4) (N := 16) hx hb hts hin_X4 hown hK hP 0 rfl rfl 9 (by decide) hw_1 (fun _ h9 => h9) rfl dX4_tryOut_7 ?_
  refine lv_iconst (v := 2) hx hb dX4_tryOut_10 (by decide) ?_
  refine lv_iconst (v := 0) hx hb dX4_tryOut_11 (by decide) ?_
  refine ra_iast hx hb hK hP hD hS 7 rfl 2 rfl (by omega) (Nat.le_of_ble_eq_true rfl) dX4_tryOut_12 (fun H locs hP hD hS => ?_)
  rw [t3_w2] at hP hD
  have hP : va_P (dC, dI) vwCl [ob m0 4 [.int (nI n), .int kn, .int fz, .ref m1, .ref m2, .ref m3, .ref m4, .ref m5, .ref m6, .ref m7, .ref m8, .ref m9, .ref m10, .ref m11, .ref m12, .ref m13], ai m1 cyI 21 (f3 fh uh fh), ai m2 cyI 21 (f3 fg ug fg), ai m3 cyI 21 (f3 ff uf ff), ai m4 cyI 21 (f3 fk uk fk), ai m5 cyI 3 (t3 vs us vs), ai m6 cyI 3 (t3 vb ub vb), ai m7 cyI 3 (t3 vd ud 0), ai m8 cyI 3 (nF ct), ai m9 cyI 36 (q12 kd), ai m10 cyI 36 (q12 vl), ai m11 cyI 7 fr, ai m12 cyI 3 fp, ai m13 cyI 3 bp] H := hP
  have hD : va_D A [ob m0 4 [.int (nI n), .int kn, .int fz, .ref m1, .ref m2, .ref m3, .ref m4, .ref m5, .ref m6, .ref m7, .ref m8, .ref m9, .ref m10, .ref m11, .ref m12, .ref m13], ai m1 cyI 21 (f3 fh uh fh), ai m2 cyI 21 (f3 fg ug fg), ai m3 cyI 21 (f3 ff uf ff), ai m4 cyI 21 (f3 fk uk fk), ai m5 cyI 3 (t3 vs us vs), ai m6 cyI 3 (t3 vb ub vb), ai m7 cyI 3 (t3 vd ud 0), ai m8 cyI 3 (nF ct), ai m9 cyI 36 (q12 kd), ai m10 cyI 36 (q12 vl), ai m11 cyI 7 fr, ai m12 cyI 3 fp, ai m13 cyI 3 bp] := hD
  refine lv_iconst (v := 0) hx hb dX4_tryOut_13 (by decide) ?_
  refine lv_istore_n (lv' := [(2, .int 0), (0, .ref m0), (1, .int (nI w))]) hx hb dX4_tryOut_14 rfl hl (by decide) rfl (fun ls hl => ?_)
  refine lv_aload_n hx hb dX4_tryOut_15 rfl (lv_at hl 1 rfl) ?_
  refine lv_iconst (v := 0) hx hb dX4_tryOut_16 (by decide) ?_
  refine ra_cV (q := (RX4, TX4, 16)) (ci := 4) (As := [.int 0]) (rest := []) (wc := [ob m0 4 [.int (nI n), .int kn, .int fz, .ref m1, .ref m2, .ref m3, .ref m4, .ref m5, .ref m6, .ref m7, .ref m8, .ref m9, .ref m10, .ref m11, .ref m12, .ref m13], ai m1 cyI 21 (f3 fh uh fh), ai m2 cyI 21 (f3 fg ug fg), ai m3 cyI 21 (f3 ff uf ff), ai m4 cyI 21 (f3 fk uk fk), ai m5 cyI 3 (t3 vs us vs), ai m6 cyI 3 (t3 vb ub vb), ai m7 cyI 3 (t3 vd ud 0), ai m8 cyI 3 (nF ct), ai m9 cyI 36 (q12 kd), ai m10 cyI 36 (q12 vl), ai m11 cyI 7 fr, ai m12 cyI 3 fp, ai m13 cyI 3 bp]) (wr := []) ⟨hx, hb, hml, hown, hts⟩ (c_X4_setFence l dC dI cyI cyA m0 m1 m2 m3 m4 m5 m6 m7 m8 m9 m10 m11 m12 m13 n kn fz fh fg ff fk uh ug uf uk fh fg ff fk vs vb vd us ub ud vs vb 0 ct kd vl fr fp bp 0 (by omega) hfp (by omega) H.size) (cwV 1 hts gX4_tryOut_X4_setFence rfl rfl rfl (by decide +kernel) ⟨Nat.le_of_ble_eq_true rfl, Nat.le_of_ble_eq_true rfl⟩) hK hN hP hD hA hS [0, 1, 2, 3, 4, 5, 6, 7, 8, 9, 10, 11, 12, 13] [] rfl rfl (by decide) (by decide) (by decide) rfl rfl rfl hl.1 rfl (Nat.le_of_ble_eq_true rfl) dX4_tryOut_17 ⟨Nat.le_of_ble_eq_true rfl, Nat.le_of_ble_eq_true rfl⟩ (fun u_2 hw_c2 H locs hP hD hS => ?_)
  have hP : va_P (dC, dI) vwCl [ob m0 4 [.int (nI n), .int kn, .int fz, .ref m1, .ref m2, .ref m3, .ref m4, .ref m5, .ref m6, .ref m7, .ref m8, .ref m9, .ref m10, .ref m11, .ref m12, .ref m13], ai m1 cyI 21 (f3 fh uh fh), ai m2 cyI 21 (f3 fg ug fg), ai m3 cyI 21 (f3 ff uf (bgY n ff fp fz 0)), ai m4 cyI 21 (f3 fk uk fk), ai m5 cyI 3 (t3 vs us vs), ai m6 cyI 3 (t3 vb ub vb), ai m7 cyI 3 (t3 vd ud 0), ai m8 cyI 3 (nF ct), ai m9 cyI 36 (q12 kd), ai m10 cyI 36 (q12 vl), ai m11 cyI 7 fr, ai m12 cyI 3 fp, ai m13 cyI 3 bp] H := hP
  have hD : va_D A [ob m0 4 [.int (nI n), .int kn, .int fz, .ref m1, .ref m2, .ref m3, .ref m4, .ref m5, .ref m6, .ref m7, .ref m8, .ref m9, .ref m10, .ref m11, .ref m12, .ref m13], ai m1 cyI 21 (f3 fh uh fh), ai m2 cyI 21 (f3 fg ug fg), ai m3 cyI 21 (f3 ff uf (bgY n ff fp fz 0)), ai m4 cyI 21 (f3 fk uk fk), ai m5 cyI 3 (t3 vs us vs), ai m6 cyI 3 (t3 vb ub vb), ai m7 cyI 3 (t3 vd ud 0), ai m8 cyI 3 (nF ct), ai m9 cyI 36 (q12 kd), ai m10 cyI 36 (q12 vl), ai m11 cyI 7 fr, ai m12 cyI 3 fp, ai m13 cyI 3 bp] := hD
  refine lv_bipush (v := 12) hx hb dX4_tryOut_20 (by decide) ?_
  refine lv_iload_n hx hb dX4_tryOut_22 rfl (lv_at hl 2 rfl) ?_
  refine lv_imul hx hb dX4_tryOut_23 ?_
  refine ra_top (nI (12 * w)) (pk_mul 12 w) ?_
  refine lv_istore_n (lv' := [(3, .int (nI (12 * w))), (2, .int 0), (0, .ref m0), (1, .int (nI w))]) hx hb dX4_tryOut_24 rfl hl (by decide) rfl (fun ls hl => ?_)
  have L_25 : ∀ (n9 : Nat) (i : Nat) (y : Nat) (xh : FN) (xg : FN) (xf : FN) (xk : FN) (xs : Int32) (xb : Int32) (xd : Int32), (i ≤ ct w) → (y ≤ i) → (pl phm psm num n fp fz (kd w) (vl w) (ct w - i) i y xh xg xf xk xs xb xd = plW phm psm num n fz ct kd vl fh fg ff fk vs vb fp w) → (ct w - i) < n9 → ∀ (H : Heap) (locs : List Loc), va_P (dC, dI) vwCl [ob m0 4 [.int (nI n), .int kn, .int fz, .ref m1, .ref m2, .ref m3, .ref m4, .ref m5, .ref m6, .ref m7, .ref m8, .ref m9, .ref m10, .ref m11, .ref m12, .ref m13], ai m1 cyI 21 (f3 fh uh xh), ai m2 cyI 21 (f3 fg ug xg), ai m3 cyI 21 (f3 ff uf xf), ai m4 cyI 21 (f3 fk uk xk), ai m5 cyI 3 (t3 vs us xs), ai m6 cyI 3 (t3 vb ub xb), ai m7 cyI 3 (t3 vd ud xd), ai m8 cyI 3 (nF ct), ai m9 cyI 36 (q12 kd), ai m10 cyI 36 (q12 vl), ai m11 cyI 7 fr, ai m12 cyI 3 fp, ai m13 cyI 3 bp] H → va_D A [ob m0 4 [.int (nI n), .int kn, .int fz, .ref m1, .ref m2, .ref m3, .ref m4, .ref m5, .ref m6, .ref m7, .ref m8, .ref m9, .ref m10, .ref m11, .ref m12, .ref m13], ai m1 cyI 21 (f3 fh uh xh), ai m2 cyI 21 (f3 fg ug xg), ai m3 cyI 21 (f3 ff uf xf), ai m4 cyI 21 (f3 fk uk xk), ai m5 cyI 3 (t3 vs us xs), ai m6 cyI 3 (t3 vb ub xb), ai m7 cyI 3 (t3 vd ud xd), ai m8 cyI 3 (nF ct), ai m9 cyI 36 (q12 kd), ai m10 cyI 36 (q12 vl), ai m11 cyI 7 fr, ai m12 cyI 3 fp, ai m13 cyI 3 bp] → va_S A s.heap H locs → ∀ ls : Array Slot, lv_has ls 5 [(0, .ref m0), (1, .int (nI w)), (2, .int (nI y)), (3, .int (nI (12 * w + i)))] → W p l e (rm 3) s m args below meth c H locs 0 0 Q (F0 m 25 ls []) := by
    intro n9
    induction n9 with
    | zero =>
      intro i y xh xg xf xk xs xb xd hi hy he hm9
      exact absurd hm9 (Nat.not_lt_zero _)
    | succ n9 ih_25 =>
      intro i y xh xg xf xk xs xb xd hi hy he hm9 H locs hP hD hS ls hl
      refine lv_iload_n hx hb dX4_tryOut_25 rfl (lv_at hl 3 rfl) ?_
      refine lv_bipush (v := 12) hx hb dX4_tryOut_26 (by decide) ?_
      refine lv_iload_n hx hb dX4_tryOut_28 rfl (lv_at hl 1 rfl) ?_
      refine lv_imul hx hb dX4_tryOut_29 ?_
      refine ra_top (nI (12 * w)) (pk_mul 12 w) ?_
      refine lv_aload_n hx hb dX4_tryOut_30 rfl (lv_at hl 0 rfl) ?_
      refine va_get (D := (dC, dI)) (ci := 4) (v := .ref m8) (C := RX4) (T := TX4) (N := 16) hx hb hts hin_X4 hown hK hP 0 rfl rfl 10 (by decide) hw_3 (fun _ h9 => h9) rfl dX4_tryOut_31 ?_
      refine lv_iload_n hx hb dX4_tryOut_34 rfl (lv_at hl 1 rfl) ?_
      refine ra_iald hx hb hK hP 8 rfl w rfl (by omega) (Nat.le_of_ble_eq_true rfl) dX4_tryOut_35 ?_
      refine ra_top (nI (ct w)) rfl ?_
      refine lv_iadd hx hb dX4_tryOut_36 ?_
      refine ra_top (nI (12 * w + (ct w))) (nI_add (12 * w) (ct w)) ?_
      refine lv_icmp_ge (tgt := 112) hx hb dX4_tryOut_37 (by decide) (fun c_37 => ?_) (fun c_37 => ?_)
      · ---- to 112
        have n_37 := (nq_le (12 * w + (ct w)) (12 * w + i) (by omega) (by omega)).mp c_37
        have he : (xh, xg, xf, xk, xs, xb, xd) = plW phm psm num n fz ct kd vl fh fg ff fk vs vb fp w := by rw [← he, show ct w - i = 0 by omega]; rfl
        rw [hQ]
        rw [← he]
        exact ra_vretW () hx hb hr hlocks hK hP hD hS trivial dX4_tryOut_112
      · ---- on
        have n_37 := (nq_le_n (12 * w + (ct w)) (12 * w + i) (by omega) (by omega)).mp c_37
        refine lv_aload_n hx hb dX4_tryOut_40 rfl (lv_at hl 0 rfl) ?_
        refine va_get (D := (dC, dI)) (ci := 4) (v := .ref m9) (C := RX4) (T := TX4) (N := 16) hx hb hts hin_X4 hown hK hP 0 rfl rfl 11 (by decide) hw_4 (fun _ h9 => h9) rfl dX4_tryOut_41 ?_
        refine lv_iload_n hx hb dX4_tryOut_44 rfl (lv_at hl 3 rfl) ?_
        refine ra_iald hx hb hK hP 9 rfl (12 * w + i) rfl (by omega) (Nat.le_of_ble_eq_true rfl) dX4_tryOut_45 ?_
        refine ra_top (kd w i) (q12_r _ (by omega)) ?_
        refine lv_if_ne (tgt := 65) hx hb dX4_tryOut_46 (by decide) (fun c_46 => ?_) (fun c_46 => ?_)
        · ---- to 65
          refine lv_aload_n hx hb dX4_tryOut_65 rfl (lv_at hl 0 rfl) ?_
          refine va_get (D := (dC, dI)) (ci := 4) (v := .ref m9) (C := RX4) (T := TX4) (N := 16) hx hb hts hin_X4 hown hK hP 0 rfl rfl 11 (by decide) hw_4 (fun _ h9 => h9) rfl dX4_tryOut_66 ?_
          refine lv_iload_n hx hb dX4_tryOut_69 rfl (lv_at hl 3 rfl) ?_
          refine ra_iald hx hb hK hP 9 rfl (12 * w + i) rfl (by omega) (Nat.le_of_ble_eq_true rfl) dX4_tryOut_70 ?_
          refine ra_top (kd w i) (q12_r _ (by omega)) ?_
          refine lv_iconst (v := 1) hx hb dX4_tryOut_71 (by decide) ?_
          refine lv_icmp_ne (tgt := 91) hx hb dX4_tryOut_72 (by decide) (fun c_72 => ?_) (fun c_72 => ?_)
          · ---- to 91
            refine lv_aload_n hx hb dX4_tryOut_91 rfl (lv_at hl 0 rfl) ?_
            refine lv_iconst (v := 2) hx hb dX4_tryOut_92 (by decide) ?_
            refine ra_cI (q := (RX4, TX4, 16)) (ci := 4) (As := [.int 2]) (rest := []) (wc := [ob m0 4 [.int (nI n), .int kn, .int fz, .ref m1, .ref m2, .ref m3, .ref m4, .ref m5, .ref m6, .ref m7, .ref m8, .ref m9, .ref m10, .ref m11, .ref m12, .ref m13], ai m1 cyI 21 (f3 fh uh xh), ai m2 cyI 21 (f3 fg ug xg), ai m3 cyI 21 (f3 ff uf xf), ai m4 cyI 21 (f3 fk uk xk), ai m5 cyI 3 (t3 vs us xs), ai m6 cyI 3 (t3 vb ub xb), ai m7 cyI 3 (t3 vd ud xd), ai m8 cyI 3 (nF ct), ai m9 cyI 36 (q12 kd), ai m10 cyI 36 (q12 vl), ai m11 cyI 7 fr, ai m12 cyI 3 fp, ai m13 cyI 3 bp]) (wr := []) ⟨hx, hb, hml, hown, hts⟩ (c_X4_endYear2 l dC dI cyI cyA m0 m1 m2 m3 m4 m5 m6 m7 m8 m9 m10 m11 m12 m13 n kn fz fh fg ff fk uh ug uf uk xh xg xf xk vs vb vd us ub ud xs xb xd ct kd vl fr fp bp (by omega) H.size) (cwV 1 hts gX4_tryOut_X4_endYear rfl rfl rfl (by decide +kernel) ⟨Nat.le_of_ble_eq_true rfl, Nat.le_of_ble_eq_true rfl⟩) hK hN hP hD hA hS [0, 1, 2, 3, 4, 5, 6, 7, 8, 9, 10, 11, 12, 13] [] rfl rfl (by decide) (by decide) (by decide) rfl rfl rfl hl.1 rfl (Nat.le_of_ble_eq_true rfl) dX4_tryOut_93 ⟨Nat.le_of_ble_eq_true rfl, Nat.le_of_ble_eq_true rfl⟩ (fun r_3 u_3 hw_c3 H locs hP hD hS => ?_)
            subst hw_c3
            have hP : va_P (dC, dI) vwCl [ob m0 4 [.int (nI n), .int kn, .int fz, .ref m1, .ref m2, .ref m3, .ref m4, .ref m5, .ref m6, .ref m7, .ref m8, .ref m9, .ref m10, .ref m11, .ref m12, .ref m13], ai m1 cyI 21 (f3 fh uh xh), ai m2 cyI 21 (f3 fg ug ((yE num n 0 xg xk 0).2.1)), ai m3 cyI 21 (f3 ff uf xf), ai m4 cyI 21 (f3 fk uk ((yE num n 0 xg xk 0).2.2)), ai m5 cyI 3 (t3 vs us xs), ai m6 cyI 3 (t3 vb ub xb), ai m7 cyI 3 (t3 vd ud xd), ai m8 cyI 3 (nF ct), ai m9 cyI 36 (q12 kd), ai m10 cyI 36 (q12 vl), ai m11 cyI 7 fr, ai m12 cyI 3 fp, ai m13 cyI 3 bp] H := hP
            have hD : va_D A [ob m0 4 [.int (nI n), .int kn, .int fz, .ref m1, .ref m2, .ref m3, .ref m4, .ref m5, .ref m6, .ref m7, .ref m8, .ref m9, .ref m10, .ref m11, .ref m12, .ref m13], ai m1 cyI 21 (f3 fh uh xh), ai m2 cyI 21 (f3 fg ug ((yE num n 0 xg xk 0).2.1)), ai m3 cyI 21 (f3 ff uf xf), ai m4 cyI 21 (f3 fk uk ((yE num n 0 xg xk 0).2.2)), ai m5 cyI 3 (t3 vs us xs), ai m6 cyI 3 (t3 vb ub xb), ai m7 cyI 3 (t3 vd ud xd), ai m8 cyI 3 (nF ct), ai m9 cyI 36 (q12 kd), ai m10 cyI 36 (q12 vl), ai m11 cyI 7 fr, ai m12 cyI 3 fp, ai m13 cyI 3 bp] := hD
            refine lv_istore (lv' := [(4, .int ((yE num n 0 xg xk 0).1)), (0, .ref m0), (1, .int (nI w)), (2, .int (nI y)), (3, .int (nI (12 * w + i)))]) hx hb dX4_tryOut_96 hl (by decide) rfl (fun ls hl => ?_)
            refine lv_iinc (v := nI (y + 1)) (lv' := [(2, .int (nI (y + 1))), (4, .int ((yE num n 0 xg xk 0).1)), (0, .ref m0), (1, .int (nI w)), (3, .int (nI (12 * w + i)))]) hx hb dX4_tryOut_98 hl (k := 3) rfl (ra_inc1 _) (by decide) rfl (fun ls hl => ?_)
            refine lv_aload_n hx hb dX4_tryOut_101 rfl (lv_at hl 2 rfl) ?_
            refine lv_iload_n hx hb dX4_tryOut_102 rfl (lv_at hl 0 rfl) ?_
            refine ra_cV (q := (RX4, TX4, 16)) (ci := 4) (As := [.int (nI (y + 1))]) (rest := []) (wc := [ob m0 4 [.int (nI n), .int kn, .int fz, .ref m1, .ref m2, .ref m3, .ref m4, .ref m5, .ref m6, .ref m7, .ref m8, .ref m9, .ref m10, .ref m11, .ref m12, .ref m13], ai m1 cyI 21 (f3 fh uh xh), ai m2 cyI 21 (f3 fg ug ((yE num n 0 xg xk 0).2.1)), ai m3 cyI 21 (f3 ff uf xf), ai m4 cyI 21 (f3 fk uk ((yE num n 0 xg xk 0).2.2)), ai m5 cyI 3 (t3 vs us xs), ai m6 cyI 3 (t3 vb ub xb), ai m7 cyI 3 (t3 vd ud xd), ai m8 cyI 3 (nF ct), ai m9 cyI 36 (q12 kd), ai m10 cyI 36 (q12 vl), ai m11 cyI 7 fr, ai m12 cyI 3 fp, ai m13 cyI 3 bp]) (wr := []) ⟨hx, hb, hml, hown, hts⟩ (c_X4_setFence l dC dI cyI cyA m0 m1 m2 m3 m4 m5 m6 m7 m8 m9 m10 m11 m12 m13 n kn fz fh fg ff fk uh ug uf uk xh ((yE num n 0 xg xk 0).2.1) xf ((yE num n 0 xg xk 0).2.2) vs vb vd us ub ud xs xb xd ct kd vl fr fp bp (y + 1) (by omega) hfp (by omega) H.size) (cwV 1 hts gX4_tryOut_X4_setFence rfl rfl rfl (by decide +kernel) ⟨Nat.le_of_ble_eq_true rfl, Nat.le_of_ble_eq_true rfl⟩) hK hN hP hD hA hS [0, 1, 2, 3, 4, 5, 6, 7, 8, 9, 10, 11, 12, 13] [] rfl rfl (by decide) (by decide) (by decide) rfl rfl rfl hl.1 rfl (Nat.le_of_ble_eq_true rfl) dX4_tryOut_103 ⟨Nat.le_of_ble_eq_true rfl, Nat.le_of_ble_eq_true rfl⟩ (fun u_4 hw_c4 H locs hP hD hS => ?_)
            have hP : va_P (dC, dI) vwCl [ob m0 4 [.int (nI n), .int kn, .int fz, .ref m1, .ref m2, .ref m3, .ref m4, .ref m5, .ref m6, .ref m7, .ref m8, .ref m9, .ref m10, .ref m11, .ref m12, .ref m13], ai m1 cyI 21 (f3 fh uh xh), ai m2 cyI 21 (f3 fg ug ((yE num n 0 xg xk 0).2.1)), ai m3 cyI 21 (f3 ff uf (bgY n xf fp fz (y + 1))), ai m4 cyI 21 (f3 fk uk ((yE num n 0 xg xk 0).2.2)), ai m5 cyI 3 (t3 vs us xs), ai m6 cyI 3 (t3 vb ub xb), ai m7 cyI 3 (t3 vd ud xd), ai m8 cyI 3 (nF ct), ai m9 cyI 36 (q12 kd), ai m10 cyI 36 (q12 vl), ai m11 cyI 7 fr, ai m12 cyI 3 fp, ai m13 cyI 3 bp] H := hP
            have hD : va_D A [ob m0 4 [.int (nI n), .int kn, .int fz, .ref m1, .ref m2, .ref m3, .ref m4, .ref m5, .ref m6, .ref m7, .ref m8, .ref m9, .ref m10, .ref m11, .ref m12, .ref m13], ai m1 cyI 21 (f3 fh uh xh), ai m2 cyI 21 (f3 fg ug ((yE num n 0 xg xk 0).2.1)), ai m3 cyI 21 (f3 ff uf (bgY n xf fp fz (y + 1))), ai m4 cyI 21 (f3 fk uk ((yE num n 0 xg xk 0).2.2)), ai m5 cyI 3 (t3 vs us xs), ai m6 cyI 3 (t3 vb ub xb), ai m7 cyI 3 (t3 vd ud xd), ai m8 cyI 3 (nF ct), ai m9 cyI 36 (q12 kd), ai m10 cyI 36 (q12 vl), ai m11 cyI 7 fr, ai m12 cyI 3 fp, ai m13 cyI 3 bp] := hD
            refine lv_iinc (v := nI (12 * w + (i + 1))) (lv' := [(3, .int (nI (12 * w + (i + 1)))), (2, .int (nI (y + 1))), (4, .int ((yE num n 0 xg xk 0).1)), (0, .ref m0), (1, .int (nI w))]) hx hb dX4_tryOut_106 hl (k := 4) rfl (ra_inc1 _) (by decide) rfl (fun ls hl => ?_)
            refine lv_goto (tgt := 25) hx hb dX4_tryOut_109 (by decide) ?_
            exact ih_25 (i + 1) (y + 1) xh ((yE num n 0 xg xk 0).2.1) (bgY n xf fp fz (y + 1)) ((yE num n 0 xg xk 0).2.2) xs xb xd (by omega) (by omega) (by rw [← he, show ct w - i = ct w - (i + 1) + 1 by omega]; show _ = ite _ _ _; first | (rw [if_pos c_46]; done) | (rw [if_neg c_46, if_pos c_72]; done) | (rw [if_neg c_46, if_neg c_72]; done)) (by omega) H locs hP hD hS ls (lv_sub hl [3, 4, 1, 0] rfl)
          · ---- on
            refine lv_aload_n hx hb dX4_tryOut_75 rfl (lv_at hl 0 rfl) ?_
            refine lv_iconst (v := 2) hx hb dX4_tryOut_76 (by decide) ?_
            refine lv_aload_n hx hb dX4_tryOut_77 rfl (lv_at hl 0 rfl) ?_
            refine va_get (D := (dC, dI)) (ci := 4) (v := .ref m10) (C := RX4) (T := TX4) (N := 16) hx hb hts hin_X4 hown hK hP 0 rfl rfl 12 (by decide) hw_5 (fun _ h9 => h9) rfl dX4_tryOut_78 ?_
            refine lv_iload_n hx hb dX4_tryOut_81 rfl (lv_at hl 3 rfl) ?_
            refine ra_iald hx hb hK hP 10 rfl (12 * w + i) rfl (by omega) (Nat.le_of_ble_eq_true rfl) dX4_tryOut_82 ?_
            refine ra_top (vl w i) (q12_r _ (by omega)) ?_
            refine ra_cI (q := (RX4, TX4, 16)) (ci := 4) (As := [.int 2, .int (vl w i)]) (rest := []) (wc := [ob m0 4 [.int (nI n), .int kn, .int fz, .ref m1, .ref m2, .ref m3, .ref m4, .ref m5, .ref m6, .ref m7, .ref m8, .ref m9, .ref m10, .ref m11, .ref m12, .ref m13], ai m1 cyI 21 (f3 fh uh xh), ai m2 cyI 21 (f3 fg ug xg), ai m3 cyI 21 (f3 ff uf xf), ai m4 cyI 21 (f3 fk uk xk), ai m5 cyI 3 (t3 vs us xs), ai m6 cyI 3 (t3 vb ub xb), ai m7 cyI 3 (t3 vd ud xd), ai m8 cyI 3 (nF ct), ai m9 cyI 36 (q12 kd), ai m10 cyI 36 (q12 vl), ai m11 cyI 7 fr, ai m12 cyI 3 fp, ai m13 cyI 3 bp]) (wr := []) ⟨hx, hb, hml, hown, hts⟩ (c_X4_flood2 l dC dI cyI cyA m0 m1 m2 m3 m4 m5 m6 m7 m8 m9 m10 m11 m12 m13 n kn fz fh fg ff fk uh ug uf uk xh xg xf xk vs vb vd us ub ud xs xb xd ct kd vl fr fp bp (vl w i) (by omega) H.size) (cwV 2 hts gX4_tryOut_X4_flood rfl rfl rfl (by decide +kernel) ⟨Nat.le_of_ble_eq_true rfl, Nat.le_of_ble_eq_true rfl⟩) hK hN hP hD hA hS [0, 1, 2, 3, 4, 5, 6, 7, 8, 9, 10, 11, 12, 13] [] rfl rfl (by decide) (by decide) (by decide) rfl rfl rfl hl.1 rfl (Nat.le_of_ble_eq_true rfl) dX4_tryOut_83 ⟨Nat.le_of_ble_eq_true rfl, Nat.le_of_ble_eq_true rfl⟩ (fun r_5 u_5 hw_c5 H locs hP hD hS => ?_)
            subst hw_c5
            have hP : va_P (dC, dI) vwCl [ob m0 4 [.int (nI n), .int kn, .int fz, .ref m1, .ref m2, .ref m3, .ref m4, .ref m5, .ref m6, .ref m7, .ref m8, .ref m9, .ref m10, .ref m11, .ref m12, .ref m13], ai m1 cyI 21 (f3 fh uh ((srg (vl w i) n 0 xh xg xf xs xd).2.1)), ai m2 cyI 21 (f3 fg ug ((srg (vl w i) n 0 xh xg xf xs xd).2.2.1)), ai m3 cyI 21 (f3 ff uf ((srg (vl w i) n 0 xh xg xf xs xd).2.2.2.1)), ai m4 cyI 21 (f3 fk uk xk), ai m5 cyI 3 (t3 vs us ((srg (vl w i) n 0 xh xg xf xs xd).2.2.2.2.1)), ai m6 cyI 3 (t3 vb ub xb), ai m7 cyI 3 (t3 vd ud ((srg (vl w i) n 0 xh xg xf xs xd).2.2.2.2.2)), ai m8 cyI 3 (nF ct), ai m9 cyI 36 (q12 kd), ai m10 cyI 36 (q12 vl), ai m11 cyI 7 fr, ai m12 cyI 3 fp, ai m13 cyI 3 bp] H := hP
            have hD : va_D A [ob m0 4 [.int (nI n), .int kn, .int fz, .ref m1, .ref m2, .ref m3, .ref m4, .ref m5, .ref m6, .ref m7, .ref m8, .ref m9, .ref m10, .ref m11, .ref m12, .ref m13], ai m1 cyI 21 (f3 fh uh ((srg (vl w i) n 0 xh xg xf xs xd).2.1)), ai m2 cyI 21 (f3 fg ug ((srg (vl w i) n 0 xh xg xf xs xd).2.2.1)), ai m3 cyI 21 (f3 ff uf ((srg (vl w i) n 0 xh xg xf xs xd).2.2.2.1)), ai m4 cyI 21 (f3 fk uk xk), ai m5 cyI 3 (t3 vs us ((srg (vl w i) n 0 xh xg xf xs xd).2.2.2.2.1)), ai m6 cyI 3 (t3 vb ub xb), ai m7 cyI 3 (t3 vd ud ((srg (vl w i) n 0 xh xg xf xs xd).2.2.2.2.2)), ai m8 cyI 3 (nF ct), ai m9 cyI 36 (q12 kd), ai m10 cyI 36 (q12 vl), ai m11 cyI 7 fr, ai m12 cyI 3 fp, ai m13 cyI 3 bp] := hD
            refine lv_istore (lv' := [(4, .int ((srg (vl w i) n 0 xh xg xf xs xd).1)), (0, .ref m0), (1, .int (nI w)), (2, .int (nI y)), (3, .int (nI (12 * w + i)))]) hx hb dX4_tryOut_86 hl (by decide) rfl (fun ls hl => ?_)
            refine lv_goto (tgt := 106) hx hb dX4_tryOut_88 (by decide) ?_
            refine lv_iinc (v := nI (12 * w + (i + 1))) (lv' := [(3, .int (nI (12 * w + (i + 1)))), (4, .int ((srg (vl w i) n 0 xh xg xf xs xd).1)), (0, .ref m0), (1, .int (nI w)), (2, .int (nI y))]) hx hb dX4_tryOut_106 hl (k := 4) rfl (ra_inc1 _) (by decide) rfl (fun ls hl => ?_)
            refine lv_goto (tgt := 25) hx hb dX4_tryOut_109 (by decide) ?_
            exact ih_25 (i + 1) y ((srg (vl w i) n 0 xh xg xf xs xd).2.1) ((srg (vl w i) n 0 xh xg xf xs xd).2.2.1) ((srg (vl w i) n 0 xh xg xf xs xd).2.2.2.1) xk ((srg (vl w i) n 0 xh xg xf xs xd).2.2.2.2.1) xb ((srg (vl w i) n 0 xh xg xf xs xd).2.2.2.2.2) (by omega) (by omega) (by rw [← he, show ct w - i = ct w - (i + 1) + 1 by omega]; show _ = ite _ _ _; first | (rw [if_pos c_46]; done) | (rw [if_neg c_46, if_pos c_72]; done) | (rw [if_neg c_46, if_neg c_72]; done)) (by omega) H locs hP hD hS ls (lv_sub hl [2, 3, 4, 0] rfl)
        · ---- on
          refine lv_aload_n hx hb dX4_tryOut_49 rfl (lv_at hl 0 rfl) ?_
          refine lv_iconst (v := 2) hx hb dX4_tryOut_50 (by decide) ?_
          refine lv_aload_n hx hb dX4_tryOut_51 rfl (lv_at hl 0 rfl) ?_
          refine va_get (D := (dC, dI)) (ci := 4) (v := .ref m10) (C := RX4) (T := TX4) (N := 16) hx hb hts hin_X4 hown hK hP 0 rfl rfl 12 (by decide) hw_5 (fun _ h9 => h9) rfl dX4_tryOut_52 ?_
          refine lv_iload_n hx hb dX4_tryOut_55 rfl (lv_at hl 3 rfl) ?_
          refine ra_iald hx hb hK hP 10 rfl (12 * w + i) rfl (by omega) (Nat.le_of_ble_eq_true rfl) dX4_tryOut_56 ?_
          refine ra_top (vl w i) (q12_r _ (by omega)) ?_
          refine ra_cI (q := (RX4, TX4, 16)) (ci := 4) (As := [.int 2, .int (vl w i)]) (rest := []) (wc := [ob m0 4 [.int (nI n), .int kn, .int fz, .ref m1, .ref m2, .ref m3, .ref m4, .ref m5, .ref m6, .ref m7, .ref m8, .ref m9, .ref m10, .ref m11, .ref m12, .ref m13], ai m1 cyI 21 (f3 fh uh xh), ai m2 cyI 21 (f3 fg ug xg), ai m3 cyI 21 (f3 ff uf xf), ai m4 cyI 21 (f3 fk uk xk), ai m5 cyI 3 (t3 vs us xs), ai m6 cyI 3 (t3 vb ub xb), ai m7 cyI 3 (t3 vd ud xd), ai m8 cyI 3 (nF ct), ai m9 cyI 36 (q12 kd), ai m10 cyI 36 (q12 vl), ai m11 cyI 7 fr, ai m12 cyI 3 fp, ai m13 cyI 3 bp]) (wr := []) ⟨hx, hb, hml, hown, hts⟩ (c_X4_blow2 l dC dI cyI cyA m0 m1 m2 m3 m4 m5 m6 m7 m8 m9 m10 m11 m12 m13 n kn fz fh fg ff fk uh ug uf uk xh xg xf xk vs vb vd us ub ud xs xb xd ct kd vl fr fp bp (vl w i) (by omega) H.size) (cwV 2 hts gX4_tryOut_X4_blow rfl rfl rfl (by decide +kernel) ⟨Nat.le_of_ble_eq_true rfl, Nat.le_of_ble_eq_true rfl⟩) hK hN hP hD hA hS [0, 1, 2, 3, 4, 5, 6, 7, 8, 9, 10, 11, 12, 13] [] rfl rfl (by decide) (by decide) (by decide) rfl rfl rfl hl.1 rfl (Nat.le_of_ble_eq_true rfl) dX4_tryOut_57 ⟨Nat.le_of_ble_eq_true rfl, Nat.le_of_ble_eq_true rfl⟩ (fun r_6 u_6 hw_c6 H locs hP hD hS => ?_)
          subst hw_c6
          have hP : va_P (dC, dI) vwCl [ob m0 4 [.int (nI n), .int kn, .int fz, .ref m1, .ref m2, .ref m3, .ref m4, .ref m5, .ref m6, .ref m7, .ref m8, .ref m9, .ref m10, .ref m11, .ref m12, .ref m13], ai m1 cyI 21 (f3 fh uh ((blow phm psm n xh xg xf xk (vl w i)).1)), ai m2 cyI 21 (f3 fg ug xg), ai m3 cyI 21 (f3 ff uf ((blow phm psm n xh xg xf xk (vl w i)).2.1)), ai m4 cyI 21 (f3 fk uk ((blow phm psm n xh xg xf xk (vl w i)).2.2.1)), ai m5 cyI 3 (t3 vs us xs), ai m6 cyI 3 (t3 vb ub (xb + (blow phm psm n xh xg xf xk (vl w i)).2.2.2)), ai m7 cyI 3 (t3 vd ud xd), ai m8 cyI 3 (nF ct), ai m9 cyI 36 (q12 kd), ai m10 cyI 36 (q12 vl), ai m11 cyI 7 fr, ai m12 cyI 3 fp, ai m13 cyI 3 bp] H := hP
          have hD : va_D A [ob m0 4 [.int (nI n), .int kn, .int fz, .ref m1, .ref m2, .ref m3, .ref m4, .ref m5, .ref m6, .ref m7, .ref m8, .ref m9, .ref m10, .ref m11, .ref m12, .ref m13], ai m1 cyI 21 (f3 fh uh ((blow phm psm n xh xg xf xk (vl w i)).1)), ai m2 cyI 21 (f3 fg ug xg), ai m3 cyI 21 (f3 ff uf ((blow phm psm n xh xg xf xk (vl w i)).2.1)), ai m4 cyI 21 (f3 fk uk ((blow phm psm n xh xg xf xk (vl w i)).2.2.1)), ai m5 cyI 3 (t3 vs us xs), ai m6 cyI 3 (t3 vb ub (xb + (blow phm psm n xh xg xf xk (vl w i)).2.2.2)), ai m7 cyI 3 (t3 vd ud xd), ai m8 cyI 3 (nF ct), ai m9 cyI 36 (q12 kd), ai m10 cyI 36 (q12 vl), ai m11 cyI 7 fr, ai m12 cyI 3 fp, ai m13 cyI 3 bp] := hD
          refine lv_istore (lv' := [(4, .int ((blow phm psm n xh xg xf xk (vl w i)).2.2.2)), (0, .ref m0), (1, .int (nI w)), (2, .int (nI y)), (3, .int (nI (12 * w + i)))]) hx hb dX4_tryOut_60 hl (by decide) rfl (fun ls hl => ?_)
          refine lv_goto (tgt := 106) hx hb dX4_tryOut_62 (by decide) ?_
          refine lv_iinc (v := nI (12 * w + (i + 1))) (lv' := [(3, .int (nI (12 * w + (i + 1)))), (4, .int ((blow phm psm n xh xg xf xk (vl w i)).2.2.2)), (0, .ref m0), (1, .int (nI w)), (2, .int (nI y))]) hx hb dX4_tryOut_106 hl (k := 4) rfl (ra_inc1 _) (by decide) rfl (fun ls hl => ?_)
          refine lv_goto (tgt := 25) hx hb dX4_tryOut_109 (by decide) ?_
          exact ih_25 (i + 1) y ((blow phm psm n xh xg xf xk (vl w i)).1) xg ((blow phm psm n xh xg xf xk (vl w i)).2.1) ((blow phm psm n xh xg xf xk (vl w i)).2.2.1) xs (xb + (blow phm psm n xh xg xf xk (vl w i)).2.2.2) xd (by omega) (by omega) (by rw [← he, show ct w - i = ct w - (i + 1) + 1 by omega]; show _ = ite _ _ _; first | (rw [if_pos c_46]; done) | (rw [if_neg c_46, if_pos c_72]; done) | (rw [if_neg c_46, if_neg c_72]; done)) (by omega) H locs hP hD hS ls (lv_sub hl [2, 3, 4, 0] rfl)
  exact L_25 _ 0 0 fh fg (bgY n ff fp fz 0) fk vs vb 0 (by omega) (by omega) rfl (Nat.lt_succ_self _) H locs hP hD hS ls (lv_sub hl [2, 3, 1, 0] rfl)

set_option maxHeartbeats 4000000 in
set_option maxRecDepth 100000 in
theorem c_X4_isFence (l : Launch) (dC : Nat → ClassId) (dI : Nat → Nat → Nat) (cyI cyA : ClassId) (m0 m1 m2 m3 m4 m5 m6 m7 m8 m9 m10 m11 m12 m13 n : Nat) (kn fz : Int32) (fh fg ff fk uh ug uf uk th tg tf tk : FN) (vs vb vd us ub ud ts tb td : Int32) (ct : Nat → Nat) (kd vl : Nat → FN) (fr fp bp : FN) (x : Int32) (hn : n ≤ 7) (hn1 : 1 ≤ n) : Met l yX4_isFence wsX4_isFence (rm 2) (kR dC dI cyI cyA [.ref m0, .int x] [ob m0 4 [.int (nI n), .int kn, .int fz, .ref m1, .ref m2, .ref m3, .ref m4, .ref m5, .ref m6, .ref m7, .ref m8, .ref m9, .ref m10, .ref m11, .ref m12, .ref m13], ai m1 cyI 21 (f3 fh uh th), ai m2 cyI 21 (f3 fg ug tg), ai m3 cyI 21 (f3 ff uf tf), ai m4 cyI 21 (f3 fk uk tk), ai m5 cyI 3 (t3 vs us ts), ai m6 cyI 3 (t3 vb ub tb), ai m7 cyI 3 (t3 vd ud td), ai m8 cyI 3 (nF ct), ai m9 cyI 36 (q12 kd), ai m10 cyI 36 (q12 vl), ai m11 cyI 7 fr, ai m12 cyI 3 fp, ai m13 cyI 3 bp]) (QcRead (bj (ceN n x))) 0 0 (fun _ => False) := by
  refine ra_metR (cc := cX4_isFence) (maxL := 2) (by decide) rfl (Nat.le_of_ble_eq_true rfl) ?_
  intro p e s m below meth c args Q hQ hx hb hr hlocks hml hts hown hK hN hP ls hl
  have hl : lv_has ls 2 [(0, .ref m0), (1, .int x)] := hl
  have hown : s.vm.findClass RX4 = some m.cls := hown
  refine lv_iload_n hx hb dX4_isFence_0 rfl (lv_at hl 1 rfl) ?_
  refine lv_iconst (v := (-1)) hx hb dX4_isFence_1 (by decide) ?_
  refine lv_icmp_eq (tgt := 13) hx hb dX4_isFence_2 (by decide) (fun c_2 => ?_) (fun c_2 => ?_)
  · ---- to 13
    refine lv_iconst (v := 1) hx hb dX4_isFence_13 (by decide) ?_
    refine lv_goto (tgt := 18) hx hb dX4_isFence_14 (by decide) ?_
    rw [hQ]
    exact ra_iretR hx hb hr hlocks rfl (by first | exact (bj_t (show ceN n x from Or.inl c_2)).symm | exact (bj_t (show ceN n x from Or.inr c_10)).symm | exact (bj_f (show ¬ ceN n x from fun q => q.elim c_2 c_10)).symm) dX4_isFence_18
  · ---- on
    refine lv_aload_n hx hb dX4_isFence_5 rfl (lv_at hl 0 rfl) ?_
    refine lv_iload_n hx hb dX4_isFence_6 rfl (lv_at hl 1 rfl) ?_
    refine ra_cR (q := (RX4, TX4, 16)) (ci := 4) (As := [.int x]) (rest := []) (wc := [ob m0 4 [.int (nI n), .int kn, .int fz, .ref m1, .ref m2, .ref m3, .ref m4, .ref m5, .ref m6, .ref m7, .ref m8, .ref m9, .ref m10, .ref m11, .ref m12, .ref m13], ai m1 cyI 21 (f3 fh uh th), ai m2 cyI 21 (f3 fg ug tg), ai m3 cyI 21 (f3 ff uf tf), ai m4 cyI 21 (f3 fk uk tk), ai m5 cyI 3 (t3 vs us ts), ai m6 cyI 3 (t3 vb ub tb), ai m7 cyI 3 (t3 vd ud td), ai m8 cyI 3 (nF ct), ai m9 cyI 36 (q12 kd), ai m10 cyI 36 (q12 vl), ai m11 cyI 7 fr, ai m12 cyI 3 fp, ai m13 cyI 3 bp]) ⟨hx, hb, hml, hown, hts⟩ (c_X4_isCell l dC dI cyI cyA m0 m1 m2 m3 m4 m5 m6 m7 m8 m9 m10 m11 m12 m13 n kn fz fh fg ff fk uh ug uf uk th tg tf tk vs vb vd us ub ud ts tb td ct kd vl fr fp bp x (by omega) (by omega)) (cwV 1 hts gX4_isFence_X4_isCell rfl rfl rfl (by decide +kernel) ⟨Nat.le_of_ble_eq_true rfl, Nat.le_of_ble_eq_true rfl⟩) hK hN hP [0, 1, 2, 3, 4, 5, 6, 7, 8, 9, 10, 11, 12, 13] rfl rfl rfl rfl hl.1 rfl (Nat.le_of_ble_eq_true rfl) dX4_isFence_7 ⟨Nat.le_of_ble_eq_true rfl, Nat.le_of_ble_eq_true rfl⟩ ?_
    refine lv_if_eq (tgt := 17) hx hb dX4_isFence_10 (by decide) (fun c_10 => ?_) (fun c_10 => ?_)
    · ---- to 17
      have c_10 := bi_0 c_10
      refine lv_iconst (v := 0) hx hb dX4_isFence_17 (by decide) ?_
      rw [hQ]
      exact ra_iretR hx hb hr hlocks rfl (by first | exact (bj_t (show ceN n x from Or.inl c_2)).symm | exact (bj_t (show ceN n x from Or.inr c_10)).symm | exact (bj_f (show ¬ ceN n x from fun q => q.elim c_2 c_10)).symm) dX4_isFence_18
    · ---- on
      have c_10 := bi_1 c_10
      refine lv_iconst (v := 1) hx hb dX4_isFence_13 (by decide) ?_
      refine lv_goto (tgt := 18) hx hb dX4_isFence_14 (by decide) ?_
      rw [hQ]
      exact ra_iretR hx hb hr hlocks rfl (by first | exact (bj_t (show ceN n x from Or.inl c_2)).symm | exact (bj_t (show ceN n x from Or.inr c_10)).symm | exact (bj_f (show ¬ ceN n x from fun q => q.elim c_2 c_10)).symm) dX4_isFence_18

set_option maxHeartbeats 4000000 in
set_option maxRecDepth 100000 in
theorem c_X4_ask (l : Launch) (dC : Nat → ClassId) (dI : Nat → Nat → Nat) (cyI cyA : ClassId) (m0 m1 m2 m3 m4 m5 m6 m7 m8 m9 m10 m11 m12 m13 n : Nat) (kn fz : Int32) (fh fg ff fk uh ug uf uk th tg tf tk : FN) (vs vb vd us ub ud ts tb td : Int32) (ct : Nat → Nat) (kd vl : Nat → FN) (fr fp bp : FN) (x a b c3 : Int32) (hn : n ≤ 7) (hn1 : 1 ≤ n) (hct : ∀ w, w < 3 → ct w ≤ 12) (sz : Nat) : Met l yX4_ask wsX4_ask (rm 4) (kW dC dI cyI cyA [.ref m0, .int x, .int a, .int b, .int c3] sz [ob m0 4 [.int (nI n), .int kn, .int fz, .ref m1, .ref m2, .ref m3, .ref m4, .ref m5, .ref m6, .ref m7, .ref m8, .ref m9, .ref m10, .ref m11, .ref m12, .ref m13], ai m1 cyI 21 (f3 fh uh th), ai m2 cyI 21 (f3 fg ug tg), ai m3 cyI 21 (f3 ff uf tf), ai m4 cyI 21 (f3 fk uk tk), ai m5 cyI 3 (t3 vs us ts), ai m6 cyI 3 (t3 vb ub tb), ai m7 cyI 3 (t3 vd ud td), ai m8 cyI 3 (nF ct), ai m9 cyI 36 (q12 kd), ai m10 cyI 36 (q12 vl), ai m11 cyI 7 fr, ai m12 cyI 3 fp, ai m13 cyI 3 bp]) (qI dC dI cyI cyA (fun (r : Int32) (u : FN × FN × FN × FN × Int32 × Int32 × Int32 × FN) => match u with | (xh, xg, xf, xk, xs, xb, xd, fp2) => r = bj (tryOk n x a b c3) ∧ (tryOk n x a b c3 → (xh, xg, xf, xk, xs, xb, xd) = plW phm psm num n fz ct kd vl fh fg ff fk vs vb (p3 a b c3) x.toNatClampNeg)) (va_A [ob m0 4 [.int (nI n), .int kn, .int fz, .ref m1, .ref m2, .ref m3, .ref m4, .ref m5, .ref m6, .ref m7, .ref m8, .ref m9, .ref m10, .ref m11, .ref m12, .ref m13], ai m1 cyI 21 (f3 fh uh th), ai m2 cyI 21 (f3 fg ug tg), ai m3 cyI 21 (f3 ff uf tf), ai m4 cyI 21 (f3 fk uk tk), ai m5 cyI 3 (t3 vs us ts), ai m6 cyI 3 (t3 vb ub tb), ai m7 cyI 3 (t3 vd ud td), ai m8 cyI 3 (nF ct), ai m9 cyI 36 (q12 kd), ai m10 cyI 36 (q12 vl), ai m11 cyI 7 fr, ai m12 cyI 3 fp, ai m13 cyI 3 bp] sz) (fun u : FN × FN × FN × FN × Int32 × Int32 × Int32 × FN => match u with | (xh, xg, xf, xk, xs, xb, xd, fp2) => [ob m0 4 [.int (nI n), .int kn, .int fz, .ref m1, .ref m2, .ref m3, .ref m4, .ref m5, .ref m6, .ref m7, .ref m8, .ref m9, .ref m10, .ref m11, .ref m12, .ref m13], ai m1 cyI 21 (f3 fh uh xh), ai m2 cyI 21 (f3 fg ug xg), ai m3 cyI 21 (f3 ff uf xf), ai m4 cyI 21 (f3 fk uk xk), ai m5 cyI 3 (t3 vs us xs), ai m6 cyI 3 (t3 vb ub xb), ai m7 cyI 3 (t3 vd ud xd), ai m8 cyI 3 (nF ct), ai m9 cyI 36 (q12 kd), ai m10 cyI 36 (q12 vl), ai m11 cyI 7 fr, ai m12 cyI 3 fp2, ai m13 cyI 3 bp])) 0 0 (va_A [ob m0 4 [.int (nI n), .int kn, .int fz, .ref m1, .ref m2, .ref m3, .ref m4, .ref m5, .ref m6, .ref m7, .ref m8, .ref m9, .ref m10, .ref m11, .ref m12, .ref m13], ai m1 cyI 21 (f3 fh uh th), ai m2 cyI 21 (f3 fg ug tg), ai m3 cyI 21 (f3 ff uf tf), ai m4 cyI 21 (f3 fk uk tk), ai m5 cyI 3 (t3 vs us ts), ai m6 cyI 3 (t3 vb ub tb), ai m7 cyI 3 (t3 vd ud td), ai m8 cyI 3 (nF ct), ai m9 cyI 36 (q12 kd), ai m10 cyI 36 (q12 vl), ai m11 cyI 7 fr, ai m12 cyI 3 fp, ai m13 cyI 3 bp] sz) := by
  refine ra_metW (cc := cX4_ask) (maxL := 5) (Qc := fun A => qI dC dI cyI cyA (fun (r : Int32) (u : FN × FN × FN × FN × Int32 × Int32 × Int32 × FN) => match u with | (xh, xg, xf, xk, xs, xb, xd, fp2) => r = bj (tryOk n x a b c3) ∧ (tryOk n x a b c3 → (xh, xg, xf, xk, xs, xb, xd) = plW phm psm num n fz ct kd vl fh fg ff fk vs vb (p3 a b c3) x.toNatClampNeg)) A (fun u : FN × FN × FN × FN × Int32 × Int32 × Int32 × FN => match u with | (xh, xg, xf, xk, xs, xb, xd, fp2) => [ob m0 4 [.int (nI n), .int kn, .int fz, .ref m1, .ref m2, .ref m3, .ref m4, .ref m5, .ref m6, .ref m7, .ref m8, .ref m9, .ref m10, .ref m11, .ref m12, .ref m13], ai m1 cyI 21 (f3 fh uh xh), ai m2 cyI 21 (f3 fg ug xg), ai m3 cyI 21 (f3 ff uf xf), ai m4 cyI 21 (f3 fk uk xk), ai m5 cyI 3 (t3 vs us xs), ai m6 cyI 3 (t3 vb ub xb), ai m7 cyI 3 (t3 vd ud xd), ai m8 cyI 3 (nF ct), ai m9 cyI 36 (q12 kd), ai m10 cyI 36 (q12 vl), ai m11 cyI 7 fr, ai m12 cyI 3 fp2, ai m13 cyI 3 bp])) (by decide) rfl (Nat.le_of_ble_eq_true rfl) ?_
  intro p e s m below meth c A args Q hQ hx hb hr hlocks hml hts hown hnm hK hN hP hD hA hS ls hl
  have hl : lv_has ls 5 [(0, .ref m0), (1, .int x), (2, .int a), (3, .int b), (4, .int c3)] := hl
  have hown : s.vm.findClass RX4 = some m.cls := hown
  have hw_1 := hts (.fieldLink RX4 50 "DuneBenchModel" "fences" "[I") (by decide +kernel)
  have hin_X4 : ∀ w ∈ u_ws RX4 TX4 16, w ∈ wsX4_ask := by decide +kernel
  obtain ⟨H, hHe⟩ : ∃ H, H = s.heap := ⟨_, rfl⟩
  obtain ⟨locs, hLe⟩ : ∃ locs : List Loc, locs = [] := ⟨_, rfl⟩
  have hP : va_P (dC, dI) vwCl [ob m0 4 [.int (nI n), .int kn, .int fz, .ref m1, .ref m2, .ref m3, .ref m4, .ref m5, .ref m6, .ref m7, .ref m8, .ref m9, .ref m10, .ref m11, .ref m12, .ref m13], ai m1 cyI 21 (f3 fh uh th), ai m2 cyI 21 (f3 fg ug tg), ai m3 cyI 21 (f3 ff uf tf), ai m4 cyI 21 (f3 fk uk tk), ai m5 cyI 3 (t3 vs us ts), ai m6 cyI 3 (t3 vb ub tb), ai m7 cyI 3 (t3 vd ud td), ai m8 cyI 3 (nF ct), ai m9 cyI 36 (q12 kd), ai m10 cyI 36 (q12 vl), ai m11 cyI 7 fr, ai m12 cyI 3 fp, ai m13 cyI 3 bp] H := by rw [hHe]; exact hP
  have hS : va_S A s.heap H locs := by rw [hHe, hLe]; exact hS
  suffices hgo : W p l e (rm 4) s m args below meth c H locs 0 0 Q (F0 m 0 ls []) by rw [hHe, hLe] at hgo; exact hgo
  refine lv_iload_n hx hb dX4_ask_0 rfl (lv_at hl 1 rfl) ?_
  refine ra_cS (As := [.int x]) (rest := []) ⟨hx, hb, hml, hown, hts⟩ (c_X4_isWeather l x ) (va_cwS 1 hts gX4_ask_X4_isWeather rfl rfl rfl (by decide +kernel) ⟨Nat.le_of_ble_eq_true rfl, Nat.le_of_ble_eq_true rfl⟩) hN rfl hl.1 rfl (Nat.le_of_ble_eq_true rfl) dX4_ask_1 ⟨Nat.le_of_ble_eq_true rfl, Nat.le_of_ble_eq_true rfl⟩ ?_
  refine lv_if_eq (tgt := 32) hx hb dX4_ask_4 (by decide) (fun c_4 => ?_) (fun c_4 => ?_)
  · ---- to 32
    have c_4 := bi_0 c_4
    refine lv_iconst (v := 0) hx hb dX4_ask_32 (by decide) ?_
    rw [hQ]
    exact ra_iretW (th, tg, tf, tk, ts, tb, td, fp) hx hb hr hlocks rfl hK hP hD hS ⟨(bj_f (show ¬ tryOk n x a b c3 from fun q => c_4 q.1)).symm, fun q => absurd q (fun q => c_4 q.1)⟩ dX4_ask_33
  · ---- on
    have c_4 := bi_1 c_4
    refine lv_aload_n hx hb dX4_ask_7 rfl (lv_at hl 0 rfl) ?_
    refine lv_iload_n hx hb dX4_ask_8 rfl (lv_at hl 2 rfl) ?_
    refine ra_cR (q := (RX4, TX4, 16)) (ci := 4) (As := [.int a]) (rest := []) (wc := [ob m0 4 [.int (nI n), .int kn, .int fz, .ref m1, .ref m2, .ref m3, .ref m4, .ref m5, .ref m6, .ref m7, .ref m8, .ref m9, .ref m10, .ref m11, .ref m12, .ref m13], ai m1 cyI 21 (f3 fh uh th), ai m2 cyI 21 (f3 fg ug tg), ai m3 cyI 21 (f3 ff uf tf), ai m4 cyI 21 (f3 fk uk tk), ai m5 cyI 3 (t3 vs us ts), ai m6 cyI 3 (t3 vb ub tb), ai m7 cyI 3 (t3 vd ud td), ai m8 cyI 3 (nF ct), ai m9 cyI 36 (q12 kd), ai m10 cyI 36 (q12 vl), ai m11 cyI 7 fr, ai m12 cyI 3 fp, ai m13 cyI 3 bp]) ⟨hx, hb, hml, hown, hts⟩ (c_X4_isFence l dC dI cyI cyA m0 m1 m2 m3 m4 m5 m6 m7 m8 m9 m10 m11 m12 m13 n kn fz fh fg ff fk uh ug uf uk th tg tf tk vs vb vd us ub ud ts tb td ct kd vl fr fp bp a (by omega) (by omega)) (cwV 1 hts gX4_ask_X4_isFence rfl rfl rfl (by decide +kernel) ⟨Nat.le_of_ble_eq_true rfl, Nat.le_of_ble_eq_true rfl⟩) hK hN hP [0, 1, 2, 3, 4, 5, 6, 7, 8, 9, 10, 11, 12, 13] rfl rfl rfl rfl hl.1 rfl (Nat.le_of_ble_eq_true rfl) dX4_ask_9 ⟨Nat.le_of_ble_eq_true rfl, Nat.le_of_ble_eq_true rfl⟩ ?_
    refine lv_if_eq (tgt := 32) hx hb dX4_ask_12 (by decide) (fun c_12 => ?_) (fun c_12 => ?_)
    · ---- to 32
      have c_12 := bj_0 c_12
      refine lv_iconst (v := 0) hx hb dX4_ask_32 (by decide) ?_
      rw [hQ]
      exact ra_iretW (th, tg, tf, tk, ts, tb, td, fp) hx hb hr hlocks rfl hK hP hD hS ⟨(bj_f (show ¬ tryOk n x a b c3 from fun q => c_12 q.2.1)).symm, fun q => absurd q (fun q => c_12 q.2.1)⟩ dX4_ask_33
    · ---- on
      have c_12 := bj_1 c_12
      refine lv_aload_n hx hb dX4_ask_15 rfl (lv_at hl 0 rfl) ?_
      refine lv_iload_n hx hb dX4_ask_16 rfl (lv_at hl 3 rfl) ?_
      refine ra_cR (q := (RX4, TX4, 16)) (ci := 4) (As := [.int b]) (rest := []) (wc := [ob m0 4 [.int (nI n), .int kn, .int fz, .ref m1, .ref m2, .ref m3, .ref m4, .ref m5, .ref m6, .ref m7, .ref m8, .ref m9, .ref m10, .ref m11, .ref m12, .ref m13], ai m1 cyI 21 (f3 fh uh th), ai m2 cyI 21 (f3 fg ug tg), ai m3 cyI 21 (f3 ff uf tf), ai m4 cyI 21 (f3 fk uk tk), ai m5 cyI 3 (t3 vs us ts), ai m6 cyI 3 (t3 vb ub tb), ai m7 cyI 3 (t3 vd ud td), ai m8 cyI 3 (nF ct), ai m9 cyI 36 (q12 kd), ai m10 cyI 36 (q12 vl), ai m11 cyI 7 fr, ai m12 cyI 3 fp, ai m13 cyI 3 bp]) ⟨hx, hb, hml, hown, hts⟩ (c_X4_isFence l dC dI cyI cyA m0 m1 m2 m3 m4 m5 m6 m7 m8 m9 m10 m11 m12 m13 n kn fz fh fg ff fk uh ug uf uk th tg tf tk vs vb vd us ub ud ts tb td ct kd vl fr fp bp b (by omega) (by omega)) (cwV 1 hts gX4_ask_X4_isFence rfl rfl rfl (by decide +kernel) ⟨Nat.le_of_ble_eq_true rfl, Nat.le_of_ble_eq_true rfl⟩) hK hN hP [0, 1, 2, 3, 4, 5, 6, 7, 8, 9, 10, 11, 12, 13] rfl rfl rfl rfl hl.1 rfl (Nat.le_of_ble_eq_true rfl) dX4_ask_17 ⟨Nat.le_of_ble_eq_true rfl, Nat.le_of_ble_eq_true rfl⟩ ?_
      refine lv_if_eq (tgt := 32) hx hb dX4_ask_20 (by decide) (fun c_20 => ?_) (fun c_20 => ?_)
      · ---- to 32
        have c_20 := bj_0 c_20
        refine lv_iconst (v := 0) hx hb dX4_ask_32 (by decide) ?_
        rw [hQ]
        exact ra_iretW (th, tg, tf, tk, ts, tb, td, fp) hx hb hr hlocks rfl hK hP hD hS ⟨(bj_f (show ¬ tryOk n x a b c3 from fun q => c_20 q.2.2.1)).symm, fun q => absurd q (fun q => c_20 q.2.2.1)⟩ dX4_ask_33
      · ---- on
        have c_20 := bj_1 c_20
        refine lv_aload_n hx hb dX4_ask_23 rfl (lv_at hl 0 rfl) ?_
        refine lv_iload hx hb dX4_ask_24 (lv_at hl 4 rfl) ?_
        refine ra_cR (q := (RX4, TX4, 16)) (ci := 4) (As := [.int c3]) (rest := []) (wc := [ob m0 4 [.int (nI n), .int kn, .int fz, .ref m1, .ref m2, .ref m3, .ref m4, .ref m5, .ref m6, .ref m7, .ref m8, .ref m9, .ref m10, .ref m11, .ref m12, .ref m13], ai m1 cyI 21 (f3 fh uh th), ai m2 cyI 21 (f3 fg ug tg), ai m3 cyI 21 (f3 ff uf tf), ai m4 cyI 21 (f3 fk uk tk), ai m5 cyI 3 (t3 vs us ts), ai m6 cyI 3 (t3 vb ub tb), ai m7 cyI 3 (t3 vd ud td), ai m8 cyI 3 (nF ct), ai m9 cyI 36 (q12 kd), ai m10 cyI 36 (q12 vl), ai m11 cyI 7 fr, ai m12 cyI 3 fp, ai m13 cyI 3 bp]) ⟨hx, hb, hml, hown, hts⟩ (c_X4_isFence l dC dI cyI cyA m0 m1 m2 m3 m4 m5 m6 m7 m8 m9 m10 m11 m12 m13 n kn fz fh fg ff fk uh ug uf uk th tg tf tk vs vb vd us ub ud ts tb td ct kd vl fr fp bp c3 (by omega) (by omega)) (cwV 1 hts gX4_ask_X4_isFence rfl rfl rfl (by decide +kernel) ⟨Nat.le_of_ble_eq_true rfl, Nat.le_of_ble_eq_true rfl⟩) hK hN hP [0, 1, 2, 3, 4, 5, 6, 7, 8, 9, 10, 11, 12, 13] rfl rfl rfl rfl hl.1 rfl (Nat.le_of_ble_eq_true rfl) dX4_ask_26 ⟨Nat.le_of_ble_eq_true rfl, Nat.le_of_ble_eq_true rfl⟩ ?_
        refine lv_if_ne (tgt := 34) hx hb dX4_ask_29 (by decide) (fun c_29 => ?_) (fun c_29 => ?_)
        · ---- to 34
          have c_29 := bj_1 c_29
          obtain ⟨w, hw, rfl⟩ := i32_nat3 c_4
          have hcw := hct w hw
          refine lv_aload_n hx hb dX4_ask_34 rfl (lv_at hl 0 rfl) ?_
          refine va_get (D := (dC, dI)) (ci := 4) (v := .ref m12) (C := RX4) (T := TX4) (N := 16) hx hb hts hin_X4 hown hK hP 0 rfl rfl 14 (by decide) hw_1 (fun _ h9 => h9) rfl dX4_ask_35 ?_
          refine lv_iconst (v := 0) hx hb dX4_ask_38 (by decide) ?_
          refine lv_iload_n hx hb dX4_ask_39 rfl (lv_at hl 2 rfl) ?_
          refine ra_iast hx hb hK hP hD hS 12 rfl 0 rfl (by omega) (Nat.le_of_ble_eq_true rfl) dX4_ask_40 (fun H locs hP hD hS => ?_)
          have hP : va_P (dC, dI) vwCl [ob m0 4 [.int (nI n), .int kn, .int fz, .ref m1, .ref m2, .ref m3, .ref m4, .ref m5, .ref m6, .ref m7, .ref m8, .ref m9, .ref m10, .ref m11, .ref m12, .ref m13], ai m1 cyI 21 (f3 fh uh th), ai m2 cyI 21 (f3 fg ug tg), ai m3 cyI 21 (f3 ff uf tf), ai m4 cyI 21 (f3 fk uk tk), ai m5 cyI 3 (t3 vs us ts), ai m6 cyI 3 (t3 vb ub tb), ai m7 cyI 3 (t3 vd ud td), ai m8 cyI 3 (nF ct), ai m9 cyI 36 (q12 kd), ai m10 cyI 36 (q12 vl), ai m11 cyI 7 fr, ai m12 cyI 3 (upd fp 0 a), ai m13 cyI 3 bp] H := hP
          have hD : va_D A [ob m0 4 [.int (nI n), .int kn, .int fz, .ref m1, .ref m2, .ref m3, .ref m4, .ref m5, .ref m6, .ref m7, .ref m8, .ref m9, .ref m10, .ref m11, .ref m12, .ref m13], ai m1 cyI 21 (f3 fh uh th), ai m2 cyI 21 (f3 fg ug tg), ai m3 cyI 21 (f3 ff uf tf), ai m4 cyI 21 (f3 fk uk tk), ai m5 cyI 3 (t3 vs us ts), ai m6 cyI 3 (t3 vb ub tb), ai m7 cyI 3 (t3 vd ud td), ai m8 cyI 3 (nF ct), ai m9 cyI 36 (q12 kd), ai m10 cyI 36 (q12 vl), ai m11 cyI 7 fr, ai m12 cyI 3 (upd fp 0 a), ai m13 cyI 3 bp] := hD
          refine lv_aload_n hx hb dX4_ask_41 rfl (lv_at hl 0 rfl) ?_
          refine va_get (D := (dC, dI)) (ci := 4) (v := .ref m12) (C := RX4) (T := TX4) (N := 16) hx hb hts hin_X4 hown hK hP 0 rfl rfl 14 (by decide) hw_1 (fun _ h9 => h9) rfl dX4_ask_42 ?_
          refine lv_iconst (v := 1) hx hb dX4_ask_45 (by decide) ?_
          refine lv_iload_n hx hb dX4_ask_46 rfl (lv_at hl 3 rfl) ?_
          refine ra_iast hx hb hK hP hD hS 12 rfl 1 rfl (by omega) (Nat.le_of_ble_eq_true rfl) dX4_ask_47 (fun H locs hP hD hS => ?_)
          have hP : va_P (dC, dI) vwCl [ob m0 4 [.int (nI n), .int kn, .int fz, .ref m1, .ref m2, .ref m3, .ref m4, .ref m5, .ref m6, .ref m7, .ref m8, .ref m9, .ref m10, .ref m11, .ref m12, .ref m13], ai m1 cyI 21 (f3 fh uh th), ai m2 cyI 21 (f3 fg ug tg), ai m3 cyI 21 (f3 ff uf tf), ai m4 cyI 21 (f3 fk uk tk), ai m5 cyI 3 (t3 vs us ts), ai m6 cyI 3 (t3 vb ub tb), ai m7 cyI 3 (t3 vd ud td), ai m8 cyI 3 (nF ct), ai m9 cyI 36 (q12 kd), ai m10 cyI 36 (q12 vl), ai m11 cyI 7 fr, ai m12 cyI 3 (upd (upd fp 0 a) 1 b), ai m13 cyI 3 bp] H := hP
          have hD : va_D A [ob m0 4 [.int (nI n), .int kn, .int fz, .ref m1, .ref m2, .ref m3, .ref m4, .ref m5, .ref m6, .ref m7, .ref m8, .ref m9, .ref m10, .ref m11, .ref m12, .ref m13], ai m1 cyI 21 (f3 fh uh th), ai m2 cyI 21 (f3 fg ug tg), ai m3 cyI 21 (f3 ff uf tf), ai m4 cyI 21 (f3 fk uk tk), ai m5 cyI 3 (t3 vs us ts), ai m6 cyI 3 (t3 vb ub tb), ai m7 cyI 3 (t3 vd ud td), ai m8 cyI 3 (nF ct), ai m9 cyI 36 (q12 kd), ai m10 cyI 36 (q12 vl), ai m11 cyI 7 fr, ai m12 cyI 3 (upd (upd fp 0 a) 1 b), ai m13 cyI 3 bp] := hD
          refine lv_aload_n hx hb dX4_ask_48 rfl (lv_at hl 0 rfl) ?_
          refine va_get (D := (dC, dI)) (ci := 4) (v := .ref m12) (C := RX4) (T := TX4) (N := 16) hx hb hts hin_X4 hown hK hP 0 rfl rfl 14 (by decide) hw_1 (fun _ h9 => h9) rfl dX4_ask_49 ?_
          refine lv_iconst (v := 2) hx hb dX4_ask_52 (by decide) ?_
          refine lv_iload hx hb dX4_ask_53 (lv_at hl 4 rfl) ?_
          refine ra_iast hx hb hK hP hD hS 12 rfl 2 rfl (by omega) (Nat.le_of_ble_eq_true rfl) dX4_ask_55 (fun H locs hP hD hS => ?_)
          have hP : va_P (dC, dI) vwCl [ob m0 4 [.int (nI n), .int kn, .int fz, .ref m1, .ref m2, .ref m3, .ref m4, .ref m5, .ref m6, .ref m7, .ref m8, .ref m9, .ref m10, .ref m11, .ref m12, .ref m13], ai m1 cyI 21 (f3 fh uh th), ai m2 cyI 21 (f3 fg ug tg), ai m3 cyI 21 (f3 ff uf tf), ai m4 cyI 21 (f3 fk uk tk), ai m5 cyI 3 (t3 vs us ts), ai m6 cyI 3 (t3 vb ub tb), ai m7 cyI 3 (t3 vd ud td), ai m8 cyI 3 (nF ct), ai m9 cyI 36 (q12 kd), ai m10 cyI 36 (q12 vl), ai m11 cyI 7 fr, ai m12 cyI 3 (upd (upd (upd fp 0 a) 1 b) 2 c3), ai m13 cyI 3 bp] H := hP
          have hD : va_D A [ob m0 4 [.int (nI n), .int kn, .int fz, .ref m1, .ref m2, .ref m3, .ref m4, .ref m5, .ref m6, .ref m7, .ref m8, .ref m9, .ref m10, .ref m11, .ref m12, .ref m13], ai m1 cyI 21 (f3 fh uh th), ai m2 cyI 21 (f3 fg ug tg), ai m3 cyI 21 (f3 ff uf tf), ai m4 cyI 21 (f3 fk uk tk), ai m5 cyI 3 (t3 vs us ts), ai m6 cyI 3 (t3 vb ub tb), ai m7 cyI 3 (t3 vd ud td), ai m8 cyI 3 (nF ct), ai m9 cyI 36 (q12 kd), ai m10 cyI 36 (q12 vl), ai m11 cyI 7 fr, ai m12 cyI 3 (upd (upd (upd fp 0 a) 1 b) 2 c3), ai m13 cyI 3 bp] := hD
          obtain ⟨hP, hD⟩ := ra_cong hP hD 12 (p3 a b c3) rfl (fun j hj => up3 _ _ _ _ j hj)
          have hP : va_P (dC, dI) vwCl [ob m0 4 [.int (nI n), .int kn, .int fz, .ref m1, .ref m2, .ref m3, .ref m4, .ref m5, .ref m6, .ref m7, .ref m8, .ref m9, .ref m10, .ref m11, .ref m12, .ref m13], ai m1 cyI 21 (f3 fh uh th), ai m2 cyI 21 (f3 fg ug tg), ai m3 cyI 21 (f3 ff uf tf), ai m4 cyI 21 (f3 fk uk tk), ai m5 cyI 3 (t3 vs us ts), ai m6 cyI 3 (t3 vb ub tb), ai m7 cyI 3 (t3 vd ud td), ai m8 cyI 3 (nF ct), ai m9 cyI 36 (q12 kd), ai m10 cyI 36 (q12 vl), ai m11 cyI 7 fr, ai m12 cyI 3 (p3 a b c3), ai m13 cyI 3 bp] H := hP
          have hD : va_D A [ob m0 4 [.int (nI n), .int kn, .int fz, .ref m1, .ref m2, .ref m3, .ref m4, .ref m5, .ref m6, .ref m7, .ref m8, .ref m9, .ref m10, .ref m11, .ref m12, .ref m13], ai m1 cyI 21 (f3 fh uh th), ai m2 cyI 21 (f3 fg ug tg), ai m3 cyI 21 (f3 ff uf tf), ai m4 cyI 21 (f3 fk uk tk), ai m5 cyI 3 (t3 vs us ts), ai m6 cyI 3 (t3 vb ub tb), ai m7 cyI 3 (t3 vd ud td), ai m8 cyI 3 (nF ct), ai m9 cyI 36 (q12 kd), ai m10 cyI 36 (q12 vl), ai m11 cyI 7 fr, ai m12 cyI 3 (p3 a b c3), ai m13 cyI 3 bp] := hD
          refine lv_aload_n hx hb dX4_ask_56 rfl (lv_at hl 0 rfl) ?_
          refine lv_iload_n hx hb dX4_ask_57 rfl (lv_at hl 1 rfl) ?_
          refine ra_cV (q := (RX4, TX4, 16)) (ci := 4) (As := [.int (nI w)]) (rest := []) (wc := [ob m0 4 [.int (nI n), .int kn, .int fz, .ref m1, .ref m2, .ref m3, .ref m4, .ref m5, .ref m6, .ref m7, .ref m8, .ref m9, .ref m10, .ref m11, .ref m12, .ref m13], ai m1 cyI 21 (f3 fh uh th), ai m2 cyI 21 (f3 fg ug tg), ai m3 cyI 21 (f3 ff uf tf), ai m4 cyI 21 (f3 fk uk tk), ai m5 cyI 3 (t3 vs us ts), ai m6 cyI 3 (t3 vb ub tb), ai m7 cyI 3 (t3 vd ud td), ai m8 cyI 3 (nF ct), ai m9 cyI 36 (q12 kd), ai m10 cyI 36 (q12 vl), ai m11 cyI 7 fr, ai m12 cyI 3 (p3 a b c3), ai m13 cyI 3 bp]) (wr := []) ⟨hx, hb, hml, hown, hts⟩ (c_X4_tryOut l dC dI cyI cyA m0 m1 m2 m3 m4 m5 m6 m7 m8 m9 m10 m11 m12 m13 n kn fz fh fg ff fk uh ug uf uk th tg tf tk vs vb vd us ub ud ts tb td ct kd vl fr (p3 a b c3) bp w (by omega) (p3_ce c_12 c_20 c_29) (by omega) (by omega) H.size) (cwV 1 hts gX4_ask_X4_tryOut rfl rfl rfl (by decide +kernel) ⟨Nat.le_of_ble_eq_true rfl, Nat.le_of_ble_eq_true rfl⟩) hK hN hP hD hA hS [0, 1, 2, 3, 4, 5, 6, 7, 8, 9, 10, 11, 12, 13] [] rfl rfl (by decide) (by decide) (by decide) rfl rfl rfl hl.1 rfl (Nat.le_of_ble_eq_true rfl) dX4_ask_58 ⟨Nat.le_of_ble_eq_true rfl, Nat.le_of_ble_eq_true rfl⟩ (fun u_1 hw_c1 H locs hP hD hS => ?_)
          have hP : va_P (dC, dI) vwCl [ob m0 4 [.int (nI n), .int kn, .int fz, .ref m1, .ref m2, .ref m3, .ref m4, .ref m5, .ref m6, .ref m7, .ref m8, .ref m9, .ref m10, .ref m11, .ref m12, .ref m13], ai m1 cyI 21 (f3 fh uh ((plW phm psm num n fz ct kd vl fh fg ff fk vs vb (p3 a b c3) w).1)), ai m2 cyI 21 (f3 fg ug ((plW phm psm num n fz ct kd vl fh fg ff fk vs vb (p3 a b c3) w).2.1)), ai m3 cyI 21 (f3 ff uf ((plW phm psm num n fz ct kd vl fh fg ff fk vs vb (p3 a b c3) w).2.2.1)), ai m4 cyI 21 (f3 fk uk ((plW phm psm num n fz ct kd vl fh fg ff fk vs vb (p3 a b c3) w).2.2.2.1)), ai m5 cyI 3 (t3 vs us ((plW phm psm num n fz ct kd vl fh fg ff fk vs vb (p3 a b c3) w).2.2.2.2.1)), ai m6 cyI 3 (t3 vb ub ((plW phm psm num n fz ct kd vl fh fg ff fk vs vb (p3 a b c3) w).2.2.2.2.2.1)), ai m7 cyI 3 (t3 vd ud ((plW phm psm num n fz ct kd vl fh fg ff fk vs vb (p3 a b c3) w).2.2.2.2.2.2)), ai m8 cyI 3 (nF ct), ai m9 cyI 36 (q12 kd), ai m10 cyI 36 (q12 vl), ai m11 cyI 7 fr, ai m12 cyI 3 (p3 a b c3), ai m13 cyI 3 bp] H := hP
          have hD : va_D A [ob m0 4 [.int (nI n), .int kn, .int fz, .ref m1, .ref m2, .ref m3, .ref m4, .ref m5, .ref m6, .ref m7, .ref m8, .ref m9, .ref m10, .ref m11, .ref m12, .ref m13], ai m1 cyI 21 (f3 fh uh ((plW phm psm num n fz ct kd vl fh fg ff fk vs vb (p3 a b c3) w).1)), ai m2 cyI 21 (f3 fg ug ((plW phm psm num n fz ct kd vl fh fg ff fk vs vb (p3 a b c3) w).2.1)), ai m3 cyI 21 (f3 ff uf ((plW phm psm num n fz ct kd vl fh fg ff fk vs vb (p3 a b c3) w).2.2.1)), ai m4 cyI 21 (f3 fk uk ((plW phm psm num n fz ct kd vl fh fg ff fk vs vb (p3 a b c3) w).2.2.2.1)), ai m5 cyI 3 (t3 vs us ((plW phm psm num n fz ct kd vl fh fg ff fk vs vb (p3 a b c3) w).2.2.2.2.1)), ai m6 cyI 3 (t3 vb ub ((plW phm psm num n fz ct kd vl fh fg ff fk vs vb (p3 a b c3) w).2.2.2.2.2.1)), ai m7 cyI 3 (t3 vd ud ((plW phm psm num n fz ct kd vl fh fg ff fk vs vb (p3 a b c3) w).2.2.2.2.2.2)), ai m8 cyI 3 (nF ct), ai m9 cyI 36 (q12 kd), ai m10 cyI 36 (q12 vl), ai m11 cyI 7 fr, ai m12 cyI 3 (p3 a b c3), ai m13 cyI 3 bp] := hD
          refine lv_iconst (v := 1) hx hb dX4_ask_61 (by decide) ?_
          rw [hQ]
          exact ra_iretW ((plW phm psm num n fz ct kd vl fh fg ff fk vs vb (p3 a b c3) w).1, (plW phm psm num n fz ct kd vl fh fg ff fk vs vb (p3 a b c3) w).2.1, (plW phm psm num n fz ct kd vl fh fg ff fk vs vb (p3 a b c3) w).2.2.1, (plW phm psm num n fz ct kd vl fh fg ff fk vs vb (p3 a b c3) w).2.2.2.1, (plW phm psm num n fz ct kd vl fh fg ff fk vs vb (p3 a b c3) w).2.2.2.2.1, (plW phm psm num n fz ct kd vl fh fg ff fk vs vb (p3 a b c3) w).2.2.2.2.2.1, (plW phm psm num n fz ct kd vl fh fg ff fk vs vb (p3 a b c3) w).2.2.2.2.2.2, p3 a b c3) hx hb hr hlocks rfl hK hP hD hS ⟨(bj_t (show tryOk n _ a b c3 from ⟨c_4, c_12, c_20, c_29⟩)).symm, fun _ => by rw [nI_cl (show w ≤ 20 by omega)]⟩ dX4_ask_62
        · ---- on
          have c_29 := bj_0 c_29
          refine lv_iconst (v := 0) hx hb dX4_ask_32 (by decide) ?_
          rw [hQ]
          exact ra_iretW (th, tg, tf, tk, ts, tb, td, fp) hx hb hr hlocks rfl hK hP hD hS ⟨(bj_f (show ¬ tryOk n x a b c3 from fun q => c_29 q.2.2.2)).symm, fun q => absurd q (fun q => c_29 q.2.2.2)⟩ dX4_ask_33

set_option maxHeartbeats 4000000 in
set_option maxRecDepth 100000 in
theorem c_X4_holds (l : Launch) (dC : Nat → ClassId) (dI : Nat → Nat → Nat) (cyI cyA : ClassId) (m0 m1 m2 m3 m4 m5 m6 m7 m8 m9 m10 m11 m12 m13 n : Nat) (kn fz : Int32) (fh fg ff fk uh ug uf uk th tg tf tk : FN) (vs vb vd us ub ud ts tb td : Int32) (ct : Nat → Nat) (kd vl : Nat → FN) (fr fp bp : FN) (hn : n ≤ 7) (hfp : ∀ y, y < 3 → ceN n (fp y)) (hct : ∀ w, w < 3 → ct w ≤ 12) (sz : Nat) : Met l yX4_holds wsX4_holds (rm 4) (kW dC dI cyI cyA [.ref m0] sz [ob m0 4 [.int (nI n), .int kn, .int fz, .ref m1, .ref m2, .ref m3, .ref m4, .ref m5, .ref m6, .ref m7, .ref m8, .ref m9, .ref m10, .ref m11, .ref m12, .ref m13], ai m1 cyI 21 (f3 fh uh th), ai m2 cyI 21 (f3 fg ug tg), ai m3 cyI 21 (f3 ff uf tf), ai m4 cyI 21 (f3 fk uk tk), ai m5 cyI 3 (t3 vs us ts), ai m6 cyI 3 (t3 vb ub tb), ai m7 cyI 3 (t3 vd ud td), ai m8 cyI 3 (nF ct), ai m9 cyI 36 (q12 kd), ai m10 cyI 36 (q12 vl), ai m11 cyI 7 fr, ai m12 cyI 3 fp, ai m13 cyI 3 bp]) (qI dC dI cyI cyA (fun (r : Int32) (u : FN × FN × FN × FN × Int32 × Int32 × Int32) => match u with | (xh, xg, xf, xk, xs, xb, xd) => r = hld ct (crW phm psm num n fz ct kd vl fh fg ff fk vs vb fp) (flW phm psm num n fz ct kd vl fh fg ff fk vs vb fp)) (va_A [ob m0 4 [.int (nI n), .int kn, .int fz, .ref m1, .ref m2, .ref m3, .ref m4, .ref m5, .ref m6, .ref m7, .ref m8, .ref m9, .ref m10, .ref m11, .ref m12, .ref m13], ai m1 cyI 21 (f3 fh uh th), ai m2 cyI 21 (f3 fg ug tg), ai m3 cyI 21 (f3 ff uf tf), ai m4 cyI 21 (f3 fk uk tk), ai m5 cyI 3 (t3 vs us ts), ai m6 cyI 3 (t3 vb ub tb), ai m7 cyI 3 (t3 vd ud td), ai m8 cyI 3 (nF ct), ai m9 cyI 36 (q12 kd), ai m10 cyI 36 (q12 vl), ai m11 cyI 7 fr, ai m12 cyI 3 fp, ai m13 cyI 3 bp] sz) (fun u : FN × FN × FN × FN × Int32 × Int32 × Int32 => match u with | (xh, xg, xf, xk, xs, xb, xd) => [ob m0 4 [.int (nI n), .int kn, .int fz, .ref m1, .ref m2, .ref m3, .ref m4, .ref m5, .ref m6, .ref m7, .ref m8, .ref m9, .ref m10, .ref m11, .ref m12, .ref m13], ai m1 cyI 21 (f3 fh uh xh), ai m2 cyI 21 (f3 fg ug xg), ai m3 cyI 21 (f3 ff uf xf), ai m4 cyI 21 (f3 fk uk xk), ai m5 cyI 3 (t3 vs us xs), ai m6 cyI 3 (t3 vb ub xb), ai m7 cyI 3 (t3 vd ud xd), ai m8 cyI 3 (nF ct), ai m9 cyI 36 (q12 kd), ai m10 cyI 36 (q12 vl), ai m11 cyI 7 fr, ai m12 cyI 3 fp, ai m13 cyI 3 bp])) 0 0 (va_A [ob m0 4 [.int (nI n), .int kn, .int fz, .ref m1, .ref m2, .ref m3, .ref m4, .ref m5, .ref m6, .ref m7, .ref m8, .ref m9, .ref m10, .ref m11, .ref m12, .ref m13], ai m1 cyI 21 (f3 fh uh th), ai m2 cyI 21 (f3 fg ug tg), ai m3 cyI 21 (f3 ff uf tf), ai m4 cyI 21 (f3 fk uk tk), ai m5 cyI 3 (t3 vs us ts), ai m6 cyI 3 (t3 vb ub tb), ai m7 cyI 3 (t3 vd ud td), ai m8 cyI 3 (nF ct), ai m9 cyI 36 (q12 kd), ai m10 cyI 36 (q12 vl), ai m11 cyI 7 fr, ai m12 cyI 3 fp, ai m13 cyI 3 bp] sz) := by
  refine ra_metW (cc := cX4_holds) (maxL := 4) (Qc := fun A => qI dC dI cyI cyA (fun (r : Int32) (u : FN × FN × FN × FN × Int32 × Int32 × Int32) => match u with | (xh, xg, xf, xk, xs, xb, xd) => r = hld ct (crW phm psm num n fz ct kd vl fh fg ff fk vs vb fp) (flW phm psm num n fz ct kd vl fh fg ff fk vs vb fp)) A (fun u : FN × FN × FN × FN × Int32 × Int32 × Int32 => match u with | (xh, xg, xf, xk, xs, xb, xd) => [ob m0 4 [.int (nI n), .int kn, .int fz, .ref m1, .ref m2, .ref m3, .ref m4, .ref m5, .ref m6, .ref m7, .ref m8, .ref m9, .ref m10, .ref m11, .ref m12, .ref m13], ai m1 cyI 21 (f3 fh uh xh), ai m2 cyI 21 (f3 fg ug xg), ai m3 cyI 21 (f3 ff uf xf), ai m4 cyI 21 (f3 fk uk xk), ai m5 cyI 3 (t3 vs us xs), ai m6 cyI 3 (t3 vb ub xb), ai m7 cyI 3 (t3 vd ud xd), ai m8 cyI 3 (nF ct), ai m9 cyI 36 (q12 kd), ai m10 cyI 36 (q12 vl), ai m11 cyI 7 fr, ai m12 cyI 3 fp, ai m13 cyI 3 bp])) (by decide) rfl (Nat.le_of_ble_eq_true rfl) ?_
  intro p e s m below meth c A args Q hQ hx hb hr hlocks hml hts hown hnm hK hN hP hD hA hS ls hl
  have hl : lv_has ls 4 [(0, .ref m0)] := hl
  have hown : s.vm.findClass RX4 = some m.cls := hown
  have hw_1 := hts (.fieldLink RX4 38 "DuneBenchModel" "events" "[I") (by decide +kernel)
  have hin_X4 : ∀ w ∈ u_ws RX4 TX4 16, w ∈ wsX4_holds := by decide +kernel
  have hw_3 := hts (.fieldLink RX4 35 "DuneBenchModel" "flooded" "[I") (by decide +kernel)
  obtain ⟨H, hHe⟩ : ∃ H, H = s.heap := ⟨_, rfl⟩
  obtain ⟨locs, hLe⟩ : ∃ locs : List Loc, locs = [] := ⟨_, rfl⟩
  have hP : va_P (dC, dI) vwCl [ob m0 4 [.int (nI n), .int kn, .int fz, .ref m1, .ref m2, .ref m3, .ref m4, .ref m5, .ref m6, .ref m7, .ref m8, .ref m9, .ref m10, .ref m11, .ref m12, .ref m13], ai m1 cyI 21 (f3 fh uh th), ai m2 cyI 21 (f3 fg ug tg), ai m3 cyI 21 (f3 ff uf tf), ai m4 cyI 21 (f3 fk uk tk), ai m5 cyI 3 (t3 vs us ts), ai m6 cyI 3 (t3 vb ub tb), ai m7 cyI 3 (t3 vd ud td), ai m8 cyI 3 (nF ct), ai m9 cyI 36 (q12 kd), ai m10 cyI 36 (q12 vl), ai m11 cyI 7 fr, ai m12 cyI 3 fp, ai m13 cyI 3 bp] H := by rw [hHe]; exact hP
  have hS : va_S A s.heap H locs := by rw [hHe, hLe]; exact hS
  suffices hgo : W p l e (rm 4) s m args below meth c H locs 0 0 Q (F0 m 0 ls []) by rw [hHe, hLe] at hgo; exact hgo
  have hc0 := hct 0 (by omega)
  have hc1 := hct 1 (by omega)
  have hc2 := hct 2 (by omega)
  refine lv_bipush (v := 99) hx hb dX4_holds_0 (by decide) ?_
  refine lv_istore_n (lv' := [(1, .int 99), (0, .ref m0)]) hx hb dX4_holds_2 rfl hl (by decide) rfl (fun ls hl => ?_)
  refine lv_iconst (v := 0) hx hb dX4_holds_3 (by decide) ?_
  refine lv_istore_n (lv' := [(2, .int 0), (1, .int 99), (0, .ref m0)]) hx hb dX4_holds_4 rfl hl (by decide) rfl (fun ls hl => ?_)
  refine lv_iload_n hx hb dX4_holds_5 rfl (lv_at hl 0 rfl) ?_
  refine lv_iconst (v := 3) hx hb dX4_holds_6 (by decide) ?_
  refine lv_icmp_ge (tgt := 60) hx hb dX4_holds_7 (by decide) (fun c_7 => ?_) (fun c_7 => ?_)
  · ---- to 60
    exact absurd c_7 (by decide)
  · ---- on
    refine lv_aload_n hx hb dX4_holds_10 rfl (lv_at hl 2 rfl) ?_
    refine va_get (D := (dC, dI)) (ci := 4) (v := .ref m8) (C := RX4) (T := TX4) (N := 16) hx hb hts hin_X4 hown hK hP 0 rfl rfl 10 (by decide) hw_1 (fun _ h9 => h9) rfl dX4_holds_11 ?_
    refine lv_iload_n hx hb dX4_holds_14 rfl (lv_at hl 0 rfl) ?_
    refine ra_iald hx hb hK hP 8 rfl 0 rfl (by omega) (Nat.le_of_ble_eq_true rfl) dX4_holds_15 ?_
    refine ra_top (nI (ct 0)) rfl ?_
    refine lv_if_le (tgt := 54) hx hb dX4_holds_16 (by decide) (fun c_16 => ?_) (fun c_16 => ?_)
    · ---- to 54
      have n_16 := (nq_le (ct 0) 0 (by omega) (by omega)).mp c_16
      refine lv_iinc (v := 1) (lv' := [(2, .int 1), (1, .int 99), (0, .ref m0)]) hx hb dX4_holds_54 hl (k := 0) rfl (by decide) (by decide) rfl (fun ls hl => ?_)
      refine lv_goto (tgt := 5) hx hb dX4_holds_57 (by decide) ?_
      refine lv_iload_n hx hb dX4_holds_5 rfl (lv_at hl 0 rfl) ?_
      refine lv_iconst (v := 3) hx hb dX4_holds_6 (by decide) ?_
      refine lv_icmp_ge (tgt := 60) hx hb dX4_holds_7 (by decide) (fun c_7_2 => ?_) (fun c_7_2 => ?_)
      · ---- to 60
        exact absurd c_7_2 (by decide)
      · ---- on
        refine lv_aload_n hx hb dX4_holds_10 rfl (lv_at hl 2 rfl) ?_
        refine va_get (D := (dC, dI)) (ci := 4) (v := .ref m8) (C := RX4) (T := TX4) (N := 16) hx hb hts hin_X4 hown hK hP 0 rfl rfl 10 (by decide) hw_1 (fun _ h9 => h9) rfl dX4_holds_11 ?_
        refine lv_iload_n hx hb dX4_holds_14 rfl (lv_at hl 0 rfl) ?_
        refine ra_iald hx hb hK hP 8 rfl 1 rfl (by omega) (Nat.le_of_ble_eq_true rfl) dX4_holds_15 ?_
        refine ra_top (nI (ct 1)) rfl ?_
        refine lv_if_le (tgt := 54) hx hb dX4_holds_16 (by decide) (fun c_16_2 => ?_) (fun c_16_2 => ?_)
        · ---- to 54
          have n_16_2 := (nq_le (ct 1) 0 (by omega) (by omega)).mp c_16_2
          refine lv_iinc (v := 2) (lv' := [(2, .int 2), (1, .int 99), (0, .ref m0)]) hx hb dX4_holds_54 hl (k := 0) rfl (by decide) (by decide) rfl (fun ls hl => ?_)
          refine lv_goto (tgt := 5) hx hb dX4_holds_57 (by decide) ?_
          refine lv_iload_n hx hb dX4_holds_5 rfl (lv_at hl 0 rfl) ?_
          refine lv_iconst (v := 3) hx hb dX4_holds_6 (by decide) ?_
          refine lv_icmp_ge (tgt := 60) hx hb dX4_holds_7 (by decide) (fun c_7_3 => ?_) (fun c_7_3 => ?_)
          · ---- to 60
            exact absurd c_7_3 (by decide)
          · ---- on
            refine lv_aload_n hx hb dX4_holds_10 rfl (lv_at hl 2 rfl) ?_
            refine va_get (D := (dC, dI)) (ci := 4) (v := .ref m8) (C := RX4) (T := TX4) (N := 16) hx hb hts hin_X4 hown hK hP 0 rfl rfl 10 (by decide) hw_1 (fun _ h9 => h9) rfl dX4_holds_11 ?_
            refine lv_iload_n hx hb dX4_holds_14 rfl (lv_at hl 0 rfl) ?_
            refine ra_iald hx hb hK hP 8 rfl 2 rfl (by omega) (Nat.le_of_ble_eq_true rfl) dX4_holds_15 ?_
            refine ra_top (nI (ct 2)) rfl ?_
            refine lv_if_le (tgt := 54) hx hb dX4_holds_16 (by decide) (fun c_16_3 => ?_) (fun c_16_3 => ?_)
            · ---- to 54
              have n_16_3 := (nq_le (ct 2) 0 (by omega) (by omega)).mp c_16_3
              refine lv_iinc (v := 3) (lv' := [(2, .int 3), (1, .int 99), (0, .ref m0)]) hx hb dX4_holds_54 hl (k := 0) rfl (by decide) (by decide) rfl (fun ls hl => ?_)
              refine lv_goto (tgt := 5) hx hb dX4_holds_57 (by decide) ?_
              refine lv_iload_n hx hb dX4_holds_5 rfl (lv_at hl 0 rfl) ?_
              refine lv_iconst (v := 3) hx hb dX4_holds_6 (by decide) ?_
              refine lv_icmp_ge (tgt := 60) hx hb dX4_holds_7 (by decide) (fun c_7_4 => ?_) (fun c_7_4 => ?_)
              · ---- to 60
                refine lv_iload_n hx hb dX4_holds_60 rfl (lv_at hl 1 rfl) ?_
                rw [hQ]
                exact ra_iretW (th, tg, tf, tk, ts, tb, td) hx hb hr hlocks rfl hK hP hD hS (by unfold hld; rw [(hSt_0 (ct := ct) (cr := crW phm psm num n fz ct kd vl fh fg ff fk vs vb fp) (fl := flW phm psm num n fz ct kd vl fh fg ff fk vs vb fp) (w := 0) (99) n_16), (hSt_0 (ct := ct) (cr := crW phm psm num n fz ct kd vl fh fg ff fk vs vb fp) (fl := flW phm psm num n fz ct kd vl fh fg ff fk vs vb fp) (w := 1) (99) n_16_2), (hSt_0 (ct := ct) (cr := crW phm psm num n fz ct kd vl fh fg ff fk vs vb fp) (fl := flW phm psm num n fz ct kd vl fh fg ff fk vs vb fp) (w := 2) (99) n_16_3)]) dX4_holds_61
              · ---- on
                exact absurd c_7_4 (by decide)
            · ---- on
              have n_16_3 := (nq_le_n (ct 2) 0 (by omega) (by omega)).mp c_16_3
              refine lv_aload_n hx hb dX4_holds_19 rfl (lv_at hl 2 rfl) ?_
              refine lv_iload_n hx hb dX4_holds_20 rfl (lv_at hl 0 rfl) ?_
              refine ra_cV (q := (RX4, TX4, 16)) (ci := 4) (As := [.int 2]) (rest := []) (wc := [ob m0 4 [.int (nI n), .int kn, .int fz, .ref m1, .ref m2, .ref m3, .ref m4, .ref m5, .ref m6, .ref m7, .ref m8, .ref m9, .ref m10, .ref m11, .ref m12, .ref m13], ai m1 cyI 21 (f3 fh uh th), ai m2 cyI 21 (f3 fg ug tg), ai m3 cyI 21 (f3 ff uf tf), ai m4 cyI 21 (f3 fk uk tk), ai m5 cyI 3 (t3 vs us ts), ai m6 cyI 3 (t3 vb ub tb), ai m7 cyI 3 (t3 vd ud td), ai m8 cyI 3 (nF ct), ai m9 cyI 36 (q12 kd), ai m10 cyI 36 (q12 vl), ai m11 cyI 7 fr, ai m12 cyI 3 fp, ai m13 cyI 3 bp]) (wr := []) ⟨hx, hb, hml, hown, hts⟩ (c_X4_tryOut l dC dI cyI cyA m0 m1 m2 m3 m4 m5 m6 m7 m8 m9 m10 m11 m12 m13 n kn fz fh fg ff fk uh ug uf uk th tg tf tk vs vb vd us ub ud ts tb td ct kd vl fr fp bp 2 (by omega) hfp (by omega) (by omega) H.size) (cwV 1 hts gX4_holds_X4_tryOut rfl rfl rfl (by decide +kernel) ⟨Nat.le_of_ble_eq_true rfl, Nat.le_of_ble_eq_true rfl⟩) hK hN hP hD hA hS [0, 1, 2, 3, 4, 5, 6, 7, 8, 9, 10, 11, 12, 13] [] rfl rfl (by decide) (by decide) (by decide) rfl rfl rfl hl.1 rfl (Nat.le_of_ble_eq_true rfl) dX4_holds_21 ⟨Nat.le_of_ble_eq_true rfl, Nat.le_of_ble_eq_true rfl⟩ (fun u_1 hw_c1 H locs hP hD hS => ?_)
              have hP : va_P (dC, dI) vwCl [ob m0 4 [.int (nI n), .int kn, .int fz, .ref m1, .ref m2, .ref m3, .ref m4, .ref m5, .ref m6, .ref m7, .ref m8, .ref m9, .ref m10, .ref m11, .ref m12, .ref m13], ai m1 cyI 21 (f3 fh uh ((plW phm psm num n fz ct kd vl fh fg ff fk vs vb fp 2).1)), ai m2 cyI 21 (f3 fg ug ((plW phm psm num n fz ct kd vl fh fg ff fk vs vb fp 2).2.1)), ai m3 cyI 21 (f3 ff uf ((plW phm psm num n fz ct kd vl fh fg ff fk vs vb fp 2).2.2.1)), ai m4 cyI 21 (f3 fk uk ((plW phm psm num n fz ct kd vl fh fg ff fk vs vb fp 2).2.2.2.1)), ai m5 cyI 3 (t3 vs us ((plW phm psm num n fz ct kd vl fh fg ff fk vs vb fp 2).2.2.2.2.1)), ai m6 cyI 3 (t3 vb ub ((plW phm psm num n fz ct kd vl fh fg ff fk vs vb fp 2).2.2.2.2.2.1)), ai m7 cyI 3 (t3 vd ud ((plW phm psm num n fz ct kd vl fh fg ff fk vs vb fp 2).2.2.2.2.2.2)), ai m8 cyI 3 (nF ct), ai m9 cyI 36 (q12 kd), ai m10 cyI 36 (q12 vl), ai m11 cyI 7 fr, ai m12 cyI 3 fp, ai m13 cyI 3 bp] H := hP
              have hD : va_D A [ob m0 4 [.int (nI n), .int kn, .int fz, .ref m1, .ref m2, .ref m3, .ref m4, .ref m5, .ref m6, .ref m7, .ref m8, .ref m9, .ref m10, .ref m11, .ref m12, .ref m13], ai m1 cyI 21 (f3 fh uh ((plW phm psm num n fz ct kd vl fh fg ff fk vs vb fp 2).1)), ai m2 cyI 21 (f3 fg ug ((plW phm psm num n fz ct kd vl fh fg ff fk vs vb fp 2).2.1)), ai m3 cyI 21 (f3 ff uf ((plW phm psm num n fz ct kd vl fh fg ff fk vs vb fp 2).2.2.1)), ai m4 cyI 21 (f3 fk uk ((plW phm psm num n fz ct kd vl fh fg ff fk vs vb fp 2).2.2.2.1)), ai m5 cyI 3 (t3 vs us ((plW phm psm num n fz ct kd vl fh fg ff fk vs vb fp 2).2.2.2.2.1)), ai m6 cyI 3 (t3 vb ub ((plW phm psm num n fz ct kd vl fh fg ff fk vs vb fp 2).2.2.2.2.2.1)), ai m7 cyI 3 (t3 vd ud ((plW phm psm num n fz ct kd vl fh fg ff fk vs vb fp 2).2.2.2.2.2.2)), ai m8 cyI 3 (nF ct), ai m9 cyI 36 (q12 kd), ai m10 cyI 36 (q12 vl), ai m11 cyI 7 fr, ai m12 cyI 3 fp, ai m13 cyI 3 bp] := hD
              refine lv_aload_n hx hb dX4_holds_24 rfl (lv_at hl 2 rfl) ?_
              refine va_get (D := (dC, dI)) (ci := 4) (v := .ref m7) (C := RX4) (T := TX4) (N := 16) hx hb hts hin_X4 hown hK hP 0 rfl rfl 9 (by decide) hw_3 (fun _ h9 => h9) rfl dX4_holds_25 ?_
              refine lv_iconst (v := 2) hx hb dX4_holds_28 (by decide) ?_
              refine ra_iald hx hb hK hP 7 rfl 2 rfl (by omega) (Nat.le_of_ble_eq_true rfl) dX4_holds_29 ?_
              refine ra_top ((plW phm psm num n fz ct kd vl fh fg ff fk vs vb fp 2).2.2.2.2.2.2) rfl ?_
              have J_42_1 : ∀ v_42_1 : Int32, v_42_1 = (if 0 < flW phm psm num n fz ct kd vl fh fg ff fk vs vb fp 2 then -1 else crW phm psm num n fz ct kd vl fh fg ff fk vs vb fp 2) → W p l e (rm 4) s m args below meth c H locs 0 0 Q (F0 m 42 ls [.int v_42_1]) := by
                intro v_42_1 ev_42_1
                subst ev_42_1
                refine lv_istore_n (lv' := [(3, .int (if 0 < flW phm psm num n fz ct kd vl fh fg ff fk vs vb fp 2 then -1 else crW phm psm num n fz ct kd vl fh fg ff fk vs vb fp 2)), (2, .int 2), (1, .int 99), (0, .ref m0)]) hx hb dX4_holds_42 rfl hl (by decide) rfl (fun ls hl => ?_)
                refine lv_iload_n hx hb dX4_holds_43 rfl (lv_at hl 0 rfl) ?_
                refine lv_iload_n hx hb dX4_holds_44 rfl (lv_at hl 2 rfl) ?_
                have J_53_2 : ∀ v_53_2 : Int32, v_53_2 = (jmin 99 (if 0 < flW phm psm num n fz ct kd vl fh fg ff fk vs vb fp 2 then -1 else crW phm psm num n fz ct kd vl fh fg ff fk vs vb fp 2)) → W p l e (rm 4) s m args below meth c H locs 0 0 Q (F0 m 53 ls [.int v_53_2]) := by
                  intro v_53_2 ev_53_2
                  subst ev_53_2
                  refine lv_istore_n (lv' := [(1, .int (jmin 99 (if 0 < flW phm psm num n fz ct kd vl fh fg ff fk vs vb fp 2 then -1 else crW phm psm num n fz ct kd vl fh fg ff fk vs vb fp 2))), (3, .int (if 0 < flW phm psm num n fz ct kd vl fh fg ff fk vs vb fp 2 then -1 else crW phm psm num n fz ct kd vl fh fg ff fk vs vb fp 2)), (2, .int 2), (0, .ref m0)]) hx hb dX4_holds_53 rfl hl (by decide) rfl (fun ls hl => ?_)
                  refine lv_iinc (v := 3) (lv' := [(2, .int 3), (1, .int (jmin 99 (if 0 < flW phm psm num n fz ct kd vl fh fg ff fk vs vb fp 2 then -1 else crW phm psm num n fz ct kd vl fh fg ff fk vs vb fp 2))), (3, .int (if 0 < flW phm psm num n fz ct kd vl fh fg ff fk vs vb fp 2 then -1 else crW phm psm num n fz ct kd vl fh fg ff fk vs vb fp 2)), (0, .ref m0)]) hx hb dX4_holds_54 hl (k := 2) rfl (by decide) (by decide) rfl (fun ls hl => ?_)
                  refine lv_goto (tgt := 5) hx hb dX4_holds_57 (by decide) ?_
                  refine lv_iload_n hx hb dX4_holds_5 rfl (lv_at hl 0 rfl) ?_
                  refine lv_iconst (v := 3) hx hb dX4_holds_6 (by decide) ?_
                  refine lv_icmp_ge (tgt := 60) hx hb dX4_holds_7 (by decide) (fun c_7_4 => ?_) (fun c_7_4 => ?_)
                  · ---- to 60
                    refine lv_iload_n hx hb dX4_holds_60 rfl (lv_at hl 1 rfl) ?_
                    rw [hQ]
                    exact ra_iretW ((plW phm psm num n fz ct kd vl fh fg ff fk vs vb fp 2).1, (plW phm psm num n fz ct kd vl fh fg ff fk vs vb fp 2).2.1, (plW phm psm num n fz ct kd vl fh fg ff fk vs vb fp 2).2.2.1, (plW phm psm num n fz ct kd vl fh fg ff fk vs vb fp 2).2.2.2.1, (plW phm psm num n fz ct kd vl fh fg ff fk vs vb fp 2).2.2.2.2.1, (plW phm psm num n fz ct kd vl fh fg ff fk vs vb fp 2).2.2.2.2.2.1, (plW phm psm num n fz ct kd vl fh fg ff fk vs vb fp 2).2.2.2.2.2.2) hx hb hr hlocks rfl hK hP hD hS (by unfold hld; rw [(hSt_0 (ct := ct) (cr := crW phm psm num n fz ct kd vl fh fg ff fk vs vb fp) (fl := flW phm psm num n fz ct kd vl fh fg ff fk vs vb fp) (w := 0) (99) n_16), (hSt_0 (ct := ct) (cr := crW phm psm num n fz ct kd vl fh fg ff fk vs vb fp) (fl := flW phm psm num n fz ct kd vl fh fg ff fk vs vb fp) (w := 1) (99) n_16_2), (hSt_1 (ct := ct) (cr := crW phm psm num n fz ct kd vl fh fg ff fk vs vb fp) (fl := flW phm psm num n fz ct kd vl fh fg ff fk vs vb fp) (w := 2) (99) n_16_3)]) dX4_holds_61
                  · ---- on
                    exact absurd c_7_4 (by decide)
                refine lv_icmp_ge (tgt := 52) hx hb dX4_holds_45 (by decide) (fun c_45 => ?_) (fun c_45 => ?_)
                · ---- to 52
                  refine lv_iload_n hx hb dX4_holds_52 rfl (lv_at hl 2 rfl) ?_
                  exact J_53_2 _ (jmin_l c_45)
                · ---- on
                  refine lv_iload_n hx hb dX4_holds_48 rfl (lv_at hl 0 rfl) ?_
                  refine lv_goto (tgt := 53) hx hb dX4_holds_49 (by decide) ?_
                  exact J_53_2 _ (jmin_r c_45)
              refine lv_if_le (tgt := 37) hx hb dX4_holds_30 (by decide) (fun c_30 => ?_) (fun c_30 => ?_)
              · ---- to 37
                refine lv_aload_n hx hb dX4_holds_37 rfl (lv_at hl 2 rfl) ?_
                refine lv_iconst (v := 2) hx hb dX4_holds_38 (by decide) ?_
                refine ra_cR (q := (RX4, TX4, 16)) (ci := 4) (As := [.int 2]) (rest := []) (wc := [ob m0 4 [.int (nI n), .int kn, .int fz, .ref m1, .ref m2, .ref m3, .ref m4, .ref m5, .ref m6, .ref m7, .ref m8, .ref m9, .ref m10, .ref m11, .ref m12, .ref m13], ai m1 cyI 21 (f3 fh uh ((plW phm psm num n fz ct kd vl fh fg ff fk vs vb fp 2).1)), ai m2 cyI 21 (f3 fg ug ((plW phm psm num n fz ct kd vl fh fg ff fk vs vb fp 2).2.1)), ai m3 cyI 21 (f3 ff uf ((plW phm psm num n fz ct kd vl fh fg ff fk vs vb fp 2).2.2.1)), ai m4 cyI 21 (f3 fk uk ((plW phm psm num n fz ct kd vl fh fg ff fk vs vb fp 2).2.2.2.1)), ai m5 cyI 3 (t3 vs us ((plW phm psm num n fz ct kd vl fh fg ff fk vs vb fp 2).2.2.2.2.1)), ai m6 cyI 3 (t3 vb ub ((plW phm psm num n fz ct kd vl fh fg ff fk vs vb fp 2).2.2.2.2.2.1)), ai m7 cyI 3 (t3 vd ud ((plW phm psm num n fz ct kd vl fh fg ff fk vs vb fp 2).2.2.2.2.2.2)), ai m8 cyI 3 (nF ct), ai m9 cyI 36 (q12 kd), ai m10 cyI 36 (q12 vl), ai m11 cyI 7 fr, ai m12 cyI 3 fp, ai m13 cyI 3 bp]) ⟨hx, hb, hml, hown, hts⟩ (c_X4_crestOf2 l dC dI cyI cyA m0 m1 m2 m3 m4 m5 m6 m7 m8 m9 m10 m11 m12 m13 n kn fz fh fg ff fk uh ug uf uk ((plW phm psm num n fz ct kd vl fh fg ff fk vs vb fp 2).1) ((plW phm psm num n fz ct kd vl fh fg ff fk vs vb fp 2).2.1) ((plW phm psm num n fz ct kd vl fh fg ff fk vs vb fp 2).2.2.1) ((plW phm psm num n fz ct kd vl fh fg ff fk vs vb fp 2).2.2.2.1) vs vb vd us ub ud ((plW phm psm num n fz ct kd vl fh fg ff fk vs vb fp 2).2.2.2.2.1) ((plW phm psm num n fz ct kd vl fh fg ff fk vs vb fp 2).2.2.2.2.2.1) ((plW phm psm num n fz ct kd vl fh fg ff fk vs vb fp 2).2.2.2.2.2.2) ct kd vl fr fp bp (by omega)) (cwV 1 hts gX4_holds_X4_crestOf rfl rfl rfl (by decide +kernel) ⟨Nat.le_of_ble_eq_true rfl, Nat.le_of_ble_eq_true rfl⟩) hK hN hP [0, 1, 2, 3, 4, 5, 6, 7, 8, 9, 10, 11, 12, 13] rfl rfl rfl rfl hl.1 rfl (Nat.le_of_ble_eq_true rfl) dX4_holds_39 ⟨Nat.le_of_ble_eq_true rfl, Nat.le_of_ble_eq_true rfl⟩ ?_
                exact J_42_1 _ (if_neg (show ¬ 0 < flW phm psm num n fz ct kd vl fh fg ff fk vs vb fp 2 from Int32.not_lt.mpr c_30)).symm
              · ---- on
                refine lv_iconst (v := (-1)) hx hb dX4_holds_33 (by decide) ?_
                refine lv_goto (tgt := 42) hx hb dX4_holds_34 (by decide) ?_
                exact J_42_1 _ (if_pos (show 0 < flW phm psm num n fz ct kd vl fh fg ff fk vs vb fp 2 from Int32.not_le.mp c_30)).symm
        · ---- on
          have n_16_2 := (nq_le_n (ct 1) 0 (by omega) (by omega)).mp c_16_2
          refine lv_aload_n hx hb dX4_holds_19 rfl (lv_at hl 2 rfl) ?_
          refine lv_iload_n hx hb dX4_holds_20 rfl (lv_at hl 0 rfl) ?_
          refine ra_cV (q := (RX4, TX4, 16)) (ci := 4) (As := [.int 1]) (rest := []) (wc := [ob m0 4 [.int (nI n), .int kn, .int fz, .ref m1, .ref m2, .ref m3, .ref m4, .ref m5, .ref m6, .ref m7, .ref m8, .ref m9, .ref m10, .ref m11, .ref m12, .ref m13], ai m1 cyI 21 (f3 fh uh th), ai m2 cyI 21 (f3 fg ug tg), ai m3 cyI 21 (f3 ff uf tf), ai m4 cyI 21 (f3 fk uk tk), ai m5 cyI 3 (t3 vs us ts), ai m6 cyI 3 (t3 vb ub tb), ai m7 cyI 3 (t3 vd ud td), ai m8 cyI 3 (nF ct), ai m9 cyI 36 (q12 kd), ai m10 cyI 36 (q12 vl), ai m11 cyI 7 fr, ai m12 cyI 3 fp, ai m13 cyI 3 bp]) (wr := []) ⟨hx, hb, hml, hown, hts⟩ (c_X4_tryOut l dC dI cyI cyA m0 m1 m2 m3 m4 m5 m6 m7 m8 m9 m10 m11 m12 m13 n kn fz fh fg ff fk uh ug uf uk th tg tf tk vs vb vd us ub ud ts tb td ct kd vl fr fp bp 1 (by omega) hfp (by omega) (by omega) H.size) (cwV 1 hts gX4_holds_X4_tryOut rfl rfl rfl (by decide +kernel) ⟨Nat.le_of_ble_eq_true rfl, Nat.le_of_ble_eq_true rfl⟩) hK hN hP hD hA hS [0, 1, 2, 3, 4, 5, 6, 7, 8, 9, 10, 11, 12, 13] [] rfl rfl (by decide) (by decide) (by decide) rfl rfl rfl hl.1 rfl (Nat.le_of_ble_eq_true rfl) dX4_holds_21 ⟨Nat.le_of_ble_eq_true rfl, Nat.le_of_ble_eq_true rfl⟩ (fun u_2 hw_c2 H locs hP hD hS => ?_)
          have hP : va_P (dC, dI) vwCl [ob m0 4 [.int (nI n), .int kn, .int fz, .ref m1, .ref m2, .ref m3, .ref m4, .ref m5, .ref m6, .ref m7, .ref m8, .ref m9, .ref m10, .ref m11, .ref m12, .ref m13], ai m1 cyI 21 (f3 fh uh ((plW phm psm num n fz ct kd vl fh fg ff fk vs vb fp 1).1)), ai m2 cyI 21 (f3 fg ug ((plW phm psm num n fz ct kd vl fh fg ff fk vs vb fp 1).2.1)), ai m3 cyI 21 (f3 ff uf ((plW phm psm num n fz ct kd vl fh fg ff fk vs vb fp 1).2.2.1)), ai m4 cyI 21 (f3 fk uk ((plW phm psm num n fz ct kd vl fh fg ff fk vs vb fp 1).2.2.2.1)), ai m5 cyI 3 (t3 vs us ((plW phm psm num n fz ct kd vl fh fg ff fk vs vb fp 1).2.2.2.2.1)), ai m6 cyI 3 (t3 vb ub ((plW phm psm num n fz ct kd vl fh fg ff fk vs vb fp 1).2.2.2.2.2.1)), ai m7 cyI 3 (t3 vd ud ((plW phm psm num n fz ct kd vl fh fg ff fk vs vb fp 1).2.2.2.2.2.2)), ai m8 cyI 3 (nF ct), ai m9 cyI 36 (q12 kd), ai m10 cyI 36 (q12 vl), ai m11 cyI 7 fr, ai m12 cyI 3 fp, ai m13 cyI 3 bp] H := hP
          have hD : va_D A [ob m0 4 [.int (nI n), .int kn, .int fz, .ref m1, .ref m2, .ref m3, .ref m4, .ref m5, .ref m6, .ref m7, .ref m8, .ref m9, .ref m10, .ref m11, .ref m12, .ref m13], ai m1 cyI 21 (f3 fh uh ((plW phm psm num n fz ct kd vl fh fg ff fk vs vb fp 1).1)), ai m2 cyI 21 (f3 fg ug ((plW phm psm num n fz ct kd vl fh fg ff fk vs vb fp 1).2.1)), ai m3 cyI 21 (f3 ff uf ((plW phm psm num n fz ct kd vl fh fg ff fk vs vb fp 1).2.2.1)), ai m4 cyI 21 (f3 fk uk ((plW phm psm num n fz ct kd vl fh fg ff fk vs vb fp 1).2.2.2.1)), ai m5 cyI 3 (t3 vs us ((plW phm psm num n fz ct kd vl fh fg ff fk vs vb fp 1).2.2.2.2.1)), ai m6 cyI 3 (t3 vb ub ((plW phm psm num n fz ct kd vl fh fg ff fk vs vb fp 1).2.2.2.2.2.1)), ai m7 cyI 3 (t3 vd ud ((plW phm psm num n fz ct kd vl fh fg ff fk vs vb fp 1).2.2.2.2.2.2)), ai m8 cyI 3 (nF ct), ai m9 cyI 36 (q12 kd), ai m10 cyI 36 (q12 vl), ai m11 cyI 7 fr, ai m12 cyI 3 fp, ai m13 cyI 3 bp] := hD
          refine lv_aload_n hx hb dX4_holds_24 rfl (lv_at hl 2 rfl) ?_
          refine va_get (D := (dC, dI)) (ci := 4) (v := .ref m7) (C := RX4) (T := TX4) (N := 16) hx hb hts hin_X4 hown hK hP 0 rfl rfl 9 (by decide) hw_3 (fun _ h9 => h9) rfl dX4_holds_25 ?_
          refine lv_iconst (v := 2) hx hb dX4_holds_28 (by decide) ?_
          refine ra_iald hx hb hK hP 7 rfl 2 rfl (by omega) (Nat.le_of_ble_eq_true rfl) dX4_holds_29 ?_
          refine ra_top ((plW phm psm num n fz ct kd vl fh fg ff fk vs vb fp 1).2.2.2.2.2.2) rfl ?_
          have J_42_3 : ∀ v_42_3 : Int32, v_42_3 = (if 0 < flW phm psm num n fz ct kd vl fh fg ff fk vs vb fp 1 then -1 else crW phm psm num n fz ct kd vl fh fg ff fk vs vb fp 1) → W p l e (rm 4) s m args below meth c H locs 0 0 Q (F0 m 42 ls [.int v_42_3]) := by
            intro v_42_3 ev_42_3
            subst ev_42_3
            refine lv_istore_n (lv' := [(3, .int (if 0 < flW phm psm num n fz ct kd vl fh fg ff fk vs vb fp 1 then -1 else crW phm psm num n fz ct kd vl fh fg ff fk vs vb fp 1)), (2, .int 1), (1, .int 99), (0, .ref m0)]) hx hb dX4_holds_42 rfl hl (by decide) rfl (fun ls hl => ?_)
            refine lv_iload_n hx hb dX4_holds_43 rfl (lv_at hl 0 rfl) ?_
            refine lv_iload_n hx hb dX4_holds_44 rfl (lv_at hl 2 rfl) ?_
            have J_53_4 : ∀ v_53_4 : Int32, v_53_4 = (jmin 99 (if 0 < flW phm psm num n fz ct kd vl fh fg ff fk vs vb fp 1 then -1 else crW phm psm num n fz ct kd vl fh fg ff fk vs vb fp 1)) → W p l e (rm 4) s m args below meth c H locs 0 0 Q (F0 m 53 ls [.int v_53_4]) := by
              intro v_53_4 ev_53_4
              subst ev_53_4
              refine lv_istore_n (lv' := [(1, .int (jmin 99 (if 0 < flW phm psm num n fz ct kd vl fh fg ff fk vs vb fp 1 then -1 else crW phm psm num n fz ct kd vl fh fg ff fk vs vb fp 1))), (3, .int (if 0 < flW phm psm num n fz ct kd vl fh fg ff fk vs vb fp 1 then -1 else crW phm psm num n fz ct kd vl fh fg ff fk vs vb fp 1)), (2, .int 1), (0, .ref m0)]) hx hb dX4_holds_53 rfl hl (by decide) rfl (fun ls hl => ?_)
              refine lv_iinc (v := 2) (lv' := [(2, .int 2), (1, .int (jmin 99 (if 0 < flW phm psm num n fz ct kd vl fh fg ff fk vs vb fp 1 then -1 else crW phm psm num n fz ct kd vl fh fg ff fk vs vb fp 1))), (3, .int (if 0 < flW phm psm num n fz ct kd vl fh fg ff fk vs vb fp 1 then -1 else crW phm psm num n fz ct kd vl fh fg ff fk vs vb fp 1)), (0, .ref m0)]) hx hb dX4_holds_54 hl (k := 2) rfl (by decide) (by decide) rfl (fun ls hl => ?_)
              refine lv_goto (tgt := 5) hx hb dX4_holds_57 (by decide) ?_
              refine lv_iload_n hx hb dX4_holds_5 rfl (lv_at hl 0 rfl) ?_
              refine lv_iconst (v := 3) hx hb dX4_holds_6 (by decide) ?_
              refine lv_icmp_ge (tgt := 60) hx hb dX4_holds_7 (by decide) (fun c_7_3 => ?_) (fun c_7_3 => ?_)
              · ---- to 60
                exact absurd c_7_3 (by decide)
              · ---- on
                refine lv_aload_n hx hb dX4_holds_10 rfl (lv_at hl 3 rfl) ?_
                refine va_get (D := (dC, dI)) (ci := 4) (v := .ref m8) (C := RX4) (T := TX4) (N := 16) hx hb hts hin_X4 hown hK hP 0 rfl rfl 10 (by decide) hw_1 (fun _ h9 => h9) rfl dX4_holds_11 ?_
                refine lv_iload_n hx hb dX4_holds_14 rfl (lv_at hl 0 rfl) ?_
                refine ra_iald hx hb hK hP 8 rfl 2 rfl (by omega) (Nat.le_of_ble_eq_true rfl) dX4_holds_15 ?_
                refine ra_top (nI (ct 2)) rfl ?_
                refine lv_if_le (tgt := 54) hx hb dX4_holds_16 (by decide) (fun c_16_3 => ?_) (fun c_16_3 => ?_)
                · ---- to 54
                  have n_16_3 := (nq_le (ct 2) 0 (by omega) (by omega)).mp c_16_3
                  refine lv_iinc (v := 3) (lv' := [(2, .int 3), (1, .int (jmin 99 (if 0 < flW phm psm num n fz ct kd vl fh fg ff fk vs vb fp 1 then -1 else crW phm psm num n fz ct kd vl fh fg ff fk vs vb fp 1))), (3, .int (if 0 < flW phm psm num n fz ct kd vl fh fg ff fk vs vb fp 1 then -1 else crW phm psm num n fz ct kd vl fh fg ff fk vs vb fp 1)), (0, .ref m0)]) hx hb dX4_holds_54 hl (k := 0) rfl (by decide) (by decide) rfl (fun ls hl => ?_)
                  refine lv_goto (tgt := 5) hx hb dX4_holds_57 (by decide) ?_
                  refine lv_iload_n hx hb dX4_holds_5 rfl (lv_at hl 0 rfl) ?_
                  refine lv_iconst (v := 3) hx hb dX4_holds_6 (by decide) ?_
                  refine lv_icmp_ge (tgt := 60) hx hb dX4_holds_7 (by decide) (fun c_7_4 => ?_) (fun c_7_4 => ?_)
                  · ---- to 60
                    refine lv_iload_n hx hb dX4_holds_60 rfl (lv_at hl 1 rfl) ?_
                    rw [hQ]
                    exact ra_iretW ((plW phm psm num n fz ct kd vl fh fg ff fk vs vb fp 1).1, (plW phm psm num n fz ct kd vl fh fg ff fk vs vb fp 1).2.1, (plW phm psm num n fz ct kd vl fh fg ff fk vs vb fp 1).2.2.1, (plW phm psm num n fz ct kd vl fh fg ff fk vs vb fp 1).2.2.2.1, (plW phm psm num n fz ct kd vl fh fg ff fk vs vb fp 1).2.2.2.2.1, (plW phm psm num n fz ct kd vl fh fg ff fk vs vb fp 1).2.2.2.2.2.1, (plW phm psm num n fz ct kd vl fh fg ff fk vs vb fp 1).2.2.2.2.2.2) hx hb hr hlocks rfl hK hP hD hS (by unfold hld; rw [(hSt_0 (ct := ct) (cr := crW phm psm num n fz ct kd vl fh fg ff fk vs vb fp) (fl := flW phm psm num n fz ct kd vl fh fg ff fk vs vb fp) (w := 0) (99) n_16), (hSt_1 (ct := ct) (cr := crW phm psm num n fz ct kd vl fh fg ff fk vs vb fp) (fl := flW phm psm num n fz ct kd vl fh fg ff fk vs vb fp) (w := 1) (99) n_16_2), (hSt_0 (ct := ct) (cr := crW phm psm num n fz ct kd vl fh fg ff fk vs vb fp) (fl := flW phm psm num n fz ct kd vl fh fg ff fk vs vb fp) (w := 2) (jmin 99 (if 0 < flW phm psm num n fz ct kd vl fh fg ff fk vs vb fp 1 then -1 else crW phm psm num n fz ct kd vl fh fg ff fk vs vb fp 1)) n_16_3)]) dX4_holds_61
                  · ---- on
                    exact absurd c_7_4 (by decide)
                · ---- on
                  have n_16_3 := (nq_le_n (ct 2) 0 (by omega) (by omega)).mp c_16_3
                  refine lv_aload_n hx hb dX4_holds_19 rfl (lv_at hl 3 rfl) ?_
                  refine lv_iload_n hx hb dX4_holds_20 rfl (lv_at hl 0 rfl) ?_
                  refine ra_cV (q := (RX4, TX4, 16)) (ci := 4) (As := [.int 2]) (rest := []) (wc := [ob m0 4 [.int (nI n), .int kn, .int fz, .ref m1, .ref m2, .ref m3, .ref m4, .ref m5, .ref m6, .ref m7, .ref m8, .ref m9, .ref m10, .ref m11, .ref m12, .ref m13], ai m1 cyI 21 (f3 fh uh ((plW phm psm num n fz ct kd vl fh fg ff fk vs vb fp 1).1)), ai m2 cyI 21 (f3 fg ug ((plW phm psm num n fz ct kd vl fh fg ff fk vs vb fp 1).2.1)), ai m3 cyI 21 (f3 ff uf ((plW phm psm num n fz ct kd vl fh fg ff fk vs vb fp 1).2.2.1)), ai m4 cyI 21 (f3 fk uk ((plW phm psm num n fz ct kd vl fh fg ff fk vs vb fp 1).2.2.2.1)), ai m5 cyI 3 (t3 vs us ((plW phm psm num n fz ct kd vl fh fg ff fk vs vb fp 1).2.2.2.2.1)), ai m6 cyI 3 (t3 vb ub ((plW phm psm num n fz ct kd vl fh fg ff fk vs vb fp 1).2.2.2.2.2.1)), ai m7 cyI 3 (t3 vd ud ((plW phm psm num n fz ct kd vl fh fg ff fk vs vb fp 1).2.2.2.2.2.2)), ai m8 cyI 3 (nF ct), ai m9 cyI 36 (q12 kd), ai m10 cyI 36 (q12 vl), ai m11 cyI 7 fr, ai m12 cyI 3 fp, ai m13 cyI 3 bp]) (wr := []) ⟨hx, hb, hml, hown, hts⟩ (c_X4_tryOut l dC dI cyI cyA m0 m1 m2 m3 m4 m5 m6 m7 m8 m9 m10 m11 m12 m13 n kn fz fh fg ff fk uh ug uf uk ((plW phm psm num n fz ct kd vl fh fg ff fk vs vb fp 1).1) ((plW phm psm num n fz ct kd vl fh fg ff fk vs vb fp 1).2.1) ((plW phm psm num n fz ct kd vl fh fg ff fk vs vb fp 1).2.2.1) ((plW phm psm num n fz ct kd vl fh fg ff fk vs vb fp 1).2.2.2.1) vs vb vd us ub ud ((plW phm psm num n fz ct kd vl fh fg ff fk vs vb fp 1).2.2.2.2.1) ((plW phm psm num n fz ct kd vl fh fg ff fk vs vb fp 1).2.2.2.2.2.1) ((plW phm psm num n fz ct kd vl fh fg ff fk vs vb fp 1).2.2.2.2.2.2) ct kd vl fr fp bp 2 (by omega) hfp (by omega) (by omega) H.size) (cwV 1 hts gX4_holds_X4_tryOut rfl rfl rfl (by decide +kernel) ⟨Nat.le_of_ble_eq_true rfl, Nat.le_of_ble_eq_true rfl⟩) hK hN hP hD hA hS [0, 1, 2, 3, 4, 5, 6, 7, 8, 9, 10, 11, 12, 13] [] rfl rfl (by decide) (by decide) (by decide) rfl rfl rfl hl.1 rfl (Nat.le_of_ble_eq_true rfl) dX4_holds_21 ⟨Nat.le_of_ble_eq_true rfl, Nat.le_of_ble_eq_true rfl⟩ (fun u_3 hw_c3 H locs hP hD hS => ?_)
                  have hP : va_P (dC, dI) vwCl [ob m0 4 [.int (nI n), .int kn, .int fz, .ref m1, .ref m2, .ref m3, .ref m4, .ref m5, .ref m6, .ref m7, .ref m8, .ref m9, .ref m10, .ref m11, .ref m12, .ref m13], ai m1 cyI 21 (f3 fh uh ((plW phm psm num n fz ct kd vl fh fg ff fk vs vb fp 2).1)), ai m2 cyI 21 (f3 fg ug ((plW phm psm num n fz ct kd vl fh fg ff fk vs vb fp 2).2.1)), ai m3 cyI 21 (f3 ff uf ((plW phm psm num n fz ct kd vl fh fg ff fk vs vb fp 2).2.2.1)), ai m4 cyI 21 (f3 fk uk ((plW phm psm num n fz ct kd vl fh fg ff fk vs vb fp 2).2.2.2.1)), ai m5 cyI 3 (t3 vs us ((plW phm psm num n fz ct kd vl fh fg ff fk vs vb fp 2).2.2.2.2.1)), ai m6 cyI 3 (t3 vb ub ((plW phm psm num n fz ct kd vl fh fg ff fk vs vb fp 2).2.2.2.2.2.1)), ai m7 cyI 3 (t3 vd ud ((plW phm psm num n fz ct kd vl fh fg ff fk vs vb fp 2).2.2.2.2.2.2)), ai m8 cyI 3 (nF ct), ai m9 cyI 36 (q12 kd), ai m10 cyI 36 (q12 vl), ai m11 cyI 7 fr, ai m12 cyI 3 fp, ai m13 cyI 3 bp] H := hP
                  have hD : va_D A [ob m0 4 [.int (nI n), .int kn, .int fz, .ref m1, .ref m2, .ref m3, .ref m4, .ref m5, .ref m6, .ref m7, .ref m8, .ref m9, .ref m10, .ref m11, .ref m12, .ref m13], ai m1 cyI 21 (f3 fh uh ((plW phm psm num n fz ct kd vl fh fg ff fk vs vb fp 2).1)), ai m2 cyI 21 (f3 fg ug ((plW phm psm num n fz ct kd vl fh fg ff fk vs vb fp 2).2.1)), ai m3 cyI 21 (f3 ff uf ((plW phm psm num n fz ct kd vl fh fg ff fk vs vb fp 2).2.2.1)), ai m4 cyI 21 (f3 fk uk ((plW phm psm num n fz ct kd vl fh fg ff fk vs vb fp 2).2.2.2.1)), ai m5 cyI 3 (t3 vs us ((plW phm psm num n fz ct kd vl fh fg ff fk vs vb fp 2).2.2.2.2.1)), ai m6 cyI 3 (t3 vb ub ((plW phm psm num n fz ct kd vl fh fg ff fk vs vb fp 2).2.2.2.2.2.1)), ai m7 cyI 3 (t3 vd ud ((plW phm psm num n fz ct kd vl fh fg ff fk vs vb fp 2).2.2.2.2.2.2)), ai m8 cyI 3 (nF ct), ai m9 cyI 36 (q12 kd), ai m10 cyI 36 (q12 vl), ai m11 cyI 7 fr, ai m12 cyI 3 fp, ai m13 cyI 3 bp] := hD
                  refine lv_aload_n hx hb dX4_holds_24 rfl (lv_at hl 3 rfl) ?_
                  refine va_get (D := (dC, dI)) (ci := 4) (v := .ref m7) (C := RX4) (T := TX4) (N := 16) hx hb hts hin_X4 hown hK hP 0 rfl rfl 9 (by decide) hw_3 (fun _ h9 => h9) rfl dX4_holds_25 ?_
                  refine lv_iconst (v := 2) hx hb dX4_holds_28 (by decide) ?_
                  refine ra_iald hx hb hK hP 7 rfl 2 rfl (by omega) (Nat.le_of_ble_eq_true rfl) dX4_holds_29 ?_
                  refine ra_top ((plW phm psm num n fz ct kd vl fh fg ff fk vs vb fp 2).2.2.2.2.2.2) rfl ?_
                  have J_42_5 : ∀ v_42_5 : Int32, v_42_5 = (if 0 < flW phm psm num n fz ct kd vl fh fg ff fk vs vb fp 2 then -1 else crW phm psm num n fz ct kd vl fh fg ff fk vs vb fp 2) → W p l e (rm 4) s m args below meth c H locs 0 0 Q (F0 m 42 ls [.int v_42_5]) := by
                    intro v_42_5 ev_42_5
                    subst ev_42_5
                    refine lv_istore_n (lv' := [(3, .int (if 0 < flW phm psm num n fz ct kd vl fh fg ff fk vs vb fp 2 then -1 else crW phm psm num n fz ct kd vl fh fg ff fk vs vb fp 2)), (2, .int 2), (1, .int (jmin 99 (if 0 < flW phm psm num n fz ct kd vl fh fg ff fk vs vb fp 1 then -1 else crW phm psm num n fz ct kd vl fh fg ff fk vs vb fp 1))), (0, .ref m0)]) hx hb dX4_holds_42 rfl hl (by decide) rfl (fun ls hl => ?_)
                    refine lv_iload_n hx hb dX4_holds_43 rfl (lv_at hl 0 rfl) ?_
                    refine lv_iload_n hx hb dX4_holds_44 rfl (lv_at hl 2 rfl) ?_
                    have J_53_6 : ∀ v_53_6 : Int32, v_53_6 = (jmin (jmin 99 (if 0 < flW phm psm num n fz ct kd vl fh fg ff fk vs vb fp 1 then -1 else crW phm psm num n fz ct kd vl fh fg ff fk vs vb fp 1)) (if 0 < flW phm psm num n fz ct kd vl fh fg ff fk vs vb fp 2 then -1 else crW phm psm num n fz ct kd vl fh fg ff fk vs vb fp 2)) → W p l e (rm 4) s m args below meth c H locs 0 0 Q (F0 m 53 ls [.int v_53_6]) := by
                      intro v_53_6 ev_53_6
                      subst ev_53_6
                      refine lv_istore_n (lv' := [(1, .int (jmin (jmin 99 (if 0 < flW phm psm num n fz ct kd vl fh fg ff fk vs vb fp 1 then -1 else crW phm psm num n fz ct kd vl fh fg ff fk vs vb fp 1)) (if 0 < flW phm psm num n fz ct kd vl fh fg ff fk vs vb fp 2 then -1 else crW phm psm num n fz ct kd vl fh fg ff fk vs vb fp 2))), (3, .int (if 0 < flW phm psm num n fz ct kd vl fh fg ff fk vs vb fp 2 then -1 else crW phm psm num n fz ct kd vl fh fg ff fk vs vb fp 2)), (2, .int 2), (0, .ref m0)]) hx hb dX4_holds_53 rfl hl (by decide) rfl (fun ls hl => ?_)
                      refine lv_iinc (v := 3) (lv' := [(2, .int 3), (1, .int (jmin (jmin 99 (if 0 < flW phm psm num n fz ct kd vl fh fg ff fk vs vb fp 1 then -1 else crW phm psm num n fz ct kd vl fh fg ff fk vs vb fp 1)) (if 0 < flW phm psm num n fz ct kd vl fh fg ff fk vs vb fp 2 then -1 else crW phm psm num n fz ct kd vl fh fg ff fk vs vb fp 2))), (3, .int (if 0 < flW phm psm num n fz ct kd vl fh fg ff fk vs vb fp 2 then -1 else crW phm psm num n fz ct kd vl fh fg ff fk vs vb fp 2)), (0, .ref m0)]) hx hb dX4_holds_54 hl (k := 2) rfl (by decide) (by decide) rfl (fun ls hl => ?_)
                      refine lv_goto (tgt := 5) hx hb dX4_holds_57 (by decide) ?_
                      refine lv_iload_n hx hb dX4_holds_5 rfl (lv_at hl 0 rfl) ?_
                      refine lv_iconst (v := 3) hx hb dX4_holds_6 (by decide) ?_
                      refine lv_icmp_ge (tgt := 60) hx hb dX4_holds_7 (by decide) (fun c_7_4 => ?_) (fun c_7_4 => ?_)
                      · ---- to 60
                        refine lv_iload_n hx hb dX4_holds_60 rfl (lv_at hl 1 rfl) ?_
                        rw [hQ]
                        exact ra_iretW ((plW phm psm num n fz ct kd vl fh fg ff fk vs vb fp 2).1, (plW phm psm num n fz ct kd vl fh fg ff fk vs vb fp 2).2.1, (plW phm psm num n fz ct kd vl fh fg ff fk vs vb fp 2).2.2.1, (plW phm psm num n fz ct kd vl fh fg ff fk vs vb fp 2).2.2.2.1, (plW phm psm num n fz ct kd vl fh fg ff fk vs vb fp 2).2.2.2.2.1, (plW phm psm num n fz ct kd vl fh fg ff fk vs vb fp 2).2.2.2.2.2.1, (plW phm psm num n fz ct kd vl fh fg ff fk vs vb fp 2).2.2.2.2.2.2) hx hb hr hlocks rfl hK hP hD hS (by unfold hld; rw [(hSt_0 (ct := ct) (cr := crW phm psm num n fz ct kd vl fh fg ff fk vs vb fp) (fl := flW phm psm num n fz ct kd vl fh fg ff fk vs vb fp) (w := 0) (99) n_16), (hSt_1 (ct := ct) (cr := crW phm psm num n fz ct kd vl fh fg ff fk vs vb fp) (fl := flW phm psm num n fz ct kd vl fh fg ff fk vs vb fp) (w := 1) (99) n_16_2), (hSt_1 (ct := ct) (cr := crW phm psm num n fz ct kd vl fh fg ff fk vs vb fp) (fl := flW phm psm num n fz ct kd vl fh fg ff fk vs vb fp) (w := 2) (jmin 99 (if 0 < flW phm psm num n fz ct kd vl fh fg ff fk vs vb fp 1 then -1 else crW phm psm num n fz ct kd vl fh fg ff fk vs vb fp 1)) n_16_3)]) dX4_holds_61
                      · ---- on
                        exact absurd c_7_4 (by decide)
                    refine lv_icmp_ge (tgt := 52) hx hb dX4_holds_45 (by decide) (fun c_45 => ?_) (fun c_45 => ?_)
                    · ---- to 52
                      refine lv_iload_n hx hb dX4_holds_52 rfl (lv_at hl 2 rfl) ?_
                      exact J_53_6 _ (jmin_l c_45)
                    · ---- on
                      refine lv_iload_n hx hb dX4_holds_48 rfl (lv_at hl 0 rfl) ?_
                      refine lv_goto (tgt := 53) hx hb dX4_holds_49 (by decide) ?_
                      exact J_53_6 _ (jmin_r c_45)
                  refine lv_if_le (tgt := 37) hx hb dX4_holds_30 (by decide) (fun c_30 => ?_) (fun c_30 => ?_)
                  · ---- to 37
                    refine lv_aload_n hx hb dX4_holds_37 rfl (lv_at hl 3 rfl) ?_
                    refine lv_iconst (v := 2) hx hb dX4_holds_38 (by decide) ?_
                    refine ra_cR (q := (RX4, TX4, 16)) (ci := 4) (As := [.int 2]) (rest := []) (wc := [ob m0 4 [.int (nI n), .int kn, .int fz, .ref m1, .ref m2, .ref m3, .ref m4, .ref m5, .ref m6, .ref m7, .ref m8, .ref m9, .ref m10, .ref m11, .ref m12, .ref m13], ai m1 cyI 21 (f3 fh uh ((plW phm psm num n fz ct kd vl fh fg ff fk vs vb fp 2).1)), ai m2 cyI 21 (f3 fg ug ((plW phm psm num n fz ct kd vl fh fg ff fk vs vb fp 2).2.1)), ai m3 cyI 21 (f3 ff uf ((plW phm psm num n fz ct kd vl fh fg ff fk vs vb fp 2).2.2.1)), ai m4 cyI 21 (f3 fk uk ((plW phm psm num n fz ct kd vl fh fg ff fk vs vb fp 2).2.2.2.1)), ai m5 cyI 3 (t3 vs us ((plW phm psm num n fz ct kd vl fh fg ff fk vs vb fp 2).2.2.2.2.1)), ai m6 cyI 3 (t3 vb ub ((plW phm psm num n fz ct kd vl fh fg ff fk vs vb fp 2).2.2.2.2.2.1)), ai m7 cyI 3 (t3 vd ud ((plW phm psm num n fz ct kd vl fh fg ff fk vs vb fp 2).2.2.2.2.2.2)), ai m8 cyI 3 (nF ct), ai m9 cyI 36 (q12 kd), ai m10 cyI 36 (q12 vl), ai m11 cyI 7 fr, ai m12 cyI 3 fp, ai m13 cyI 3 bp]) ⟨hx, hb, hml, hown, hts⟩ (c_X4_crestOf2 l dC dI cyI cyA m0 m1 m2 m3 m4 m5 m6 m7 m8 m9 m10 m11 m12 m13 n kn fz fh fg ff fk uh ug uf uk ((plW phm psm num n fz ct kd vl fh fg ff fk vs vb fp 2).1) ((plW phm psm num n fz ct kd vl fh fg ff fk vs vb fp 2).2.1) ((plW phm psm num n fz ct kd vl fh fg ff fk vs vb fp 2).2.2.1) ((plW phm psm num n fz ct kd vl fh fg ff fk vs vb fp 2).2.2.2.1) vs vb vd us ub ud ((plW phm psm num n fz ct kd vl fh fg ff fk vs vb fp 2).2.2.2.2.1) ((plW phm psm num n fz ct kd vl fh fg ff fk vs vb fp 2).2.2.2.2.2.1) ((plW phm psm num n fz ct kd vl fh fg ff fk vs vb fp 2).2.2.2.2.2.2) ct kd vl fr fp bp (by omega)) (cwV 1 hts gX4_holds_X4_crestOf rfl rfl rfl (by decide +kernel) ⟨Nat.le_of_ble_eq_true rfl, Nat.le_of_ble_eq_true rfl⟩) hK hN hP [0, 1, 2, 3, 4, 5, 6, 7, 8, 9, 10, 11, 12, 13] rfl rfl rfl rfl hl.1 rfl (Nat.le_of_ble_eq_true rfl) dX4_holds_39 ⟨Nat.le_of_ble_eq_true rfl, Nat.le_of_ble_eq_true rfl⟩ ?_
                    exact J_42_5 _ (if_neg (show ¬ 0 < flW phm psm num n fz ct kd vl fh fg ff fk vs vb fp 2 from Int32.not_lt.mpr c_30)).symm
                  · ---- on
                    refine lv_iconst (v := (-1)) hx hb dX4_holds_33 (by decide) ?_
                    refine lv_goto (tgt := 42) hx hb dX4_holds_34 (by decide) ?_
                    exact J_42_5 _ (if_pos (show 0 < flW phm psm num n fz ct kd vl fh fg ff fk vs vb fp 2 from Int32.not_le.mp c_30)).symm
            refine lv_icmp_ge (tgt := 52) hx hb dX4_holds_45 (by decide) (fun c_45 => ?_) (fun c_45 => ?_)
            · ---- to 52
              refine lv_iload_n hx hb dX4_holds_52 rfl (lv_at hl 2 rfl) ?_
              exact J_53_4 _ (jmin_l c_45)
            · ---- on
              refine lv_iload_n hx hb dX4_holds_48 rfl (lv_at hl 0 rfl) ?_
              refine lv_goto (tgt := 53) hx hb dX4_holds_49 (by decide) ?_
              exact J_53_4 _ (jmin_r c_45)
          refine lv_if_le (tgt := 37) hx hb dX4_holds_30 (by decide) (fun c_30 => ?_) (fun c_30 => ?_)
          · ---- to 37
            refine lv_aload_n hx hb dX4_holds_37 rfl (lv_at hl 2 rfl) ?_
            refine lv_iconst (v := 2) hx hb dX4_holds_38 (by decide) ?_
            refine ra_cR (q := (RX4, TX4, 16)) (ci := 4) (As := [.int 2]) (rest := []) (wc := [ob m0 4 [.int (nI n), .int kn, .int fz, .ref m1, .ref m2, .ref m3, .ref m4, .ref m5, .ref m6, .ref m7, .ref m8, .ref m9, .ref m10, .ref m11, .ref m12, .ref m13], ai m1 cyI 21 (f3 fh uh ((plW phm psm num n fz ct kd vl fh fg ff fk vs vb fp 1).1)), ai m2 cyI 21 (f3 fg ug ((plW phm psm num n fz ct kd vl fh fg ff fk vs vb fp 1).2.1)), ai m3 cyI 21 (f3 ff uf ((plW phm psm num n fz ct kd vl fh fg ff fk vs vb fp 1).2.2.1)), ai m4 cyI 21 (f3 fk uk ((plW phm psm num n fz ct kd vl fh fg ff fk vs vb fp 1).2.2.2.1)), ai m5 cyI 3 (t3 vs us ((plW phm psm num n fz ct kd vl fh fg ff fk vs vb fp 1).2.2.2.2.1)), ai m6 cyI 3 (t3 vb ub ((plW phm psm num n fz ct kd vl fh fg ff fk vs vb fp 1).2.2.2.2.2.1)), ai m7 cyI 3 (t3 vd ud ((plW phm psm num n fz ct kd vl fh fg ff fk vs vb fp 1).2.2.2.2.2.2)), ai m8 cyI 3 (nF ct), ai m9 cyI 36 (q12 kd), ai m10 cyI 36 (q12 vl), ai m11 cyI 7 fr, ai m12 cyI 3 fp, ai m13 cyI 3 bp]) ⟨hx, hb, hml, hown, hts⟩ (c_X4_crestOf2 l dC dI cyI cyA m0 m1 m2 m3 m4 m5 m6 m7 m8 m9 m10 m11 m12 m13 n kn fz fh fg ff fk uh ug uf uk ((plW phm psm num n fz ct kd vl fh fg ff fk vs vb fp 1).1) ((plW phm psm num n fz ct kd vl fh fg ff fk vs vb fp 1).2.1) ((plW phm psm num n fz ct kd vl fh fg ff fk vs vb fp 1).2.2.1) ((plW phm psm num n fz ct kd vl fh fg ff fk vs vb fp 1).2.2.2.1) vs vb vd us ub ud ((plW phm psm num n fz ct kd vl fh fg ff fk vs vb fp 1).2.2.2.2.1) ((plW phm psm num n fz ct kd vl fh fg ff fk vs vb fp 1).2.2.2.2.2.1) ((plW phm psm num n fz ct kd vl fh fg ff fk vs vb fp 1).2.2.2.2.2.2) ct kd vl fr fp bp (by omega)) (cwV 1 hts gX4_holds_X4_crestOf rfl rfl rfl (by decide +kernel) ⟨Nat.le_of_ble_eq_true rfl, Nat.le_of_ble_eq_true rfl⟩) hK hN hP [0, 1, 2, 3, 4, 5, 6, 7, 8, 9, 10, 11, 12, 13] rfl rfl rfl rfl hl.1 rfl (Nat.le_of_ble_eq_true rfl) dX4_holds_39 ⟨Nat.le_of_ble_eq_true rfl, Nat.le_of_ble_eq_true rfl⟩ ?_
            exact J_42_3 _ (if_neg (show ¬ 0 < flW phm psm num n fz ct kd vl fh fg ff fk vs vb fp 1 from Int32.not_lt.mpr c_30)).symm
          · ---- on
            refine lv_iconst (v := (-1)) hx hb dX4_holds_33 (by decide) ?_
            refine lv_goto (tgt := 42) hx hb dX4_holds_34 (by decide) ?_
            exact J_42_3 _ (if_pos (show 0 < flW phm psm num n fz ct kd vl fh fg ff fk vs vb fp 1 from Int32.not_le.mp c_30)).symm
    · ---- on
      have n_16 := (nq_le_n (ct 0) 0 (by omega) (by omega)).mp c_16
      refine lv_aload_n hx hb dX4_holds_19 rfl (lv_at hl 2 rfl) ?_
      refine lv_iload_n hx hb dX4_holds_20 rfl (lv_at hl 0 rfl) ?_
      refine ra_cV (q := (RX4, TX4, 16)) (ci := 4) (As := [.int 0]) (rest := []) (wc := [ob m0 4 [.int (nI n), .int kn, .int fz, .ref m1, .ref m2, .ref m3, .ref m4, .ref m5, .ref m6, .ref m7, .ref m8, .ref m9, .ref m10, .ref m11, .ref m12, .ref m13], ai m1 cyI 21 (f3 fh uh th), ai m2 cyI 21 (f3 fg ug tg), ai m3 cyI 21 (f3 ff uf tf), ai m4 cyI 21 (f3 fk uk tk), ai m5 cyI 3 (t3 vs us ts), ai m6 cyI 3 (t3 vb ub tb), ai m7 cyI 3 (t3 vd ud td), ai m8 cyI 3 (nF ct), ai m9 cyI 36 (q12 kd), ai m10 cyI 36 (q12 vl), ai m11 cyI 7 fr, ai m12 cyI 3 fp, ai m13 cyI 3 bp]) (wr := []) ⟨hx, hb, hml, hown, hts⟩ (c_X4_tryOut l dC dI cyI cyA m0 m1 m2 m3 m4 m5 m6 m7 m8 m9 m10 m11 m12 m13 n kn fz fh fg ff fk uh ug uf uk th tg tf tk vs vb vd us ub ud ts tb td ct kd vl fr fp bp 0 (by omega) hfp (by omega) (by omega) H.size) (cwV 1 hts gX4_holds_X4_tryOut rfl rfl rfl (by decide +kernel) ⟨Nat.le_of_ble_eq_true rfl, Nat.le_of_ble_eq_true rfl⟩) hK hN hP hD hA hS [0, 1, 2, 3, 4, 5, 6, 7, 8, 9, 10, 11, 12, 13] [] rfl rfl (by decide) (by decide) (by decide) rfl rfl rfl hl.1 rfl (Nat.le_of_ble_eq_true rfl) dX4_holds_21 ⟨Nat.le_of_ble_eq_true rfl, Nat.le_of_ble_eq_true rfl⟩ (fun u_4 hw_c4 H locs hP hD hS => ?_)
      have hP : va_P (dC, dI) vwCl [ob m0 4 [.int (nI n), .int kn, .int fz, .ref m1, .ref m2, .ref m3, .ref m4, .ref m5, .ref m6, .ref m7, .ref m8, .ref m9, .ref m10, .ref m11, .ref m12, .ref m13], ai m1 cyI 21 (f3 fh uh ((plW phm psm num n fz ct kd vl fh fg ff fk vs vb fp 0).1)), ai m2 cyI 21 (f3 fg ug ((plW phm psm num n fz ct kd vl fh fg ff fk vs vb fp 0).2.1)), ai m3 cyI 21 (f3 ff uf ((plW phm psm num n fz ct kd vl fh fg ff fk vs vb fp 0).2.2.1)), ai m4 cyI 21 (f3 fk uk ((plW phm psm num n fz ct kd vl fh fg ff fk vs vb fp 0).2.2.2.1)), ai m5 cyI 3 (t3 vs us ((plW phm psm num n fz ct kd vl fh fg ff fk vs vb fp 0).2.2.2.2.1)), ai m6 cyI 3 (t3 vb ub ((plW phm psm num n fz ct kd vl fh fg ff fk vs vb fp 0).2.2.2.2.2.1)), ai m7 cyI 3 (t3 vd ud ((plW phm psm num n fz ct kd vl fh fg ff fk vs vb fp 0).2.2.2.2.2.2)), ai m8 cyI 3 (nF ct), ai m9 cyI 36 (q12 kd), ai m10 cyI 36 (q12 vl), ai m11 cyI 7 fr, ai m12 cyI 3 fp, ai m13 cyI 3 bp] H := hP
      have hD : va_D A [ob m0 4 [.int (nI n), .int kn, .int fz, .ref m1, .ref m2, .ref m3, .ref m4, .ref m5, .ref m6, .ref m7, .ref m8, .ref m9, .ref m10, .ref m11, .ref m12, .ref m13], ai m1 cyI 21 (f3 fh uh ((plW phm psm num n fz ct kd vl fh fg ff fk vs vb fp 0).1)), ai m2 cyI 21 (f3 fg ug ((plW phm psm num n fz ct kd vl fh fg ff fk vs vb fp 0).2.1)), ai m3 cyI 21 (f3 ff uf ((plW phm psm num n fz ct kd vl fh fg ff fk vs vb fp 0).2.2.1)), ai m4 cyI 21 (f3 fk uk ((plW phm psm num n fz ct kd vl fh fg ff fk vs vb fp 0).2.2.2.1)), ai m5 cyI 3 (t3 vs us ((plW phm psm num n fz ct kd vl fh fg ff fk vs vb fp 0).2.2.2.2.1)), ai m6 cyI 3 (t3 vb ub ((plW phm psm num n fz ct kd vl fh fg ff fk vs vb fp 0).2.2.2.2.2.1)), ai m7 cyI 3 (t3 vd ud ((plW phm psm num n fz ct kd vl fh fg ff fk vs vb fp 0).2.2.2.2.2.2)), ai m8 cyI 3 (nF ct), ai m9 cyI 36 (q12 kd), ai m10 cyI 36 (q12 vl), ai m11 cyI 7 fr, ai m12 cyI 3 fp, ai m13 cyI 3 bp] := hD
      refine lv_aload_n hx hb dX4_holds_24 rfl (lv_at hl 2 rfl) ?_
      refine va_get (D := (dC, dI)) (ci := 4) (v := .ref m7) (C := RX4) (T := TX4) (N := 16) hx hb hts hin_X4 hown hK hP 0 rfl rfl 9 (by decide) hw_3 (fun _ h9 => h9) rfl dX4_holds_25 ?_
      refine lv_iconst (v := 2) hx hb dX4_holds_28 (by decide) ?_
      refine ra_iald hx hb hK hP 7 rfl 2 rfl (by omega) (Nat.le_of_ble_eq_true rfl) dX4_holds_29 ?_
      refine ra_top ((plW phm psm num n fz ct kd vl fh fg ff fk vs vb fp 0).2.2.2.2.2.2) rfl ?_
      have J_42_7 : ∀ v_42_7 : Int32, v_42_7 = (if 0 < flW phm psm num n fz ct kd vl fh fg ff fk vs vb fp 0 then -1 else crW phm psm num n fz ct kd vl fh fg ff fk vs vb fp 0) → W p l e (rm 4) s m args below meth c H locs 0 0 Q (F0 m 42 ls [.int v_42_7]) := by
        intro v_42_7 ev_42_7
        subst ev_42_7
        refine lv_istore_n (lv' := [(3, .int (if 0 < flW phm psm num n fz ct kd vl fh fg ff fk vs vb fp 0 then -1 else crW phm psm num n fz ct kd vl fh fg ff fk vs vb fp 0)), (2, .int 0), (1, .int 99), (0, .ref m0)]) hx hb dX4_holds_42 rfl hl (by decide) rfl (fun ls hl => ?_)
        refine lv_iload_n hx hb dX4_holds_43 rfl (lv_at hl 0 rfl) ?_
        refine lv_iload_n hx hb dX4_holds_44 rfl (lv_at hl 2 rfl) ?_
        have J_53_8 : ∀ v_53_8 : Int32, v_53_8 = (jmin 99 (if 0 < flW phm psm num n fz ct kd vl fh fg ff fk vs vb fp 0 then -1 else crW phm psm num n fz ct kd vl fh fg ff fk vs vb fp 0)) → W p l e (rm 4) s m args below meth c H locs 0 0 Q (F0 m 53 ls [.int v_53_8]) := by
          intro v_53_8 ev_53_8
          subst ev_53_8
          refine lv_istore_n (lv' := [(1, .int (jmin 99 (if 0 < flW phm psm num n fz ct kd vl fh fg ff fk vs vb fp 0 then -1 else crW phm psm num n fz ct kd vl fh fg ff fk vs vb fp 0))), (3, .int (if 0 < flW phm psm num n fz ct kd vl fh fg ff fk vs vb fp 0 then -1 else crW phm psm num n fz ct kd vl fh fg ff fk vs vb fp 0)), (2, .int 0), (0, .ref m0)]) hx hb dX4_holds_53 rfl hl (by decide) rfl (fun ls hl => ?_)
          refine lv_iinc (v := 1) (lv' := [(2, .int 1), (1, .int (jmin 99 (if 0 < flW phm psm num n fz ct kd vl fh fg ff fk vs vb fp 0 then -1 else crW phm psm num n fz ct kd vl fh fg ff fk vs vb fp 0))), (3, .int (if 0 < flW phm psm num n fz ct kd vl fh fg ff fk vs vb fp 0 then -1 else crW phm psm num n fz ct kd vl fh fg ff fk vs vb fp 0)), (0, .ref m0)]) hx hb dX4_holds_54 hl (k := 2) rfl (by decide) (by decide) rfl (fun ls hl => ?_)
          refine lv_goto (tgt := 5) hx hb dX4_holds_57 (by decide) ?_
          refine lv_iload_n hx hb dX4_holds_5 rfl (lv_at hl 0 rfl) ?_
          refine lv_iconst (v := 3) hx hb dX4_holds_6 (by decide) ?_
          refine lv_icmp_ge (tgt := 60) hx hb dX4_holds_7 (by decide) (fun c_7_2 => ?_) (fun c_7_2 => ?_)
          · ---- to 60
            exact absurd c_7_2 (by decide)
          · ---- on
            refine lv_aload_n hx hb dX4_holds_10 rfl (lv_at hl 3 rfl) ?_
            refine va_get (D := (dC, dI)) (ci := 4) (v := .ref m8) (C := RX4) (T := TX4) (N := 16) hx hb hts hin_X4 hown hK hP 0 rfl rfl 10 (by decide) hw_1 (fun _ h9 => h9) rfl dX4_holds_11 ?_
            refine lv_iload_n hx hb dX4_holds_14 rfl (lv_at hl 0 rfl) ?_
            refine ra_iald hx hb hK hP 8 rfl 1 rfl (by omega) (Nat.le_of_ble_eq_true rfl) dX4_holds_15 ?_
            refine ra_top (nI (ct 1)) rfl ?_
            refine lv_if_le (tgt := 54) hx hb dX4_holds_16 (by decide) (fun c_16_2 => ?_) (fun c_16_2 => ?_)
            · ---- to 54
              have n_16_2 := (nq_le (ct 1) 0 (by omega) (by omega)).mp c_16_2
              refine lv_iinc (v := 2) (lv' := [(2, .int 2), (1, .int (jmin 99 (if 0 < flW phm psm num n fz ct kd vl fh fg ff fk vs vb fp 0 then -1 else crW phm psm num n fz ct kd vl fh fg ff fk vs vb fp 0))), (3, .int (if 0 < flW phm psm num n fz ct kd vl fh fg ff fk vs vb fp 0 then -1 else crW phm psm num n fz ct kd vl fh fg ff fk vs vb fp 0)), (0, .ref m0)]) hx hb dX4_holds_54 hl (k := 0) rfl (by decide) (by decide) rfl (fun ls hl => ?_)
              refine lv_goto (tgt := 5) hx hb dX4_holds_57 (by decide) ?_
              refine lv_iload_n hx hb dX4_holds_5 rfl (lv_at hl 0 rfl) ?_
              refine lv_iconst (v := 3) hx hb dX4_holds_6 (by decide) ?_
              refine lv_icmp_ge (tgt := 60) hx hb dX4_holds_7 (by decide) (fun c_7_3 => ?_) (fun c_7_3 => ?_)
              · ---- to 60
                exact absurd c_7_3 (by decide)
              · ---- on
                refine lv_aload_n hx hb dX4_holds_10 rfl (lv_at hl 3 rfl) ?_
                refine va_get (D := (dC, dI)) (ci := 4) (v := .ref m8) (C := RX4) (T := TX4) (N := 16) hx hb hts hin_X4 hown hK hP 0 rfl rfl 10 (by decide) hw_1 (fun _ h9 => h9) rfl dX4_holds_11 ?_
                refine lv_iload_n hx hb dX4_holds_14 rfl (lv_at hl 0 rfl) ?_
                refine ra_iald hx hb hK hP 8 rfl 2 rfl (by omega) (Nat.le_of_ble_eq_true rfl) dX4_holds_15 ?_
                refine ra_top (nI (ct 2)) rfl ?_
                refine lv_if_le (tgt := 54) hx hb dX4_holds_16 (by decide) (fun c_16_3 => ?_) (fun c_16_3 => ?_)
                · ---- to 54
                  have n_16_3 := (nq_le (ct 2) 0 (by omega) (by omega)).mp c_16_3
                  refine lv_iinc (v := 3) (lv' := [(2, .int 3), (1, .int (jmin 99 (if 0 < flW phm psm num n fz ct kd vl fh fg ff fk vs vb fp 0 then -1 else crW phm psm num n fz ct kd vl fh fg ff fk vs vb fp 0))), (3, .int (if 0 < flW phm psm num n fz ct kd vl fh fg ff fk vs vb fp 0 then -1 else crW phm psm num n fz ct kd vl fh fg ff fk vs vb fp 0)), (0, .ref m0)]) hx hb dX4_holds_54 hl (k := 0) rfl (by decide) (by decide) rfl (fun ls hl => ?_)
                  refine lv_goto (tgt := 5) hx hb dX4_holds_57 (by decide) ?_
                  refine lv_iload_n hx hb dX4_holds_5 rfl (lv_at hl 0 rfl) ?_
                  refine lv_iconst (v := 3) hx hb dX4_holds_6 (by decide) ?_
                  refine lv_icmp_ge (tgt := 60) hx hb dX4_holds_7 (by decide) (fun c_7_4 => ?_) (fun c_7_4 => ?_)
                  · ---- to 60
                    refine lv_iload_n hx hb dX4_holds_60 rfl (lv_at hl 1 rfl) ?_
                    rw [hQ]
                    exact ra_iretW ((plW phm psm num n fz ct kd vl fh fg ff fk vs vb fp 0).1, (plW phm psm num n fz ct kd vl fh fg ff fk vs vb fp 0).2.1, (plW phm psm num n fz ct kd vl fh fg ff fk vs vb fp 0).2.2.1, (plW phm psm num n fz ct kd vl fh fg ff fk vs vb fp 0).2.2.2.1, (plW phm psm num n fz ct kd vl fh fg ff fk vs vb fp 0).2.2.2.2.1, (plW phm psm num n fz ct kd vl fh fg ff fk vs vb fp 0).2.2.2.2.2.1, (plW phm psm num n fz ct kd vl fh fg ff fk vs vb fp 0).2.2.2.2.2.2) hx hb hr hlocks rfl hK hP hD hS (by unfold hld; rw [(hSt_1 (ct := ct) (cr := crW phm psm num n fz ct kd vl fh fg ff fk vs vb fp) (fl := flW phm psm num n fz ct kd vl fh fg ff fk vs vb fp) (w := 0) (99) n_16), (hSt_0 (ct := ct) (cr := crW phm psm num n fz ct kd vl fh fg ff fk vs vb fp) (fl := flW phm psm num n fz ct kd vl fh fg ff fk vs vb fp) (w := 1) (jmin 99 (if 0 < flW phm psm num n fz ct kd vl fh fg ff fk vs vb fp 0 then -1 else crW phm psm num n fz ct kd vl fh fg ff fk vs vb fp 0)) n_16_2), (hSt_0 (ct := ct) (cr := crW phm psm num n fz ct kd vl fh fg ff fk vs vb fp) (fl := flW phm psm num n fz ct kd vl fh fg ff fk vs vb fp) (w := 2) (jmin 99 (if 0 < flW phm psm num n fz ct kd vl fh fg ff fk vs vb fp 0 then -1 else crW phm psm num n fz ct kd vl fh fg ff fk vs vb fp 0)) n_16_3)]) dX4_holds_61
                  · ---- on
                    exact absurd c_7_4 (by decide)
                · ---- on
                  have n_16_3 := (nq_le_n (ct 2) 0 (by omega) (by omega)).mp c_16_3
                  refine lv_aload_n hx hb dX4_holds_19 rfl (lv_at hl 3 rfl) ?_
                  refine lv_iload_n hx hb dX4_holds_20 rfl (lv_at hl 0 rfl) ?_
                  refine ra_cV (q := (RX4, TX4, 16)) (ci := 4) (As := [.int 2]) (rest := []) (wc := [ob m0 4 [.int (nI n), .int kn, .int fz, .ref m1, .ref m2, .ref m3, .ref m4, .ref m5, .ref m6, .ref m7, .ref m8, .ref m9, .ref m10, .ref m11, .ref m12, .ref m13], ai m1 cyI 21 (f3 fh uh ((plW phm psm num n fz ct kd vl fh fg ff fk vs vb fp 0).1)), ai m2 cyI 21 (f3 fg ug ((plW phm psm num n fz ct kd vl fh fg ff fk vs vb fp 0).2.1)), ai m3 cyI 21 (f3 ff uf ((plW phm psm num n fz ct kd vl fh fg ff fk vs vb fp 0).2.2.1)), ai m4 cyI 21 (f3 fk uk ((plW phm psm num n fz ct kd vl fh fg ff fk vs vb fp 0).2.2.2.1)), ai m5 cyI 3 (t3 vs us ((plW phm psm num n fz ct kd vl fh fg ff fk vs vb fp 0).2.2.2.2.1)), ai m6 cyI 3 (t3 vb ub ((plW phm psm num n fz ct kd vl fh fg ff fk vs vb fp 0).2.2.2.2.2.1)), ai m7 cyI 3 (t3 vd ud ((plW phm psm num n fz ct kd vl fh fg ff fk vs vb fp 0).2.2.2.2.2.2)), ai m8 cyI 3 (nF ct), ai m9 cyI 36 (q12 kd), ai m10 cyI 36 (q12 vl), ai m11 cyI 7 fr, ai m12 cyI 3 fp, ai m13 cyI 3 bp]) (wr := []) ⟨hx, hb, hml, hown, hts⟩ (c_X4_tryOut l dC dI cyI cyA m0 m1 m2 m3 m4 m5 m6 m7 m8 m9 m10 m11 m12 m13 n kn fz fh fg ff fk uh ug uf uk ((plW phm psm num n fz ct kd vl fh fg ff fk vs vb fp 0).1) ((plW phm psm num n fz ct kd vl fh fg ff fk vs vb fp 0).2.1) ((plW phm psm num n fz ct kd vl fh fg ff fk vs vb fp 0).2.2.1) ((plW phm psm num n fz ct kd vl fh fg ff fk vs vb fp 0).2.2.2.1) vs vb vd us ub ud ((plW phm psm num n fz ct kd vl fh fg ff fk vs vb fp 0).2.2.2.2.1) ((plW phm psm num n fz ct kd vl fh fg ff fk vs vb fp 0).2.2.2.2.2.1) ((plW phm psm num n fz ct kd vl fh fg ff fk vs vb fp 0).2.2.2.2.2.2) ct kd vl fr fp bp 2 (by omega) hfp (by omega) (by omega) H.size) (cwV 1 hts gX4_holds_X4_tryOut rfl rfl rfl (by decide +kernel) ⟨Nat.le_of_ble_eq_true rfl, Nat.le_of_ble_eq_true rfl⟩) hK hN hP hD hA hS [0, 1, 2, 3, 4, 5, 6, 7, 8, 9, 10, 11, 12, 13] [] rfl rfl (by decide) (by decide) (by decide) rfl rfl rfl hl.1 rfl (Nat.le_of_ble_eq_true rfl) dX4_holds_21 ⟨Nat.le_of_ble_eq_true rfl, Nat.le_of_ble_eq_true rfl⟩ (fun u_5 hw_c5 H locs hP hD hS => ?_)
                  have hP : va_P (dC, dI) vwCl [ob m0 4 [.int (nI n), .int kn, .int fz, .ref m1, .ref m2, .ref m3, .ref m4, .ref m5, .ref m6, .ref m7, .ref m8, .ref m9, .ref m10, .ref m11, .ref m12, .ref m13], ai m1 cyI 21 (f3 fh uh ((plW phm psm num n fz ct kd vl fh fg ff fk vs vb fp 2).1)), ai m2 cyI 21 (f3 fg ug ((plW phm psm num n fz ct kd vl fh fg ff fk vs vb fp 2).2.1)), ai m3 cyI 21 (f3 ff uf ((plW phm psm num n fz ct kd vl fh fg ff fk vs vb fp 2).2.2.1)), ai m4 cyI 21 (f3 fk uk ((plW phm psm num n fz ct kd vl fh fg ff fk vs vb fp 2).2.2.2.1)), ai m5 cyI 3 (t3 vs us ((plW phm psm num n fz ct kd vl fh fg ff fk vs vb fp 2).2.2.2.2.1)), ai m6 cyI 3 (t3 vb ub ((plW phm psm num n fz ct kd vl fh fg ff fk vs vb fp 2).2.2.2.2.2.1)), ai m7 cyI 3 (t3 vd ud ((plW phm psm num n fz ct kd vl fh fg ff fk vs vb fp 2).2.2.2.2.2.2)), ai m8 cyI 3 (nF ct), ai m9 cyI 36 (q12 kd), ai m10 cyI 36 (q12 vl), ai m11 cyI 7 fr, ai m12 cyI 3 fp, ai m13 cyI 3 bp] H := hP
                  have hD : va_D A [ob m0 4 [.int (nI n), .int kn, .int fz, .ref m1, .ref m2, .ref m3, .ref m4, .ref m5, .ref m6, .ref m7, .ref m8, .ref m9, .ref m10, .ref m11, .ref m12, .ref m13], ai m1 cyI 21 (f3 fh uh ((plW phm psm num n fz ct kd vl fh fg ff fk vs vb fp 2).1)), ai m2 cyI 21 (f3 fg ug ((plW phm psm num n fz ct kd vl fh fg ff fk vs vb fp 2).2.1)), ai m3 cyI 21 (f3 ff uf ((plW phm psm num n fz ct kd vl fh fg ff fk vs vb fp 2).2.2.1)), ai m4 cyI 21 (f3 fk uk ((plW phm psm num n fz ct kd vl fh fg ff fk vs vb fp 2).2.2.2.1)), ai m5 cyI 3 (t3 vs us ((plW phm psm num n fz ct kd vl fh fg ff fk vs vb fp 2).2.2.2.2.1)), ai m6 cyI 3 (t3 vb ub ((plW phm psm num n fz ct kd vl fh fg ff fk vs vb fp 2).2.2.2.2.2.1)), ai m7 cyI 3 (t3 vd ud ((plW phm psm num n fz ct kd vl fh fg ff fk vs vb fp 2).2.2.2.2.2.2)), ai m8 cyI 3 (nF ct), ai m9 cyI 36 (q12 kd), ai m10 cyI 36 (q12 vl), ai m11 cyI 7 fr, ai m12 cyI 3 fp, ai m13 cyI 3 bp] := hD
                  refine lv_aload_n hx hb dX4_holds_24 rfl (lv_at hl 3 rfl) ?_
                  refine va_get (D := (dC, dI)) (ci := 4) (v := .ref m7) (C := RX4) (T := TX4) (N := 16) hx hb hts hin_X4 hown hK hP 0 rfl rfl 9 (by decide) hw_3 (fun _ h9 => h9) rfl dX4_holds_25 ?_
                  refine lv_iconst (v := 2) hx hb dX4_holds_28 (by decide) ?_
                  refine ra_iald hx hb hK hP 7 rfl 2 rfl (by omega) (Nat.le_of_ble_eq_true rfl) dX4_holds_29 ?_
                  refine ra_top ((plW phm psm num n fz ct kd vl fh fg ff fk vs vb fp 2).2.2.2.2.2.2) rfl ?_
                  have J_42_9 : ∀ v_42_9 : Int32, v_42_9 = (if 0 < flW phm psm num n fz ct kd vl fh fg ff fk vs vb fp 2 then -1 else crW phm psm num n fz ct kd vl fh fg ff fk vs vb fp 2) → W p l e (rm 4) s m args below meth c H locs 0 0 Q (F0 m 42 ls [.int v_42_9]) := by
                    intro v_42_9 ev_42_9
                    subst ev_42_9
                    refine lv_istore_n (lv' := [(3, .int (if 0 < flW phm psm num n fz ct kd vl fh fg ff fk vs vb fp 2 then -1 else crW phm psm num n fz ct kd vl fh fg ff fk vs vb fp 2)), (2, .int 2), (1, .int (jmin 99 (if 0 < flW phm psm num n fz ct kd vl fh fg ff fk vs vb fp 0 then -1 else crW phm psm num n fz ct kd vl fh fg ff fk vs vb fp 0))), (0, .ref m0)]) hx hb dX4_holds_42 rfl hl (by decide) rfl (fun ls hl => ?_)
                    refine lv_iload_n hx hb dX4_holds_43 rfl (lv_at hl 0 rfl) ?_
                    refine lv_iload_n hx hb dX4_holds_44 rfl (lv_at hl 2 rfl) ?_
                    have J_53_10 : ∀ v_53_10 : Int32, v_53_10 = (jmin (jmin 99 (if 0 < flW phm psm num n fz ct kd vl fh fg ff fk vs vb fp 0 then -1 else crW phm psm num n fz ct kd vl fh fg ff fk vs vb fp 0)) (if 0 < flW phm psm num n fz ct kd vl fh fg ff fk vs vb fp 2 then -1 else crW phm psm num n fz ct kd vl fh fg ff fk vs vb fp 2)) → W p l e (rm 4) s m args below meth c H locs 0 0 Q (F0 m 53 ls [.int v_53_10]) := by
                      intro v_53_10 ev_53_10
                      subst ev_53_10
                      refine lv_istore_n (lv' := [(1, .int (jmin (jmin 99 (if 0 < flW phm psm num n fz ct kd vl fh fg ff fk vs vb fp 0 then -1 else crW phm psm num n fz ct kd vl fh fg ff fk vs vb fp 0)) (if 0 < flW phm psm num n fz ct kd vl fh fg ff fk vs vb fp 2 then -1 else crW phm psm num n fz ct kd vl fh fg ff fk vs vb fp 2))), (3, .int (if 0 < flW phm psm num n fz ct kd vl fh fg ff fk vs vb fp 2 then -1 else crW phm psm num n fz ct kd vl fh fg ff fk vs vb fp 2)), (2, .int 2), (0, .ref m0)]) hx hb dX4_holds_53 rfl hl (by decide) rfl (fun ls hl => ?_)
                      refine lv_iinc (v := 3) (lv' := [(2, .int 3), (1, .int (jmin (jmin 99 (if 0 < flW phm psm num n fz ct kd vl fh fg ff fk vs vb fp 0 then -1 else crW phm psm num n fz ct kd vl fh fg ff fk vs vb fp 0)) (if 0 < flW phm psm num n fz ct kd vl fh fg ff fk vs vb fp 2 then -1 else crW phm psm num n fz ct kd vl fh fg ff fk vs vb fp 2))), (3, .int (if 0 < flW phm psm num n fz ct kd vl fh fg ff fk vs vb fp 2 then -1 else crW phm psm num n fz ct kd vl fh fg ff fk vs vb fp 2)), (0, .ref m0)]) hx hb dX4_holds_54 hl (k := 2) rfl (by decide) (by decide) rfl (fun ls hl => ?_)
                      refine lv_goto (tgt := 5) hx hb dX4_holds_57 (by decide) ?_
                      refine lv_iload_n hx hb dX4_holds_5 rfl (lv_at hl 0 rfl) ?_
                      refine lv_iconst (v := 3) hx hb dX4_holds_6 (by decide) ?_
                      refine lv_icmp_ge (tgt := 60) hx hb dX4_holds_7 (by decide) (fun c_7_4 => ?_) (fun c_7_4 => ?_)
                      · ---- to 60
                        refine lv_iload_n hx hb dX4_holds_60 rfl (lv_at hl 1 rfl) ?_
                        rw [hQ]
                        exact ra_iretW ((plW phm psm num n fz ct kd vl fh fg ff fk vs vb fp 2).1, (plW phm psm num n fz ct kd vl fh fg ff fk vs vb fp 2).2.1, (plW phm psm num n fz ct kd vl fh fg ff fk vs vb fp 2).2.2.1, (plW phm psm num n fz ct kd vl fh fg ff fk vs vb fp 2).2.2.2.1, (plW phm psm num n fz ct kd vl fh fg ff fk vs vb fp 2).2.2.2.2.1, (plW phm psm num n fz ct kd vl fh fg ff fk vs vb fp 2).2.2.2.2.2.1, (plW phm psm num n fz ct kd vl fh fg ff fk vs vb fp 2).2.2.2.2.2.2) hx hb hr hlocks rfl hK hP hD hS (by unfold hld; rw [(hSt_1 (ct := ct) (cr := crW phm psm num n fz ct kd vl fh fg ff fk vs vb fp) (fl := flW phm psm num n fz ct kd vl fh fg ff fk vs vb fp) (w := 0) (99) n_16), (hSt_0 (ct := ct) (cr := crW phm psm num n fz ct kd vl fh fg ff fk vs vb fp) (fl := flW phm psm num n fz ct kd vl fh fg ff fk vs vb fp) (w := 1) (jmin 99 (if 0 < flW phm psm num n fz ct kd vl fh fg ff fk vs vb fp 0 then -1 else crW phm psm num n fz ct kd vl fh fg ff fk vs vb fp 0)) n_16_2), (hSt_1 (ct := ct) (cr := crW phm psm num n fz ct kd vl fh fg ff fk vs vb fp) (fl := flW phm psm num n fz ct kd vl fh fg ff fk vs vb fp) (w := 2) (jmin 99 (if 0 < flW phm psm num n fz ct kd vl fh fg ff fk vs vb fp 0 then -1 else crW phm psm num n fz ct kd vl fh fg ff fk vs vb fp 0)) n_16_3)]) dX4_holds_61
                      · ---- on
                        exact absurd c_7_4 (by decide)
                    refine lv_icmp_ge (tgt := 52) hx hb dX4_holds_45 (by decide) (fun c_45 => ?_) (fun c_45 => ?_)
                    · ---- to 52
                      refine lv_iload_n hx hb dX4_holds_52 rfl (lv_at hl 2 rfl) ?_
                      exact J_53_10 _ (jmin_l c_45)
                    · ---- on
                      refine lv_iload_n hx hb dX4_holds_48 rfl (lv_at hl 0 rfl) ?_
                      refine lv_goto (tgt := 53) hx hb dX4_holds_49 (by decide) ?_
                      exact J_53_10 _ (jmin_r c_45)
                  refine lv_if_le (tgt := 37) hx hb dX4_holds_30 (by decide) (fun c_30 => ?_) (fun c_30 => ?_)
                  · ---- to 37
                    refine lv_aload_n hx hb dX4_holds_37 rfl (lv_at hl 3 rfl) ?_
                    refine lv_iconst (v := 2) hx hb dX4_holds_38 (by decide) ?_
                    refine ra_cR (q := (RX4, TX4, 16)) (ci := 4) (As := [.int 2]) (rest := []) (wc := [ob m0 4 [.int (nI n), .int kn, .int fz, .ref m1, .ref m2, .ref m3, .ref m4, .ref m5, .ref m6, .ref m7, .ref m8, .ref m9, .ref m10, .ref m11, .ref m12, .ref m13], ai m1 cyI 21 (f3 fh uh ((plW phm psm num n fz ct kd vl fh fg ff fk vs vb fp 2).1)), ai m2 cyI 21 (f3 fg ug ((plW phm psm num n fz ct kd vl fh fg ff fk vs vb fp 2).2.1)), ai m3 cyI 21 (f3 ff uf ((plW phm psm num n fz ct kd vl fh fg ff fk vs vb fp 2).2.2.1)), ai m4 cyI 21 (f3 fk uk ((plW phm psm num n fz ct kd vl fh fg ff fk vs vb fp 2).2.2.2.1)), ai m5 cyI 3 (t3 vs us ((plW phm psm num n fz ct kd vl fh fg ff fk vs vb fp 2).2.2.2.2.1)), ai m6 cyI 3 (t3 vb ub ((plW phm psm num n fz ct kd vl fh fg ff fk vs vb fp 2).2.2.2.2.2.1)), ai m7 cyI 3 (t3 vd ud ((plW phm psm num n fz ct kd vl fh fg ff fk vs vb fp 2).2.2.2.2.2.2)), ai m8 cyI 3 (nF ct), ai m9 cyI 36 (q12 kd), ai m10 cyI 36 (q12 vl), ai m11 cyI 7 fr, ai m12 cyI 3 fp, ai m13 cyI 3 bp]) ⟨hx, hb, hml, hown, hts⟩ (c_X4_crestOf2 l dC dI cyI cyA m0 m1 m2 m3 m4 m5 m6 m7 m8 m9 m10 m11 m12 m13 n kn fz fh fg ff fk uh ug uf uk ((plW phm psm num n fz ct kd vl fh fg ff fk vs vb fp 2).1) ((plW phm psm num n fz ct kd vl fh fg ff fk vs vb fp 2).2.1) ((plW phm psm num n fz ct kd vl fh fg ff fk vs vb fp 2).2.2.1) ((plW phm psm num n fz ct kd vl fh fg ff fk vs vb fp 2).2.2.2.1) vs vb vd us ub ud ((plW phm psm num n fz ct kd vl fh fg ff fk vs vb fp 2).2.2.2.2.1) ((plW phm psm num n fz ct kd vl fh fg ff fk vs vb fp 2).2.2.2.2.2.1) ((plW phm psm num n fz ct kd vl fh fg ff fk vs vb fp 2).2.2.2.2.2.2) ct kd vl fr fp bp (by omega)) (cwV 1 hts gX4_holds_X4_crestOf rfl rfl rfl (by decide +kernel) ⟨Nat.le_of_ble_eq_true rfl, Nat.le_of_ble_eq_true rfl⟩) hK hN hP [0, 1, 2, 3, 4, 5, 6, 7, 8, 9, 10, 11, 12, 13] rfl rfl rfl rfl hl.1 rfl (Nat.le_of_ble_eq_true rfl) dX4_holds_39 ⟨Nat.le_of_ble_eq_true rfl, Nat.le_of_ble_eq_true rfl⟩ ?_
                    exact J_42_9 _ (if_neg (show ¬ 0 < flW phm psm num n fz ct kd vl fh fg ff fk vs vb fp 2 from Int32.not_lt.mpr c_30)).symm
                  · ---- on
                    refine lv_iconst (v := (-1)) hx hb dX4_holds_33 (by decide) ?_
                    refine lv_goto (tgt := 42) hx hb dX4_holds_34 (by decide) ?_
                    exact J_42_9 _ (if_pos (show 0 < flW phm psm num n fz ct kd vl fh fg ff fk vs vb fp 2 from Int32.not_le.mp c_30)).symm
            · ---- on
              have n_16_2 := (nq_le_n (ct 1) 0 (by omega) (by omega)).mp c_16_2
              refine lv_aload_n hx hb dX4_holds_19 rfl (lv_at hl 3 rfl) ?_
              refine lv_iload_n hx hb dX4_holds_20 rfl (lv_at hl 0 rfl) ?_
              refine ra_cV (q := (RX4, TX4, 16)) (ci := 4) (As := [.int 1]) (rest := []) (wc := [ob m0 4 [.int (nI n), .int kn, .int fz, .ref m1, .ref m2, .ref m3, .ref m4, .ref m5, .ref m6, .ref m7, .ref m8, .ref m9, .ref m10, .ref m11, .ref m12, .ref m13], ai m1 cyI 21 (f3 fh uh ((plW phm psm num n fz ct kd vl fh fg ff fk vs vb fp 0).1)), ai m2 cyI 21 (f3 fg ug ((plW phm psm num n fz ct kd vl fh fg ff fk vs vb fp 0).2.1)), ai m3 cyI 21 (f3 ff uf ((plW phm psm num n fz ct kd vl fh fg ff fk vs vb fp 0).2.2.1)), ai m4 cyI 21 (f3 fk uk ((plW phm psm num n fz ct kd vl fh fg ff fk vs vb fp 0).2.2.2.1)), ai m5 cyI 3 (t3 vs us ((plW phm psm num n fz ct kd vl fh fg ff fk vs vb fp 0).2.2.2.2.1)), ai m6 cyI 3 (t3 vb ub ((plW phm psm num n fz ct kd vl fh fg ff fk vs vb fp 0).2.2.2.2.2.1)), ai m7 cyI 3 (t3 vd ud ((plW phm psm num n fz ct kd vl fh fg ff fk vs vb fp 0).2.2.2.2.2.2)), ai m8 cyI 3 (nF ct), ai m9 cyI 36 (q12 kd), ai m10 cyI 36 (q12 vl), ai m11 cyI 7 fr, ai m12 cyI 3 fp, ai m13 cyI 3 bp]) (wr := []) ⟨hx, hb, hml, hown, hts⟩ (c_X4_tryOut l dC dI cyI cyA m0 m1 m2 m3 m4 m5 m6 m7 m8 m9 m10 m11 m12 m13 n kn fz fh fg ff fk uh ug uf uk ((plW phm psm num n fz ct kd vl fh fg ff fk vs vb fp 0).1) ((plW phm psm num n fz ct kd vl fh fg ff fk vs vb fp 0).2.1) ((plW phm psm num n fz ct kd vl fh fg ff fk vs vb fp 0).2.2.1) ((plW phm psm num n fz ct kd vl fh fg ff fk vs vb fp 0).2.2.2.1) vs vb vd us ub ud ((plW phm psm num n fz ct kd vl fh fg ff fk vs vb fp 0).2.2.2.2.1) ((plW phm psm num n fz ct kd vl fh fg ff fk vs vb fp 0).2.2.2.2.2.1) ((plW phm psm num n fz ct kd vl fh fg ff fk vs vb fp 0).2.2.2.2.2.2) ct kd vl fr fp bp 1 (by omega) hfp (by omega) (by omega) H.size) (cwV 1 hts gX4_holds_X4_tryOut rfl rfl rfl (by decide +kernel) ⟨Nat.le_of_ble_eq_true rfl, Nat.le_of_ble_eq_true rfl⟩) hK hN hP hD hA hS [0, 1, 2, 3, 4, 5, 6, 7, 8, 9, 10, 11, 12, 13] [] rfl rfl (by decide) (by decide) (by decide) rfl rfl rfl hl.1 rfl (Nat.le_of_ble_eq_true rfl) dX4_holds_21 ⟨Nat.le_of_ble_eq_true rfl, Nat.le_of_ble_eq_true rfl⟩ (fun u_6 hw_c6 H locs hP hD hS => ?_)
              have hP : va_P (dC, dI) vwCl [ob m0 4 [.int (nI n), .int kn, .int fz, .ref m1, .ref m2, .ref m3, .ref m4, .ref m5, .ref m6, .ref m7, .ref m8, .ref m9, .ref m10, .ref m11, .ref m12, .ref m13], ai m1 cyI 21 (f3 fh uh ((plW phm psm num n fz ct kd vl fh fg ff fk vs vb fp 1).1)), ai m2 cyI 21 (f3 fg ug ((plW phm psm num n fz ct kd vl fh fg ff fk vs vb fp 1).2.1)), ai m3 cyI 21 (f3 ff uf ((plW phm psm num n fz ct kd vl fh fg ff fk vs vb fp 1).2.2.1)), ai m4 cyI 21 (f3 fk uk ((plW phm psm num n fz ct kd vl fh fg ff fk vs vb fp 1).2.2.2.1)), ai m5 cyI 3 (t3 vs us ((plW phm psm num n fz ct kd vl fh fg ff fk vs vb fp 1).2.2.2.2.1)), ai m6 cyI 3 (t3 vb ub ((plW phm psm num n fz ct kd vl fh fg ff fk vs vb fp 1).2.2.2.2.2.1)), ai m7 cyI 3 (t3 vd ud ((plW phm psm num n fz ct kd vl fh fg ff fk vs vb fp 1).2.2.2.2.2.2)), ai m8 cyI 3 (nF ct), ai m9 cyI 36 (q12 kd), ai m10 cyI 36 (q12 vl), ai m11 cyI 7 fr, ai m12 cyI 3 fp, ai m13 cyI 3 bp] H := hP
              have hD : va_D A [ob m0 4 [.int (nI n), .int kn, .int fz, .ref m1, .ref m2, .ref m3, .ref m4, .ref m5, .ref m6, .ref m7, .ref m8, .ref m9, .ref m10, .ref m11, .ref m12, .ref m13], ai m1 cyI 21 (f3 fh uh ((plW phm psm num n fz ct kd vl fh fg ff fk vs vb fp 1).1)), ai m2 cyI 21 (f3 fg ug ((plW phm psm num n fz ct kd vl fh fg ff fk vs vb fp 1).2.1)), ai m3 cyI 21 (f3 ff uf ((plW phm psm num n fz ct kd vl fh fg ff fk vs vb fp 1).2.2.1)), ai m4 cyI 21 (f3 fk uk ((plW phm psm num n fz ct kd vl fh fg ff fk vs vb fp 1).2.2.2.1)), ai m5 cyI 3 (t3 vs us ((plW phm psm num n fz ct kd vl fh fg ff fk vs vb fp 1).2.2.2.2.1)), ai m6 cyI 3 (t3 vb ub ((plW phm psm num n fz ct kd vl fh fg ff fk vs vb fp 1).2.2.2.2.2.1)), ai m7 cyI 3 (t3 vd ud ((plW phm psm num n fz ct kd vl fh fg ff fk vs vb fp 1).2.2.2.2.2.2)), ai m8 cyI 3 (nF ct), ai m9 cyI 36 (q12 kd), ai m10 cyI 36 (q12 vl), ai m11 cyI 7 fr, ai m12 cyI 3 fp, ai m13 cyI 3 bp] := hD
              refine lv_aload_n hx hb dX4_holds_24 rfl (lv_at hl 3 rfl) ?_
              refine va_get (D := (dC, dI)) (ci := 4) (v := .ref m7) (C := RX4) (T := TX4) (N := 16) hx hb hts hin_X4 hown hK hP 0 rfl rfl 9 (by decide) hw_3 (fun _ h9 => h9) rfl dX4_holds_25 ?_
              refine lv_iconst (v := 2) hx hb dX4_holds_28 (by decide) ?_
              refine ra_iald hx hb hK hP 7 rfl 2 rfl (by omega) (Nat.le_of_ble_eq_true rfl) dX4_holds_29 ?_
              refine ra_top ((plW phm psm num n fz ct kd vl fh fg ff fk vs vb fp 1).2.2.2.2.2.2) rfl ?_
              have J_42_11 : ∀ v_42_11 : Int32, v_42_11 = (if 0 < flW phm psm num n fz ct kd vl fh fg ff fk vs vb fp 1 then -1 else crW phm psm num n fz ct kd vl fh fg ff fk vs vb fp 1) → W p l e (rm 4) s m args below meth c H locs 0 0 Q (F0 m 42 ls [.int v_42_11]) := by
                intro v_42_11 ev_42_11
                subst ev_42_11
                refine lv_istore_n (lv' := [(3, .int (if 0 < flW phm psm num n fz ct kd vl fh fg ff fk vs vb fp 1 then -1 else crW phm psm num n fz ct kd vl fh fg ff fk vs vb fp 1)), (2, .int 1), (1, .int (jmin 99 (if 0 < flW phm psm num n fz ct kd vl fh fg ff fk vs vb fp 0 then -1 else crW phm psm num n fz ct kd vl fh fg ff fk vs vb fp 0))), (0, .ref m0)]) hx hb dX4_holds_42 rfl hl (by decide) rfl (fun ls hl => ?_)
                refine lv_iload_n hx hb dX4_holds_43 rfl (lv_at hl 0 rfl) ?_
                refine lv_iload_n hx hb dX4_holds_44 rfl (lv_at hl 2 rfl) ?_
                have J_53_12 : ∀ v_53_12 : Int32, v_53_12 = (jmin (jmin 99 (if 0 < flW phm psm num n fz ct kd vl fh fg ff fk vs vb fp 0 then -1 else crW phm psm num n fz ct kd vl fh fg ff fk vs vb fp 0)) (if 0 < flW phm psm num n fz ct kd vl fh fg ff fk vs vb fp 1 then -1 else crW phm psm num n fz ct kd vl fh fg ff fk vs vb fp 1)) → W p l e (rm 4) s m args below meth c H locs 0 0 Q (F0 m 53 ls [.int v_53_12]) := by
                  intro v_53_12 ev_53_12
                  subst ev_53_12
                  refine lv_istore_n (lv' := [(1, .int (jmin (jmin 99 (if 0 < flW phm psm num n fz ct kd vl fh fg ff fk vs vb fp 0 then -1 else crW phm psm num n fz ct kd vl fh fg ff fk vs vb fp 0)) (if 0 < flW phm psm num n fz ct kd vl fh fg ff fk vs vb fp 1 then -1 else crW phm psm num n fz ct kd vl fh fg ff fk vs vb fp 1))), (3, .int (if 0 < flW phm psm num n fz ct kd vl fh fg ff fk vs vb fp 1 then -1 else crW phm psm num n fz ct kd vl fh fg ff fk vs vb fp 1)), (2, .int 1), (0, .ref m0)]) hx hb dX4_holds_53 rfl hl (by decide) rfl (fun ls hl => ?_)
                  refine lv_iinc (v := 2) (lv' := [(2, .int 2), (1, .int (jmin (jmin 99 (if 0 < flW phm psm num n fz ct kd vl fh fg ff fk vs vb fp 0 then -1 else crW phm psm num n fz ct kd vl fh fg ff fk vs vb fp 0)) (if 0 < flW phm psm num n fz ct kd vl fh fg ff fk vs vb fp 1 then -1 else crW phm psm num n fz ct kd vl fh fg ff fk vs vb fp 1))), (3, .int (if 0 < flW phm psm num n fz ct kd vl fh fg ff fk vs vb fp 1 then -1 else crW phm psm num n fz ct kd vl fh fg ff fk vs vb fp 1)), (0, .ref m0)]) hx hb dX4_holds_54 hl (k := 2) rfl (by decide) (by decide) rfl (fun ls hl => ?_)
                  refine lv_goto (tgt := 5) hx hb dX4_holds_57 (by decide) ?_
                  refine lv_iload_n hx hb dX4_holds_5 rfl (lv_at hl 0 rfl) ?_
                  refine lv_iconst (v := 3) hx hb dX4_holds_6 (by decide) ?_
                  refine lv_icmp_ge (tgt := 60) hx hb dX4_holds_7 (by decide) (fun c_7_3 => ?_) (fun c_7_3 => ?_)
                  · ---- to 60
                    exact absurd c_7_3 (by decide)
                  · ---- on
                    refine lv_aload_n hx hb dX4_holds_10 rfl (lv_at hl 3 rfl) ?_
                    refine va_get (D := (dC, dI)) (ci := 4) (v := .ref m8) (C := RX4) (T := TX4) (N := 16) hx hb hts hin_X4 hown hK hP 0 rfl rfl 10 (by decide) hw_1 (fun _ h9 => h9) rfl dX4_holds_11 ?_
                    refine lv_iload_n hx hb dX4_holds_14 rfl (lv_at hl 0 rfl) ?_
                    refine ra_iald hx hb hK hP 8 rfl 2 rfl (by omega) (Nat.le_of_ble_eq_true rfl) dX4_holds_15 ?_
                    refine ra_top (nI (ct 2)) rfl ?_
                    refine lv_if_le (tgt := 54) hx hb dX4_holds_16 (by decide) (fun c_16_3 => ?_) (fun c_16_3 => ?_)
                    · ---- to 54
                      have n_16_3 := (nq_le (ct 2) 0 (by omega) (by omega)).mp c_16_3
                      refine lv_iinc (v := 3) (lv' := [(2, .int 3), (1, .int (jmin (jmin 99 (if 0 < flW phm psm num n fz ct kd vl fh fg ff fk vs vb fp 0 then -1 else crW phm psm num n fz ct kd vl fh fg ff fk vs vb fp 0)) (if 0 < flW phm psm num n fz ct kd vl fh fg ff fk vs vb fp 1 then -1 else crW phm psm num n fz ct kd vl fh fg ff fk vs vb fp 1))), (3, .int (if 0 < flW phm psm num n fz ct kd vl fh fg ff fk vs vb fp 1 then -1 else crW phm psm num n fz ct kd vl fh fg ff fk vs vb fp 1)), (0, .ref m0)]) hx hb dX4_holds_54 hl (k := 0) rfl (by decide) (by decide) rfl (fun ls hl => ?_)
                      refine lv_goto (tgt := 5) hx hb dX4_holds_57 (by decide) ?_
                      refine lv_iload_n hx hb dX4_holds_5 rfl (lv_at hl 0 rfl) ?_
                      refine lv_iconst (v := 3) hx hb dX4_holds_6 (by decide) ?_
                      refine lv_icmp_ge (tgt := 60) hx hb dX4_holds_7 (by decide) (fun c_7_4 => ?_) (fun c_7_4 => ?_)
                      · ---- to 60
                        refine lv_iload_n hx hb dX4_holds_60 rfl (lv_at hl 1 rfl) ?_
                        rw [hQ]
                        exact ra_iretW ((plW phm psm num n fz ct kd vl fh fg ff fk vs vb fp 1).1, (plW phm psm num n fz ct kd vl fh fg ff fk vs vb fp 1).2.1, (plW phm psm num n fz ct kd vl fh fg ff fk vs vb fp 1).2.2.1, (plW phm psm num n fz ct kd vl fh fg ff fk vs vb fp 1).2.2.2.1, (plW phm psm num n fz ct kd vl fh fg ff fk vs vb fp 1).2.2.2.2.1, (plW phm psm num n fz ct kd vl fh fg ff fk vs vb fp 1).2.2.2.2.2.1, (plW phm psm num n fz ct kd vl fh fg ff fk vs vb fp 1).2.2.2.2.2.2) hx hb hr hlocks rfl hK hP hD hS (by unfold hld; rw [(hSt_1 (ct := ct) (cr := crW phm psm num n fz ct kd vl fh fg ff fk vs vb fp) (fl := flW phm psm num n fz ct kd vl fh fg ff fk vs vb fp) (w := 0) (99) n_16), (hSt_1 (ct := ct) (cr := crW phm psm num n fz ct kd vl fh fg ff fk vs vb fp) (fl := flW phm psm num n fz ct kd vl fh fg ff fk vs vb fp) (w := 1) (jmin 99 (if 0 < flW phm psm num n fz ct kd vl fh fg ff fk vs vb fp 0 then -1 else crW phm psm num n fz ct kd vl fh fg ff fk vs vb fp 0)) n_16_2), (hSt_0 (ct := ct) (cr := crW phm psm num n fz ct kd vl fh fg ff fk vs vb fp) (fl := flW phm psm num n fz ct kd vl fh fg ff fk vs vb fp) (w := 2) (jmin (jmin 99 (if 0 < flW phm psm num n fz ct kd vl fh fg ff fk vs vb fp 0 then -1 else crW phm psm num n fz ct kd vl fh fg ff fk vs vb fp 0)) (if 0 < flW phm psm num n fz ct kd vl fh fg ff fk vs vb fp 1 then -1 else crW phm psm num n fz ct kd vl fh fg ff fk vs vb fp 1)) n_16_3)]) dX4_holds_61
                      · ---- on
                        exact absurd c_7_4 (by decide)
                    · ---- on
                      have n_16_3 := (nq_le_n (ct 2) 0 (by omega) (by omega)).mp c_16_3
                      refine lv_aload_n hx hb dX4_holds_19 rfl (lv_at hl 3 rfl) ?_
                      refine lv_iload_n hx hb dX4_holds_20 rfl (lv_at hl 0 rfl) ?_
                      refine ra_cV (q := (RX4, TX4, 16)) (ci := 4) (As := [.int 2]) (rest := []) (wc := [ob m0 4 [.int (nI n), .int kn, .int fz, .ref m1, .ref m2, .ref m3, .ref m4, .ref m5, .ref m6, .ref m7, .ref m8, .ref m9, .ref m10, .ref m11, .ref m12, .ref m13], ai m1 cyI 21 (f3 fh uh ((plW phm psm num n fz ct kd vl fh fg ff fk vs vb fp 1).1)), ai m2 cyI 21 (f3 fg ug ((plW phm psm num n fz ct kd vl fh fg ff fk vs vb fp 1).2.1)), ai m3 cyI 21 (f3 ff uf ((plW phm psm num n fz ct kd vl fh fg ff fk vs vb fp 1).2.2.1)), ai m4 cyI 21 (f3 fk uk ((plW phm psm num n fz ct kd vl fh fg ff fk vs vb fp 1).2.2.2.1)), ai m5 cyI 3 (t3 vs us ((plW phm psm num n fz ct kd vl fh fg ff fk vs vb fp 1).2.2.2.2.1)), ai m6 cyI 3 (t3 vb ub ((plW phm psm num n fz ct kd vl fh fg ff fk vs vb fp 1).2.2.2.2.2.1)), ai m7 cyI 3 (t3 vd ud ((plW phm psm num n fz ct kd vl fh fg ff fk vs vb fp 1).2.2.2.2.2.2)), ai m8 cyI 3 (nF ct), ai m9 cyI 36 (q12 kd), ai m10 cyI 36 (q12 vl), ai m11 cyI 7 fr, ai m12 cyI 3 fp, ai m13 cyI 3 bp]) (wr := []) ⟨hx, hb, hml, hown, hts⟩ (c_X4_tryOut l dC dI cyI cyA m0 m1 m2 m3 m4 m5 m6 m7 m8 m9 m10 m11 m12 m13 n kn fz fh fg ff fk uh ug uf uk ((plW phm psm num n fz ct kd vl fh fg ff fk vs vb fp 1).1) ((plW phm psm num n fz ct kd vl fh fg ff fk vs vb fp 1).2.1) ((plW phm psm num n fz ct kd vl fh fg ff fk vs vb fp 1).2.2.1) ((plW phm psm num n fz ct kd vl fh fg ff fk vs vb fp 1).2.2.2.1) vs vb vd us ub ud ((plW phm psm num n fz ct kd vl fh fg ff fk vs vb fp 1).2.2.2.2.1) ((plW phm psm num n fz ct kd vl fh fg ff fk vs vb fp 1).2.2.2.2.2.1) ((plW phm psm num n fz ct kd vl fh fg ff fk vs vb fp 1).2.2.2.2.2.2) ct kd vl fr fp bp 2 (by omega) hfp (by omega) (by omega) H.size) (cwV 1 hts gX4_holds_X4_tryOut rfl rfl rfl (by decide +kernel) ⟨Nat.le_of_ble_eq_true rfl, Nat.le_of_ble_eq_true rfl⟩) hK hN hP hD hA hS [0, 1, 2, 3, 4, 5, 6, 7, 8, 9, 10, 11, 12, 13] [] rfl rfl (by decide) (by decide) (by decide) rfl rfl rfl hl.1 rfl (Nat.le_of_ble_eq_true rfl) dX4_holds_21 ⟨Nat.le_of_ble_eq_true rfl, Nat.le_of_ble_eq_true rfl⟩ (fun u_7 hw_c7 H locs hP hD hS => ?_)
                      have hP : va_P (dC, dI) vwCl [ob m0 4 [.int (nI n), .int kn, .int fz, .ref m1, .ref m2, .ref m3, .ref m4, .ref m5, .ref m6, .ref m7, .ref m8, .ref m9, .ref m10, .ref m11, .ref m12, .ref m13], ai m1 cyI 21 (f3 fh uh ((plW phm psm num n fz ct kd vl fh fg ff fk vs vb fp 2).1)), ai m2 cyI 21 (f3 fg ug ((plW phm psm num n fz ct kd vl fh fg ff fk vs vb fp 2).2.1)), ai m3 cyI 21 (f3 ff uf ((plW phm psm num n fz ct kd vl fh fg ff fk vs vb fp 2).2.2.1)), ai m4 cyI 21 (f3 fk uk ((plW phm psm num n fz ct kd vl fh fg ff fk vs vb fp 2).2.2.2.1)), ai m5 cyI 3 (t3 vs us ((plW phm psm num n fz ct kd vl fh fg ff fk vs vb fp 2).2.2.2.2.1)), ai m6 cyI 3 (t3 vb ub ((plW phm psm num n fz ct kd vl fh fg ff fk vs vb fp 2).2.2.2.2.2.1)), ai m7 cyI 3 (t3 vd ud ((plW phm psm num n fz ct kd vl fh fg ff fk vs vb fp 2).2.2.2.2.2.2)), ai m8 cyI 3 (nF ct), ai m9 cyI 36 (q12 kd), ai m10 cyI 36 (q12 vl), ai m11 cyI 7 fr, ai m12 cyI 3 fp, ai m13 cyI 3 bp] H := hP
                      have hD : va_D A [ob m0 4 [.int (nI n), .int kn, .int fz, .ref m1, .ref m2, .ref m3, .ref m4, .ref m5, .ref m6, .ref m7, .ref m8, .ref m9, .ref m10, .ref m11, .ref m12, .ref m13], ai m1 cyI 21 (f3 fh uh ((plW phm psm num n fz ct kd vl fh fg ff fk vs vb fp 2).1)), ai m2 cyI 21 (f3 fg ug ((plW phm psm num n fz ct kd vl fh fg ff fk vs vb fp 2).2.1)), ai m3 cyI 21 (f3 ff uf ((plW phm psm num n fz ct kd vl fh fg ff fk vs vb fp 2).2.2.1)), ai m4 cyI 21 (f3 fk uk ((plW phm psm num n fz ct kd vl fh fg ff fk vs vb fp 2).2.2.2.1)), ai m5 cyI 3 (t3 vs us ((plW phm psm num n fz ct kd vl fh fg ff fk vs vb fp 2).2.2.2.2.1)), ai m6 cyI 3 (t3 vb ub ((plW phm psm num n fz ct kd vl fh fg ff fk vs vb fp 2).2.2.2.2.2.1)), ai m7 cyI 3 (t3 vd ud ((plW phm psm num n fz ct kd vl fh fg ff fk vs vb fp 2).2.2.2.2.2.2)), ai m8 cyI 3 (nF ct), ai m9 cyI 36 (q12 kd), ai m10 cyI 36 (q12 vl), ai m11 cyI 7 fr, ai m12 cyI 3 fp, ai m13 cyI 3 bp] := hD
                      refine lv_aload_n hx hb dX4_holds_24 rfl (lv_at hl 3 rfl) ?_
                      refine va_get (D := (dC, dI)) (ci := 4) (v := .ref m7) (C := RX4) (T := TX4) (N := 16) hx hb hts hin_X4 hown hK hP 0 rfl rfl 9 (by decide) hw_3 (fun _ h9 => h9) rfl dX4_holds_25 ?_
                      refine lv_iconst (v := 2) hx hb dX4_holds_28 (by decide) ?_
                      refine ra_iald hx hb hK hP 7 rfl 2 rfl (by omega) (Nat.le_of_ble_eq_true rfl) dX4_holds_29 ?_
                      refine ra_top ((plW phm psm num n fz ct kd vl fh fg ff fk vs vb fp 2).2.2.2.2.2.2) rfl ?_
                      have J_42_13 : ∀ v_42_13 : Int32, v_42_13 = (if 0 < flW phm psm num n fz ct kd vl fh fg ff fk vs vb fp 2 then -1 else crW phm psm num n fz ct kd vl fh fg ff fk vs vb fp 2) → W p l e (rm 4) s m args below meth c H locs 0 0 Q (F0 m 42 ls [.int v_42_13]) := by
                        intro v_42_13 ev_42_13
                        subst ev_42_13
                        refine lv_istore_n (lv' := [(3, .int (if 0 < flW phm psm num n fz ct kd vl fh fg ff fk vs vb fp 2 then -1 else crW phm psm num n fz ct kd vl fh fg ff fk vs vb fp 2)), (2, .int 2), (1, .int (jmin (jmin 99 (if 0 < flW phm psm num n fz ct kd vl fh fg ff fk vs vb fp 0 then -1 else crW phm psm num n fz ct kd vl fh fg ff fk vs vb fp 0)) (if 0 < flW phm psm num n fz ct kd vl fh fg ff fk vs vb fp 1 then -1 else crW phm psm num n fz ct kd vl fh fg ff fk vs vb fp 1))), (0, .ref m0)]) hx hb dX4_holds_42 rfl hl (by decide) rfl (fun ls hl => ?_)
                        refine lv_iload_n hx hb dX4_holds_43 rfl (lv_at hl 0 rfl) ?_
                        refine lv_iload_n hx hb dX4_holds_44 rfl (lv_at hl 2 rfl) ?_
                        have J_53_14 : ∀ v_53_14 : Int32, v_53_14 = (jmin (jmin (jmin 99 (if 0 < flW phm psm num n fz ct kd vl fh fg ff fk vs vb fp 0 then -1 else crW phm psm num n fz ct kd vl fh fg ff fk vs vb fp 0)) (if 0 < flW phm psm num n fz ct kd vl fh fg ff fk vs vb fp 1 then -1 else crW phm psm num n fz ct kd vl fh fg ff fk vs vb fp 1)) (if 0 < flW phm psm num n fz ct kd vl fh fg ff fk vs vb fp 2 then -1 else crW phm psm num n fz ct kd vl fh fg ff fk vs vb fp 2)) → W p l e (rm 4) s m args below meth c H locs 0 0 Q (F0 m 53 ls [.int v_53_14]) := by
                          intro v_53_14 ev_53_14
                          subst ev_53_14
                          refine lv_istore_n (lv' := [(1, .int (jmin (jmin (jmin 99 (if 0 < flW phm psm num n fz ct kd vl fh fg ff fk vs vb fp 0 then -1 else crW phm psm num n fz ct kd vl fh fg ff fk vs vb fp 0)) (if 0 < flW phm psm num n fz ct kd vl fh fg ff fk vs vb fp 1 then -1 else crW phm psm num n fz ct kd vl fh fg ff fk vs vb fp 1)) (if 0 < flW phm psm num n fz ct kd vl fh fg ff fk vs vb fp 2 then -1 else crW phm psm num n fz ct kd vl fh fg ff fk vs vb fp 2))), (3, .int (if 0 < flW phm psm num n fz ct kd vl fh fg ff fk vs vb fp 2 then -1 else crW phm psm num n fz ct kd vl fh fg ff fk vs vb fp 2)), (2, .int 2), (0, .ref m0)]) hx hb dX4_holds_53 rfl hl (by decide) rfl (fun ls hl => ?_)
                          refine lv_iinc (v := 3) (lv' := [(2, .int 3), (1, .int (jmin (jmin (jmin 99 (if 0 < flW phm psm num n fz ct kd vl fh fg ff fk vs vb fp 0 then -1 else crW phm psm num n fz ct kd vl fh fg ff fk vs vb fp 0)) (if 0 < flW phm psm num n fz ct kd vl fh fg ff fk vs vb fp 1 then -1 else crW phm psm num n fz ct kd vl fh fg ff fk vs vb fp 1)) (if 0 < flW phm psm num n fz ct kd vl fh fg ff fk vs vb fp 2 then -1 else crW phm psm num n fz ct kd vl fh fg ff fk vs vb fp 2))), (3, .int (if 0 < flW phm psm num n fz ct kd vl fh fg ff fk vs vb fp 2 then -1 else crW phm psm num n fz ct kd vl fh fg ff fk vs vb fp 2)), (0, .ref m0)]) hx hb dX4_holds_54 hl (k := 2) rfl (by decide) (by decide) rfl (fun ls hl => ?_)
                          refine lv_goto (tgt := 5) hx hb dX4_holds_57 (by decide) ?_
                          refine lv_iload_n hx hb dX4_holds_5 rfl (lv_at hl 0 rfl) ?_
                          refine lv_iconst (v := 3) hx hb dX4_holds_6 (by decide) ?_
                          refine lv_icmp_ge (tgt := 60) hx hb dX4_holds_7 (by decide) (fun c_7_4 => ?_) (fun c_7_4 => ?_)
                          · ---- to 60
                            refine lv_iload_n hx hb dX4_holds_60 rfl (lv_at hl 1 rfl) ?_
                            rw [hQ]
                            exact ra_iretW ((plW phm psm num n fz ct kd vl fh fg ff fk vs vb fp 2).1, (plW phm psm num n fz ct kd vl fh fg ff fk vs vb fp 2).2.1, (plW phm psm num n fz ct kd vl fh fg ff fk vs vb fp 2).2.2.1, (plW phm psm num n fz ct kd vl fh fg ff fk vs vb fp 2).2.2.2.1, (plW phm psm num n fz ct kd vl fh fg ff fk vs vb fp 2).2.2.2.2.1, (plW phm psm num n fz ct kd vl fh fg ff fk vs vb fp 2).2.2.2.2.2.1, (plW phm psm num n fz ct kd vl fh fg ff fk vs vb fp 2).2.2.2.2.2.2) hx hb hr hlocks rfl hK hP hD hS (by unfold hld; rw [(hSt_1 (ct := ct) (cr := crW phm psm num n fz ct kd vl fh fg ff fk vs vb fp) (fl := flW phm psm num n fz ct kd vl fh fg ff fk vs vb fp) (w := 0) (99) n_16), (hSt_1 (ct := ct) (cr := crW phm psm num n fz ct kd vl fh fg ff fk vs vb fp) (fl := flW phm psm num n fz ct kd vl fh fg ff fk vs vb fp) (w := 1) (jmin 99 (if 0 < flW phm psm num n fz ct kd vl fh fg ff fk vs vb fp 0 then -1 else crW phm psm num n fz ct kd vl fh fg ff fk vs vb fp 0)) n_16_2), (hSt_1 (ct := ct) (cr := crW phm psm num n fz ct kd vl fh fg ff fk vs vb fp) (fl := flW phm psm num n fz ct kd vl fh fg ff fk vs vb fp) (w := 2) (jmin (jmin 99 (if 0 < flW phm psm num n fz ct kd vl fh fg ff fk vs vb fp 0 then -1 else crW phm psm num n fz ct kd vl fh fg ff fk vs vb fp 0)) (if 0 < flW phm psm num n fz ct kd vl fh fg ff fk vs vb fp 1 then -1 else crW phm psm num n fz ct kd vl fh fg ff fk vs vb fp 1)) n_16_3)]) dX4_holds_61
                          · ---- on
                            exact absurd c_7_4 (by decide)
                        refine lv_icmp_ge (tgt := 52) hx hb dX4_holds_45 (by decide) (fun c_45 => ?_) (fun c_45 => ?_)
                        · ---- to 52
                          refine lv_iload_n hx hb dX4_holds_52 rfl (lv_at hl 2 rfl) ?_
                          exact J_53_14 _ (jmin_l c_45)
                        · ---- on
                          refine lv_iload_n hx hb dX4_holds_48 rfl (lv_at hl 0 rfl) ?_
                          refine lv_goto (tgt := 53) hx hb dX4_holds_49 (by decide) ?_
                          exact J_53_14 _ (jmin_r c_45)
                      refine lv_if_le (tgt := 37) hx hb dX4_holds_30 (by decide) (fun c_30 => ?_) (fun c_30 => ?_)
                      · ---- to 37
                        refine lv_aload_n hx hb dX4_holds_37 rfl (lv_at hl 3 rfl) ?_
                        refine lv_iconst (v := 2) hx hb dX4_holds_38 (by decide) ?_
                        refine ra_cR (q := (RX4, TX4, 16)) (ci := 4) (As := [.int 2]) (rest := []) (wc := [ob m0 4 [.int (nI n), .int kn, .int fz, .ref m1, .ref m2, .ref m3, .ref m4, .ref m5, .ref m6, .ref m7, .ref m8, .ref m9, .ref m10, .ref m11, .ref m12, .ref m13], ai m1 cyI 21 (f3 fh uh ((plW phm psm num n fz ct kd vl fh fg ff fk vs vb fp 2).1)), ai m2 cyI 21 (f3 fg ug ((plW phm psm num n fz ct kd vl fh fg ff fk vs vb fp 2).2.1)), ai m3 cyI 21 (f3 ff uf ((plW phm psm num n fz ct kd vl fh fg ff fk vs vb fp 2).2.2.1)), ai m4 cyI 21 (f3 fk uk ((plW phm psm num n fz ct kd vl fh fg ff fk vs vb fp 2).2.2.2.1)), ai m5 cyI 3 (t3 vs us ((plW phm psm num n fz ct kd vl fh fg ff fk vs vb fp 2).2.2.2.2.1)), ai m6 cyI 3 (t3 vb ub ((plW phm psm num n fz ct kd vl fh fg ff fk vs vb fp 2).2.2.2.2.2.1)), ai m7 cyI 3 (t3 vd ud ((plW phm psm num n fz ct kd vl fh fg ff fk vs vb fp 2).2.2.2.2.2.2)), ai m8 cyI 3 (nF ct), ai m9 cyI 36 (q12 kd), ai m10 cyI 36 (q12 vl), ai m11 cyI 7 fr, ai m12 cyI 3 fp, ai m13 cyI 3 bp]) ⟨hx, hb, hml, hown, hts⟩ (c_X4_crestOf2 l dC dI cyI cyA m0 m1 m2 m3 m4 m5 m6 m7 m8 m9 m10 m11 m12 m13 n kn fz fh fg ff fk uh ug uf uk ((plW phm psm num n fz ct kd vl fh fg ff fk vs vb fp 2).1) ((plW phm psm num n fz ct kd vl fh fg ff fk vs vb fp 2).2.1) ((plW phm psm num n fz ct kd vl fh fg ff fk vs vb fp 2).2.2.1) ((plW phm psm num n fz ct kd vl fh fg ff fk vs vb fp 2).2.2.2.1) vs vb vd us ub ud ((plW phm psm num n fz ct kd vl fh fg ff fk vs vb fp 2).2.2.2.2.1) ((plW phm psm num n fz ct kd vl fh fg ff fk vs vb fp 2).2.2.2.2.2.1) ((plW phm psm num n fz ct kd vl fh fg ff fk vs vb fp 2).2.2.2.2.2.2) ct kd vl fr fp bp (by omega)) (cwV 1 hts gX4_holds_X4_crestOf rfl rfl rfl (by decide +kernel) ⟨Nat.le_of_ble_eq_true rfl, Nat.le_of_ble_eq_true rfl⟩) hK hN hP [0, 1, 2, 3, 4, 5, 6, 7, 8, 9, 10, 11, 12, 13] rfl rfl rfl rfl hl.1 rfl (Nat.le_of_ble_eq_true rfl) dX4_holds_39 ⟨Nat.le_of_ble_eq_true rfl, Nat.le_of_ble_eq_true rfl⟩ ?_
                        exact J_42_13 _ (if_neg (show ¬ 0 < flW phm psm num n fz ct kd vl fh fg ff fk vs vb fp 2 from Int32.not_lt.mpr c_30)).symm
                      · ---- on
                        refine lv_iconst (v := (-1)) hx hb dX4_holds_33 (by decide) ?_
                        refine lv_goto (tgt := 42) hx hb dX4_holds_34 (by decide) ?_
                        exact J_42_13 _ (if_pos (show 0 < flW phm psm num n fz ct kd vl fh fg ff fk vs vb fp 2 from Int32.not_le.mp c_30)).symm
                refine lv_icmp_ge (tgt := 52) hx hb dX4_holds_45 (by decide) (fun c_45 => ?_) (fun c_45 => ?_)
                · ---- to 52
                  refine lv_iload_n hx hb dX4_holds_52 rfl (lv_at hl 2 rfl) ?_
                  exact J_53_12 _ (jmin_l c_45)
                · ---- on
                  refine lv_iload_n hx hb dX4_holds_48 rfl (lv_at hl 0 rfl) ?_
                  refine lv_goto (tgt := 53) hx hb dX4_holds_49 (by decide) ?_
                  exact J_53_12 _ (jmin_r c_45)
              refine lv_if_le (tgt := 37) hx hb dX4_holds_30 (by decide) (fun c_30 => ?_) (fun c_30 => ?_)
              · ---- to 37
                refine lv_aload_n hx hb dX4_holds_37 rfl (lv_at hl 3 rfl) ?_
                refine lv_iconst (v := 2) hx hb dX4_holds_38 (by decide) ?_
                refine ra_cR (q := (RX4, TX4, 16)) (ci := 4) (As := [.int 2]) (rest := []) (wc := [ob m0 4 [.int (nI n), .int kn, .int fz, .ref m1, .ref m2, .ref m3, .ref m4, .ref m5, .ref m6, .ref m7, .ref m8, .ref m9, .ref m10, .ref m11, .ref m12, .ref m13], ai m1 cyI 21 (f3 fh uh ((plW phm psm num n fz ct kd vl fh fg ff fk vs vb fp 1).1)), ai m2 cyI 21 (f3 fg ug ((plW phm psm num n fz ct kd vl fh fg ff fk vs vb fp 1).2.1)), ai m3 cyI 21 (f3 ff uf ((plW phm psm num n fz ct kd vl fh fg ff fk vs vb fp 1).2.2.1)), ai m4 cyI 21 (f3 fk uk ((plW phm psm num n fz ct kd vl fh fg ff fk vs vb fp 1).2.2.2.1)), ai m5 cyI 3 (t3 vs us ((plW phm psm num n fz ct kd vl fh fg ff fk vs vb fp 1).2.2.2.2.1)), ai m6 cyI 3 (t3 vb ub ((plW phm psm num n fz ct kd vl fh fg ff fk vs vb fp 1).2.2.2.2.2.1)), ai m7 cyI 3 (t3 vd ud ((plW phm psm num n fz ct kd vl fh fg ff fk vs vb fp 1).2.2.2.2.2.2)), ai m8 cyI 3 (nF ct), ai m9 cyI 36 (q12 kd), ai m10 cyI 36 (q12 vl), ai m11 cyI 7 fr, ai m12 cyI 3 fp, ai m13 cyI 3 bp]) ⟨hx, hb, hml, hown, hts⟩ (c_X4_crestOf2 l dC dI cyI cyA m0 m1 m2 m3 m4 m5 m6 m7 m8 m9 m10 m11 m12 m13 n kn fz fh fg ff fk uh ug uf uk ((plW phm psm num n fz ct kd vl fh fg ff fk vs vb fp 1).1) ((plW phm psm num n fz ct kd vl fh fg ff fk vs vb fp 1).2.1) ((plW phm psm num n fz ct kd vl fh fg ff fk vs vb fp 1).2.2.1) ((plW phm psm num n fz ct kd vl fh fg ff fk vs vb fp 1).2.2.2.1) vs vb vd us ub ud ((plW phm psm num n fz ct kd vl fh fg ff fk vs vb fp 1).2.2.2.2.1) ((plW phm psm num n fz ct kd vl fh fg ff fk vs vb fp 1).2.2.2.2.2.1) ((plW phm psm num n fz ct kd vl fh fg ff fk vs vb fp 1).2.2.2.2.2.2) ct kd vl fr fp bp (by omega)) (cwV 1 hts gX4_holds_X4_crestOf rfl rfl rfl (by decide +kernel) ⟨Nat.le_of_ble_eq_true rfl, Nat.le_of_ble_eq_true rfl⟩) hK hN hP [0, 1, 2, 3, 4, 5, 6, 7, 8, 9, 10, 11, 12, 13] rfl rfl rfl rfl hl.1 rfl (Nat.le_of_ble_eq_true rfl) dX4_holds_39 ⟨Nat.le_of_ble_eq_true rfl, Nat.le_of_ble_eq_true rfl⟩ ?_
                exact J_42_11 _ (if_neg (show ¬ 0 < flW phm psm num n fz ct kd vl fh fg ff fk vs vb fp 1 from Int32.not_lt.mpr c_30)).symm
              · ---- on
                refine lv_iconst (v := (-1)) hx hb dX4_holds_33 (by decide) ?_
                refine lv_goto (tgt := 42) hx hb dX4_holds_34 (by decide) ?_
                exact J_42_11 _ (if_pos (show 0 < flW phm psm num n fz ct kd vl fh fg ff fk vs vb fp 1 from Int32.not_le.mp c_30)).symm
        refine lv_icmp_ge (tgt := 52) hx hb dX4_holds_45 (by decide) (fun c_45 => ?_) (fun c_45 => ?_)
        · ---- to 52
          refine lv_iload_n hx hb dX4_holds_52 rfl (lv_at hl 2 rfl) ?_
          exact J_53_8 _ (jmin_l c_45)
        · ---- on
          refine lv_iload_n hx hb dX4_holds_48 rfl (lv_at hl 0 rfl) ?_
          refine lv_goto (tgt := 53) hx hb dX4_holds_49 (by decide) ?_
          exact J_53_8 _ (jmin_r c_45)
      refine lv_if_le (tgt := 37) hx hb dX4_holds_30 (by decide) (fun c_30 => ?_) (fun c_30 => ?_)
      · ---- to 37
        refine lv_aload_n hx hb dX4_holds_37 rfl (lv_at hl 2 rfl) ?_
        refine lv_iconst (v := 2) hx hb dX4_holds_38 (by decide) ?_
        refine ra_cR (q := (RX4, TX4, 16)) (ci := 4) (As := [.int 2]) (rest := []) (wc := [ob m0 4 [.int (nI n), .int kn, .int fz, .ref m1, .ref m2, .ref m3, .ref m4, .ref m5, .ref m6, .ref m7, .ref m8, .ref m9, .ref m10, .ref m11, .ref m12, .ref m13], ai m1 cyI 21 (f3 fh uh ((plW phm psm num n fz ct kd vl fh fg ff fk vs vb fp 0).1)), ai m2 cyI 21 (f3 fg ug ((plW phm psm num n fz ct kd vl fh fg ff fk vs vb fp 0).2.1)), ai m3 cyI 21 (f3 ff uf ((plW phm psm num n fz ct kd vl fh fg ff fk vs vb fp 0).2.2.1)), ai m4 cyI 21 (f3 fk uk ((plW phm psm num n fz ct kd vl fh fg ff fk vs vb fp 0).2.2.2.1)), ai m5 cyI 3 (t3 vs us ((plW phm psm num n fz ct kd vl fh fg ff fk vs vb fp 0).2.2.2.2.1)), ai m6 cyI 3 (t3 vb ub ((plW phm psm num n fz ct kd vl fh fg ff fk vs vb fp 0).2.2.2.2.2.1)), ai m7 cyI 3 (t3 vd ud ((plW phm psm num n fz ct kd vl fh fg ff fk vs vb fp 0).2.2.2.2.2.2)), ai m8 cyI 3 (nF ct), ai m9 cyI 36 (q12 kd), ai m10 cyI 36 (q12 vl), ai m11 cyI 7 fr, ai m12 cyI 3 fp, ai m13 cyI 3 bp]) ⟨hx, hb, hml, hown, hts⟩ (c_X4_crestOf2 l dC dI cyI cyA m0 m1 m2 m3 m4 m5 m6 m7 m8 m9 m10 m11 m12 m13 n kn fz fh fg ff fk uh ug uf uk ((plW phm psm num n fz ct kd vl fh fg ff fk vs vb fp 0).1) ((plW phm psm num n fz ct kd vl fh fg ff fk vs vb fp 0).2.1) ((plW phm psm num n fz ct kd vl fh fg ff fk vs vb fp 0).2.2.1) ((plW phm psm num n fz ct kd vl fh fg ff fk vs vb fp 0).2.2.2.1) vs vb vd us ub ud ((plW phm psm num n fz ct kd vl fh fg ff fk vs vb fp 0).2.2.2.2.1) ((plW phm psm num n fz ct kd vl fh fg ff fk vs vb fp 0).2.2.2.2.2.1) ((plW phm psm num n fz ct kd vl fh fg ff fk vs vb fp 0).2.2.2.2.2.2) ct kd vl fr fp bp (by omega)) (cwV 1 hts gX4_holds_X4_crestOf rfl rfl rfl (by decide +kernel) ⟨Nat.le_of_ble_eq_true rfl, Nat.le_of_ble_eq_true rfl⟩) hK hN hP [0, 1, 2, 3, 4, 5, 6, 7, 8, 9, 10, 11, 12, 13] rfl rfl rfl rfl hl.1 rfl (Nat.le_of_ble_eq_true rfl) dX4_holds_39 ⟨Nat.le_of_ble_eq_true rfl, Nat.le_of_ble_eq_true rfl⟩ ?_
        exact J_42_7 _ (if_neg (show ¬ 0 < flW phm psm num n fz ct kd vl fh fg ff fk vs vb fp 0 from Int32.not_lt.mpr c_30)).symm
      · ---- on
        refine lv_iconst (v := (-1)) hx hb dX4_holds_33 (by decide) ?_
        refine lv_goto (tgt := 42) hx hb dX4_holds_34 (by decide) ?_
        exact J_42_7 _ (if_pos (show 0 < flW phm psm num n fz ct kd vl fh fg ff fk vs vb fp 0 from Int32.not_le.mp c_30)).symm

set_option maxHeartbeats 4000000 in
set_option maxRecDepth 100000 in
theorem c_X4_lay (l : Launch) (dC : Nat → ClassId) (dI : Nat → Nat → Nat) (cyI cyA : ClassId) (m0 m1 m2 m3 m4 m5 m6 m7 m8 m9 m10 m11 m12 m13 n : Nat) (kn fz : Int32) (fh fg ff fk uh ug uf uk th tg tf tk : FN) (vs vb vd us ub ud ts tb td : Int32) (ct : Nat → Nat) (kd vl : Nat → FN) (fr fp bp : FN) (k : Nat) (hn : n ≤ 7) (hk : k < 512) (sz : Nat) : Met l yX4_lay wsX4_lay (rm 0) (kW dC dI cyI cyA [.ref m0, .int (nI k)] sz [ob m0 4 [.int (nI n), .int kn, .int fz, .ref m1, .ref m2, .ref m3, .ref m4, .ref m5, .ref m6, .ref m7, .ref m8, .ref m9, .ref m10, .ref m11, .ref m12, .ref m13], ai m1 cyI 21 (f3 fh uh th), ai m2 cyI 21 (f3 fg ug tg), ai m3 cyI 21 (f3 ff uf tf), ai m4 cyI 21 (f3 fk uk tk), ai m5 cyI 3 (t3 vs us ts), ai m6 cyI 3 (t3 vb ub tb), ai m7 cyI 3 (t3 vd ud td), ai m8 cyI 3 (nF ct), ai m9 cyI 36 (q12 kd), ai m10 cyI 36 (q12 vl), ai m11 cyI 7 fr, ai m12 cyI 3 fp, ai m13 cyI 3 bp]) (qI dC dI cyI cyA (fun (r : Int32) (_ : Unit) => r = nI (mny n k)) (va_A [ob m0 4 [.int (nI n), .int kn, .int fz, .ref m1, .ref m2, .ref m3, .ref m4, .ref m5, .ref m6, .ref m7, .ref m8, .ref m9, .ref m10, .ref m11, .ref m12, .ref m13], ai m1 cyI 21 (f3 fh uh th), ai m2 cyI 21 (f3 fg ug tg), ai m3 cyI 21 (f3 ff uf tf), ai m4 cyI 21 (f3 fk uk tk), ai m5 cyI 3 (t3 vs us ts), ai m6 cyI 3 (t3 vb ub tb), ai m7 cyI 3 (t3 vd ud td), ai m8 cyI 3 (nF ct), ai m9 cyI 36 (q12 kd), ai m10 cyI 36 (q12 vl), ai m11 cyI 7 fr, ai m12 cyI 3 fp, ai m13 cyI 3 bp] sz) (fun _ => [ob m0 4 [.int (nI n), .int kn, .int fz, .ref m1, .ref m2, .ref m3, .ref m4, .ref m5, .ref m6, .ref m7, .ref m8, .ref m9, .ref m10, .ref m11, .ref m12, .ref m13], ai m1 cyI 21 (f3 fh uh th), ai m2 cyI 21 (f3 fg ug tg), ai m3 cyI 21 (f3 ff uf tf), ai m4 cyI 21 (f3 fk uk tk), ai m5 cyI 3 (t3 vs us ts), ai m6 cyI 3 (t3 vb ub tb), ai m7 cyI 3 (t3 vd ud td), ai m8 cyI 3 (nF ct), ai m9 cyI 36 (q12 kd), ai m10 cyI 36 (q12 vl), ai m11 cyI 7 fr, ai m12 cyI 3 (lyp n k), ai m13 cyI 3 bp])) 0 0 (va_A [ob m0 4 [.int (nI n), .int kn, .int fz, .ref m1, .ref m2, .ref m3, .ref m4, .ref m5, .ref m6, .ref m7, .ref m8, .ref m9, .ref m10, .ref m11, .ref m12, .ref m13], ai m1 cyI 21 (f3 fh uh th), ai m2 cyI 21 (f3 fg ug tg), ai m3 cyI 21 (f3 ff uf tf), ai m4 cyI 21 (f3 fk uk tk), ai m5 cyI 3 (t3 vs us ts), ai m6 cyI 3 (t3 vb ub tb), ai m7 cyI 3 (t3 vd ud td), ai m8 cyI 3 (nF ct), ai m9 cyI 36 (q12 kd), ai m10 cyI 36 (q12 vl), ai m11 cyI 7 fr, ai m12 cyI 3 fp, ai m13 cyI 3 bp] sz) := by
  refine ra_metW (cc := cX4_lay) (maxL := 6) (Qc := fun A => qI dC dI cyI cyA (fun (r : Int32) (_ : Unit) => r = nI (mny n k)) A (fun _ => [ob m0 4 [.int (nI n), .int kn, .int fz, .ref m1, .ref m2, .ref m3, .ref m4, .ref m5, .ref m6, .ref m7, .ref m8, .ref m9, .ref m10, .ref m11, .ref m12, .ref m13], ai m1 cyI 21 (f3 fh uh th), ai m2 cyI 21 (f3 fg ug tg), ai m3 cyI 21 (f3 ff uf tf), ai m4 cyI 21 (f3 fk uk tk), ai m5 cyI 3 (t3 vs us ts), ai m6 cyI 3 (t3 vb ub tb), ai m7 cyI 3 (t3 vd ud td), ai m8 cyI 3 (nF ct), ai m9 cyI 36 (q12 kd), ai m10 cyI 36 (q12 vl), ai m11 cyI 7 fr, ai m12 cyI 3 (lyp n k), ai m13 cyI 3 bp])) (by decide) rfl (Nat.le_of_ble_eq_true rfl) ?_
  intro p e s m below meth c A args Q hQ hx hb hr hlocks hml hts hown hnm hK hN hP hD hA hS ls hl
  have hl : lv_has ls 6 [(0, .ref m0), (1, .int (nI k))] := hl
  have hown : s.vm.findClass RX4 = some m.cls := hown
  have hw_1 := hts (.fieldLink RX4 7 "DuneBenchModel" "n" "I") (by decide +kernel)
  have hin_X4 : ∀ w ∈ u_ws RX4 TX4 16, w ∈ wsX4_lay := by decide +kernel
  have hw_3 := hts (.fieldLink RX4 50 "DuneBenchModel" "fences" "[I") (by decide +kernel)
  obtain ⟨H, hHe⟩ : ∃ H, H = s.heap := ⟨_, rfl⟩
  obtain ⟨locs, hLe⟩ : ∃ locs : List Loc, locs = [] := ⟨_, rfl⟩
  have hP : va_P (dC, dI) vwCl [ob m0 4 [.int (nI n), .int kn, .int fz, .ref m1, .ref m2, .ref m3, .ref m4, .ref m5, .ref m6, .ref m7, .ref m8, .ref m9, .ref m10, .ref m11, .ref m12, .ref m13], ai m1 cyI 21 (f3 fh uh th), ai m2 cyI 21 (f3 fg ug tg), ai m3 cyI 21 (f3 ff uf tf), ai m4 cyI 21 (f3 fk uk tk), ai m5 cyI 3 (t3 vs us ts), ai m6 cyI 3 (t3 vb ub tb), ai m7 cyI 3 (t3 vd ud td), ai m8 cyI 3 (nF ct), ai m9 cyI 36 (q12 kd), ai m10 cyI 36 (q12 vl), ai m11 cyI 7 fr, ai m12 cyI 3 fp, ai m13 cyI 3 bp] H := by rw [hHe]; exact hP
  have hS : va_S A s.heap H locs := by rw [hHe, hLe]; exact hS
  suffices hgo : W p l e (rm 0) s m args below meth c H locs 0 0 Q (F0 m 0 ls []) by rw [hHe, hLe] at hgo; exact hgo
  have hk1 : k / (n + 1) ≤ k := Nat.div_le_self _ _
  have hk2 : k / (n + 1) / (n + 1) ≤ k / (n + 1) := Nat.div_le_self _ _
  have hr0 : k % (n + 1) < n + 1 := Nat.mod_lt _ (by omega)
  have hr1 : k / (n + 1) % (n + 1) < n + 1 := Nat.mod_lt _ (by omega)
  have hr2 : k / (n + 1) / (n + 1) % (n + 1) < n + 1 := Nat.mod_lt _ (by omega)
  refine lv_iload_n hx hb dX4_lay_0 rfl (lv_at hl 1 rfl) ?_
  refine lv_istore_n (lv' := [(2, .int (nI k)), (0, .ref m0), (1, .int (nI k))]) hx hb dX4_lay_1 rfl hl (by decide) rfl (fun ls hl => ?_)
  refine lv_iconst (v := 0) hx hb dX4_lay_2 (by decide) ?_
  refine lv_istore_n (lv' := [(3, .int 0), (2, .int (nI k)), (0, .ref m0), (1, .int (nI k))]) hx hb dX4_lay_3 rfl hl (by decide) rfl (fun ls hl => ?_)
  refine lv_iconst (v := 2) hx hb dX4_lay_4 (by decide) ?_
  refine lv_istore (lv' := [(4, .int 2), (3, .int 0), (2, .int (nI k)), (0, .ref m0), (1, .int (nI k))]) hx hb dX4_lay_5 hl (by decide) rfl (fun ls hl => ?_)
  refine lv_iload hx hb dX4_lay_7 (lv_at hl 0 rfl) ?_
  refine lv_if_lt (tgt := 76) hx hb dX4_lay_9 (by decide) (fun c_9 => ?_) (fun c_9 => ?_)
  · ---- to 76
    exact absurd c_9 (by decide)
  · ---- on
    refine lv_iload_n hx hb dX4_lay_12 rfl (lv_at hl 2 rfl) ?_
    refine lv_aload_n hx hb dX4_lay_13 rfl (lv_at hl 3 rfl) ?_
    refine va_get (D := (dC, dI)) (ci := 4) (v := .int (nI n)) (C := RX4) (T := TX4) (N := 16) hx hb hts hin_X4 hown hK hP 0 rfl rfl 0 (by decide) hw_1 (fun _ h9 => h9) rfl dX4_lay_14 ?_
    refine lv_iconst (v := 1) hx hb dX4_lay_17 (by decide) ?_
    refine lv_iadd hx hb dX4_lay_18 ?_
    refine ra_top (nI (n + 1)) (nI_add n 1) ?_
    refine lv_irem hx hb dX4_lay_19 (nI_ne0 (by omega) (by omega)) ?_
    refine ra_top (nI (k % (n + 1))) (pk_rem (by omega) (by omega) (by omega)) ?_
    refine lv_istore (lv' := [(5, .int (nI (k % (n + 1)))), (4, .int 2), (3, .int 0), (2, .int (nI k)), (0, .ref m0), (1, .int (nI k))]) hx hb dX4_lay_20 hl (by decide) rfl (fun ls hl => ?_)
    refine lv_iload_n hx hb dX4_lay_22 rfl (lv_at hl 3 rfl) ?_
    refine lv_aload_n hx hb dX4_lay_23 rfl (lv_at hl 4 rfl) ?_
    refine va_get (D := (dC, dI)) (ci := 4) (v := .int (nI n)) (C := RX4) (T := TX4) (N := 16) hx hb hts hin_X4 hown hK hP 0 rfl rfl 0 (by decide) hw_1 (fun _ h9 => h9) rfl dX4_lay_24 ?_
    refine lv_iconst (v := 1) hx hb dX4_lay_27 (by decide) ?_
    refine lv_iadd hx hb dX4_lay_28 ?_
    refine ra_top (nI (n + 1)) (nI_add n 1) ?_
    refine lv_idiv hx hb dX4_lay_29 (nI_ne0 (by omega) (by omega)) ?_
    refine ra_top (nI (k / (n + 1))) (pk_div (by omega) (by omega) (by omega)) ?_
    refine lv_istore_n (lv' := [(2, .int (nI (k / (n + 1)))), (5, .int (nI (k % (n + 1)))), (4, .int 2), (3, .int 0), (0, .ref m0), (1, .int (nI k))]) hx hb dX4_lay_30 rfl hl (by decide) rfl (fun ls hl => ?_)
    refine lv_aload_n hx hb dX4_lay_31 rfl (lv_at hl 4 rfl) ?_
    refine va_get (D := (dC, dI)) (ci := 4) (v := .ref m12) (C := RX4) (T := TX4) (N := 16) hx hb hts hin_X4 hown hK hP 0 rfl rfl 14 (by decide) hw_3 (fun _ h9 => h9) rfl dX4_lay_32 ?_
    refine lv_iload hx hb dX4_lay_35 (lv_at hl 2 rfl) ?_
    refine lv_iload hx hb dX4_lay_37 (lv_at hl 1 rfl) ?_
    refine lv_aload_n hx hb dX4_lay_39 rfl (lv_at hl 4 rfl) ?_
    refine va_get (D := (dC, dI)) (ci := 4) (v := .int (nI n)) (C := RX4) (T := TX4) (N := 16) hx hb hts hin_X4 hown hK hP 0 rfl rfl 0 (by decide) hw_1 (fun _ h9 => h9) rfl dX4_lay_40 ?_
    refine lv_icmp_ge (tgt := 51) hx hb dX4_lay_43 (by decide) (fun c_43 => ?_) (fun c_43 => ?_)
    · ---- to 51
      have n_43 := (nq_le n (k % (n + 1)) (by omega) (by omega)).mp c_43
      refine lv_iconst (v := (-1)) hx hb dX4_lay_51 (by decide) ?_
      refine ra_iast hx hb hK hP hD hS 12 rfl 2 rfl (by omega) (Nat.le_of_ble_eq_true rfl) dX4_lay_52 (fun H locs hP hD hS => ?_)
      have hP : va_P (dC, dI) vwCl [ob m0 4 [.int (nI n), .int kn, .int fz, .ref m1, .ref m2, .ref m3, .ref m4, .ref m5, .ref m6, .ref m7, .ref m8, .ref m9, .ref m10, .ref m11, .ref m12, .ref m13], ai m1 cyI 21 (f3 fh uh th), ai m2 cyI 21 (f3 fg ug tg), ai m3 cyI 21 (f3 ff uf tf), ai m4 cyI 21 (f3 fk uk tk), ai m5 cyI 3 (t3 vs us ts), ai m6 cyI 3 (t3 vb ub tb), ai m7 cyI 3 (t3 vd ud td), ai m8 cyI 3 (nF ct), ai m9 cyI 36 (q12 kd), ai m10 cyI 36 (q12 vl), ai m11 cyI 7 fr, ai m12 cyI 3 (upd fp 2 (-1)), ai m13 cyI 3 bp] H := hP
      have hD : va_D A [ob m0 4 [.int (nI n), .int kn, .int fz, .ref m1, .ref m2, .ref m3, .ref m4, .ref m5, .ref m6, .ref m7, .ref m8, .ref m9, .ref m10, .ref m11, .ref m12, .ref m13], ai m1 cyI 21 (f3 fh uh th), ai m2 cyI 21 (f3 fg ug tg), ai m3 cyI 21 (f3 ff uf tf), ai m4 cyI 21 (f3 fk uk tk), ai m5 cyI 3 (t3 vs us ts), ai m6 cyI 3 (t3 vb ub tb), ai m7 cyI 3 (t3 vd ud td), ai m8 cyI 3 (nF ct), ai m9 cyI 36 (q12 kd), ai m10 cyI 36 (q12 vl), ai m11 cyI 7 fr, ai m12 cyI 3 (upd fp 2 (-1)), ai m13 cyI 3 bp] := hD
      refine lv_iload_n hx hb dX4_lay_53 rfl (lv_at hl 3 rfl) ?_
      refine lv_iload hx hb dX4_lay_54 (lv_at hl 1 rfl) ?_
      refine lv_aload_n hx hb dX4_lay_56 rfl (lv_at hl 4 rfl) ?_
      refine va_get (D := (dC, dI)) (ci := 4) (v := .int (nI n)) (C := RX4) (T := TX4) (N := 16) hx hb hts hin_X4 hown hK hP 0 rfl rfl 0 (by decide) hw_1 (fun _ h9 => h9) rfl dX4_lay_57 ?_
      refine lv_icmp_ge (tgt := 67) hx hb dX4_lay_60 (by decide) (fun c_60 => ?_) (fun c_60 => ?_)
      · ---- to 67
        have n_60 := (nq_le n (k % (n + 1)) (by omega) (by omega)).mp c_60
        refine lv_iconst (v := 0) hx hb dX4_lay_67 (by decide) ?_
        refine lv_iadd hx hb dX4_lay_68 ?_
        refine ra_top (0) (by decide) ?_
        refine lv_istore_n (lv' := [(3, .int 0), (2, .int (nI (k / (n + 1)))), (5, .int (nI (k % (n + 1)))), (4, .int 2), (0, .ref m0), (1, .int (nI k))]) hx hb dX4_lay_69 rfl hl (by decide) rfl (fun ls hl => ?_)
        refine lv_iinc (v := 1) (lv' := [(4, .int 1), (3, .int 0), (2, .int (nI (k / (n + 1)))), (5, .int (nI (k % (n + 1)))), (0, .ref m0), (1, .int (nI k))]) hx hb dX4_lay_70 hl (k := 3) rfl (by decide) (by decide) rfl (fun ls hl => ?_)
        refine lv_goto (tgt := 7) hx hb dX4_lay_73 (by decide) ?_
        refine lv_iload hx hb dX4_lay_7 (lv_at hl 0 rfl) ?_
        refine lv_if_lt (tgt := 76) hx hb dX4_lay_9 (by decide) (fun c_9_2 => ?_) (fun c_9_2 => ?_)
        · ---- to 76
          exact absurd c_9_2 (by decide)
        · ---- on
          refine lv_iload_n hx hb dX4_lay_12 rfl (lv_at hl 2 rfl) ?_
          refine lv_aload_n hx hb dX4_lay_13 rfl (lv_at hl 4 rfl) ?_
          refine va_get (D := (dC, dI)) (ci := 4) (v := .int (nI n)) (C := RX4) (T := TX4) (N := 16) hx hb hts hin_X4 hown hK hP 0 rfl rfl 0 (by decide) hw_1 (fun _ h9 => h9) rfl dX4_lay_14 ?_
          refine lv_iconst (v := 1) hx hb dX4_lay_17 (by decide) ?_
          refine lv_iadd hx hb dX4_lay_18 ?_
          refine ra_top (nI (n + 1)) (nI_add n 1) ?_
          refine lv_irem hx hb dX4_lay_19 (nI_ne0 (by omega) (by omega)) ?_
          refine ra_top (nI ((k / (n + 1)) % (n + 1))) (pk_rem (by omega) (by omega) (by omega)) ?_
          refine lv_istore (lv' := [(5, .int (nI ((k / (n + 1)) % (n + 1)))), (4, .int 1), (3, .int 0), (2, .int (nI (k / (n + 1)))), (0, .ref m0), (1, .int (nI k))]) hx hb dX4_lay_20 hl (by decide) rfl (fun ls hl => ?_)
          refine lv_iload_n hx hb dX4_lay_22 rfl (lv_at hl 3 rfl) ?_
          refine lv_aload_n hx hb dX4_lay_23 rfl (lv_at hl 4 rfl) ?_
          refine va_get (D := (dC, dI)) (ci := 4) (v := .int (nI n)) (C := RX4) (T := TX4) (N := 16) hx hb hts hin_X4 hown hK hP 0 rfl rfl 0 (by decide) hw_1 (fun _ h9 => h9) rfl dX4_lay_24 ?_
          refine lv_iconst (v := 1) hx hb dX4_lay_27 (by decide) ?_
          refine lv_iadd hx hb dX4_lay_28 ?_
          refine ra_top (nI (n + 1)) (nI_add n 1) ?_
          refine lv_idiv hx hb dX4_lay_29 (nI_ne0 (by omega) (by omega)) ?_
          refine ra_top (nI ((k / (n + 1)) / (n + 1))) (pk_div (by omega) (by omega) (by omega)) ?_
          refine lv_istore_n (lv' := [(2, .int (nI ((k / (n + 1)) / (n + 1)))), (5, .int (nI ((k / (n + 1)) % (n + 1)))), (4, .int 1), (3, .int 0), (0, .ref m0), (1, .int (nI k))]) hx hb dX4_lay_30 rfl hl (by decide) rfl (fun ls hl => ?_)
          refine lv_aload_n hx hb dX4_lay_31 rfl (lv_at hl 4 rfl) ?_
          refine va_get (D := (dC, dI)) (ci := 4) (v := .ref m12) (C := RX4) (T := TX4) (N := 16) hx hb hts hin_X4 hown hK hP 0 rfl rfl 14 (by decide) hw_3 (fun _ h9 => h9) rfl dX4_lay_32 ?_
          refine lv_iload hx hb dX4_lay_35 (lv_at hl 2 rfl) ?_
          refine lv_iload hx hb dX4_lay_37 (lv_at hl 1 rfl) ?_
          refine lv_aload_n hx hb dX4_lay_39 rfl (lv_at hl 4 rfl) ?_
          refine va_get (D := (dC, dI)) (ci := 4) (v := .int (nI n)) (C := RX4) (T := TX4) (N := 16) hx hb hts hin_X4 hown hK hP 0 rfl rfl 0 (by decide) hw_1 (fun _ h9 => h9) rfl dX4_lay_40 ?_
          refine lv_icmp_ge (tgt := 51) hx hb dX4_lay_43 (by decide) (fun c_43_2 => ?_) (fun c_43_2 => ?_)
          · ---- to 51
            have n_43_2 := (nq_le n ((k / (n + 1)) % (n + 1)) (by omega) (by omega)).mp c_43_2
            refine lv_iconst (v := (-1)) hx hb dX4_lay_51 (by decide) ?_
            refine ra_iast hx hb hK hP hD hS 12 rfl 1 rfl (by omega) (Nat.le_of_ble_eq_true rfl) dX4_lay_52 (fun H locs hP hD hS => ?_)
            have hP : va_P (dC, dI) vwCl [ob m0 4 [.int (nI n), .int kn, .int fz, .ref m1, .ref m2, .ref m3, .ref m4, .ref m5, .ref m6, .ref m7, .ref m8, .ref m9, .ref m10, .ref m11, .ref m12, .ref m13], ai m1 cyI 21 (f3 fh uh th), ai m2 cyI 21 (f3 fg ug tg), ai m3 cyI 21 (f3 ff uf tf), ai m4 cyI 21 (f3 fk uk tk), ai m5 cyI 3 (t3 vs us ts), ai m6 cyI 3 (t3 vb ub tb), ai m7 cyI 3 (t3 vd ud td), ai m8 cyI 3 (nF ct), ai m9 cyI 36 (q12 kd), ai m10 cyI 36 (q12 vl), ai m11 cyI 7 fr, ai m12 cyI 3 (upd (upd fp 2 (-1)) 1 (-1)), ai m13 cyI 3 bp] H := hP
            have hD : va_D A [ob m0 4 [.int (nI n), .int kn, .int fz, .ref m1, .ref m2, .ref m3, .ref m4, .ref m5, .ref m6, .ref m7, .ref m8, .ref m9, .ref m10, .ref m11, .ref m12, .ref m13], ai m1 cyI 21 (f3 fh uh th), ai m2 cyI 21 (f3 fg ug tg), ai m3 cyI 21 (f3 ff uf tf), ai m4 cyI 21 (f3 fk uk tk), ai m5 cyI 3 (t3 vs us ts), ai m6 cyI 3 (t3 vb ub tb), ai m7 cyI 3 (t3 vd ud td), ai m8 cyI 3 (nF ct), ai m9 cyI 36 (q12 kd), ai m10 cyI 36 (q12 vl), ai m11 cyI 7 fr, ai m12 cyI 3 (upd (upd fp 2 (-1)) 1 (-1)), ai m13 cyI 3 bp] := hD
            refine lv_iload_n hx hb dX4_lay_53 rfl (lv_at hl 3 rfl) ?_
            refine lv_iload hx hb dX4_lay_54 (lv_at hl 1 rfl) ?_
            refine lv_aload_n hx hb dX4_lay_56 rfl (lv_at hl 4 rfl) ?_
            refine va_get (D := (dC, dI)) (ci := 4) (v := .int (nI n)) (C := RX4) (T := TX4) (N := 16) hx hb hts hin_X4 hown hK hP 0 rfl rfl 0 (by decide) hw_1 (fun _ h9 => h9) rfl dX4_lay_57 ?_
            refine lv_icmp_ge (tgt := 67) hx hb dX4_lay_60 (by decide) (fun c_60_2 => ?_) (fun c_60_2 => ?_)
            · ---- to 67
              have n_60_2 := (nq_le n ((k / (n + 1)) % (n + 1)) (by omega) (by omega)).mp c_60_2
              refine lv_iconst (v := 0) hx hb dX4_lay_67 (by decide) ?_
              refine lv_iadd hx hb dX4_lay_68 ?_
              refine ra_top (0) (by decide) ?_
              refine lv_istore_n (lv' := [(3, .int 0), (2, .int (nI ((k / (n + 1)) / (n + 1)))), (5, .int (nI ((k / (n + 1)) % (n + 1)))), (4, .int 1), (0, .ref m0), (1, .int (nI k))]) hx hb dX4_lay_69 rfl hl (by decide) rfl (fun ls hl => ?_)
              refine lv_iinc (v := 0) (lv' := [(4, .int 0), (3, .int 0), (2, .int (nI ((k / (n + 1)) / (n + 1)))), (5, .int (nI ((k / (n + 1)) % (n + 1)))), (0, .ref m0), (1, .int (nI k))]) hx hb dX4_lay_70 hl (k := 3) rfl (by decide) (by decide) rfl (fun ls hl => ?_)
              refine lv_goto (tgt := 7) hx hb dX4_lay_73 (by decide) ?_
              refine lv_iload hx hb dX4_lay_7 (lv_at hl 0 rfl) ?_
              refine lv_if_lt (tgt := 76) hx hb dX4_lay_9 (by decide) (fun c_9_3 => ?_) (fun c_9_3 => ?_)
              · ---- to 76
                exact absurd c_9_3 (by decide)
              · ---- on
                refine lv_iload_n hx hb dX4_lay_12 rfl (lv_at hl 2 rfl) ?_
                refine lv_aload_n hx hb dX4_lay_13 rfl (lv_at hl 4 rfl) ?_
                refine va_get (D := (dC, dI)) (ci := 4) (v := .int (nI n)) (C := RX4) (T := TX4) (N := 16) hx hb hts hin_X4 hown hK hP 0 rfl rfl 0 (by decide) hw_1 (fun _ h9 => h9) rfl dX4_lay_14 ?_
                refine lv_iconst (v := 1) hx hb dX4_lay_17 (by decide) ?_
                refine lv_iadd hx hb dX4_lay_18 ?_
                refine ra_top (nI (n + 1)) (nI_add n 1) ?_
                refine lv_irem hx hb dX4_lay_19 (nI_ne0 (by omega) (by omega)) ?_
                refine ra_top (nI (((k / (n + 1)) / (n + 1)) % (n + 1))) (pk_rem (by omega) (by omega) (by omega)) ?_
                refine lv_istore (lv' := [(5, .int (nI (((k / (n + 1)) / (n + 1)) % (n + 1)))), (4, .int 0), (3, .int 0), (2, .int (nI ((k / (n + 1)) / (n + 1)))), (0, .ref m0), (1, .int (nI k))]) hx hb dX4_lay_20 hl (by decide) rfl (fun ls hl => ?_)
                refine lv_iload_n hx hb dX4_lay_22 rfl (lv_at hl 3 rfl) ?_
                refine lv_aload_n hx hb dX4_lay_23 rfl (lv_at hl 4 rfl) ?_
                refine va_get (D := (dC, dI)) (ci := 4) (v := .int (nI n)) (C := RX4) (T := TX4) (N := 16) hx hb hts hin_X4 hown hK hP 0 rfl rfl 0 (by decide) hw_1 (fun _ h9 => h9) rfl dX4_lay_24 ?_
                refine lv_iconst (v := 1) hx hb dX4_lay_27 (by decide) ?_
                refine lv_iadd hx hb dX4_lay_28 ?_
                refine ra_top (nI (n + 1)) (nI_add n 1) ?_
                refine lv_idiv hx hb dX4_lay_29 (nI_ne0 (by omega) (by omega)) ?_
                refine ra_top (nI (((k / (n + 1)) / (n + 1)) / (n + 1))) (pk_div (by omega) (by omega) (by omega)) ?_
                refine lv_istore_n (lv' := [(2, .int (nI (((k / (n + 1)) / (n + 1)) / (n + 1)))), (5, .int (nI (((k / (n + 1)) / (n + 1)) % (n + 1)))), (4, .int 0), (3, .int 0), (0, .ref m0), (1, .int (nI k))]) hx hb dX4_lay_30 rfl hl (by decide) rfl (fun ls hl => ?_)
                refine lv_aload_n hx hb dX4_lay_31 rfl (lv_at hl 4 rfl) ?_
                refine va_get (D := (dC, dI)) (ci := 4) (v := .ref m12) (C := RX4) (T := TX4) (N := 16) hx hb hts hin_X4 hown hK hP 0 rfl rfl 14 (by decide) hw_3 (fun _ h9 => h9) rfl dX4_lay_32 ?_
                refine lv_iload hx hb dX4_lay_35 (lv_at hl 2 rfl) ?_
                refine lv_iload hx hb dX4_lay_37 (lv_at hl 1 rfl) ?_
                refine lv_aload_n hx hb dX4_lay_39 rfl (lv_at hl 4 rfl) ?_
                refine va_get (D := (dC, dI)) (ci := 4) (v := .int (nI n)) (C := RX4) (T := TX4) (N := 16) hx hb hts hin_X4 hown hK hP 0 rfl rfl 0 (by decide) hw_1 (fun _ h9 => h9) rfl dX4_lay_40 ?_
                refine lv_icmp_ge (tgt := 51) hx hb dX4_lay_43 (by decide) (fun c_43_3 => ?_) (fun c_43_3 => ?_)
                · ---- to 51
                  have n_43_3 := (nq_le n (((k / (n + 1)) / (n + 1)) % (n + 1)) (by omega) (by omega)).mp c_43_3
                  refine lv_iconst (v := (-1)) hx hb dX4_lay_51 (by decide) ?_
                  refine ra_iast hx hb hK hP hD hS 12 rfl 0 rfl (by omega) (Nat.le_of_ble_eq_true rfl) dX4_lay_52 (fun H locs hP hD hS => ?_)
                  have hP : va_P (dC, dI) vwCl [ob m0 4 [.int (nI n), .int kn, .int fz, .ref m1, .ref m2, .ref m3, .ref m4, .ref m5, .ref m6, .ref m7, .ref m8, .ref m9, .ref m10, .ref m11, .ref m12, .ref m13], ai m1 cyI 21 (f3 fh uh th), ai m2 cyI 21 (f3 fg ug tg), ai m3 cyI 21 (f3 ff uf tf), ai m4 cyI 21 (f3 fk uk tk), ai m5 cyI 3 (t3 vs us ts), ai m6 cyI 3 (t3 vb ub tb), ai m7 cyI 3 (t3 vd ud td), ai m8 cyI 3 (nF ct), ai m9 cyI 36 (q12 kd), ai m10 cyI 36 (q12 vl), ai m11 cyI 7 fr, ai m12 cyI 3 (upd (upd (upd fp 2 (-1)) 1 (-1)) 0 (-1)), ai m13 cyI 3 bp] H := hP
                  have hD : va_D A [ob m0 4 [.int (nI n), .int kn, .int fz, .ref m1, .ref m2, .ref m3, .ref m4, .ref m5, .ref m6, .ref m7, .ref m8, .ref m9, .ref m10, .ref m11, .ref m12, .ref m13], ai m1 cyI 21 (f3 fh uh th), ai m2 cyI 21 (f3 fg ug tg), ai m3 cyI 21 (f3 ff uf tf), ai m4 cyI 21 (f3 fk uk tk), ai m5 cyI 3 (t3 vs us ts), ai m6 cyI 3 (t3 vb ub tb), ai m7 cyI 3 (t3 vd ud td), ai m8 cyI 3 (nF ct), ai m9 cyI 36 (q12 kd), ai m10 cyI 36 (q12 vl), ai m11 cyI 7 fr, ai m12 cyI 3 (upd (upd (upd fp 2 (-1)) 1 (-1)) 0 (-1)), ai m13 cyI 3 bp] := hD
                  refine lv_iload_n hx hb dX4_lay_53 rfl (lv_at hl 3 rfl) ?_
                  refine lv_iload hx hb dX4_lay_54 (lv_at hl 1 rfl) ?_
                  refine lv_aload_n hx hb dX4_lay_56 rfl (lv_at hl 4 rfl) ?_
                  refine va_get (D := (dC, dI)) (ci := 4) (v := .int (nI n)) (C := RX4) (T := TX4) (N := 16) hx hb hts hin_X4 hown hK hP 0 rfl rfl 0 (by decide) hw_1 (fun _ h9 => h9) rfl dX4_lay_57 ?_
                  refine lv_icmp_ge (tgt := 67) hx hb dX4_lay_60 (by decide) (fun c_60_3 => ?_) (fun c_60_3 => ?_)
                  · ---- to 67
                    have n_60_3 := (nq_le n (((k / (n + 1)) / (n + 1)) % (n + 1)) (by omega) (by omega)).mp c_60_3
                    refine lv_iconst (v := 0) hx hb dX4_lay_67 (by decide) ?_
                    refine lv_iadd hx hb dX4_lay_68 ?_
                    refine ra_top (0) (by decide) ?_
                    refine lv_istore_n (lv' := [(3, .int 0), (2, .int (nI (((k / (n + 1)) / (n + 1)) / (n + 1)))), (5, .int (nI (((k / (n + 1)) / (n + 1)) % (n + 1)))), (4, .int 0), (0, .ref m0), (1, .int (nI k))]) hx hb dX4_lay_69 rfl hl (by decide) rfl (fun ls hl => ?_)
                    refine lv_iinc (v := -1) (lv' := [(4, .int (-1)), (3, .int 0), (2, .int (nI (((k / (n + 1)) / (n + 1)) / (n + 1)))), (5, .int (nI (((k / (n + 1)) / (n + 1)) % (n + 1)))), (0, .ref m0), (1, .int (nI k))]) hx hb dX4_lay_70 hl (k := 3) rfl (by decide) (by decide) rfl (fun ls hl => ?_)
                    refine lv_goto (tgt := 7) hx hb dX4_lay_73 (by decide) ?_
                    refine lv_iload hx hb dX4_lay_7 (lv_at hl 0 rfl) ?_
                    refine lv_if_lt (tgt := 76) hx hb dX4_lay_9 (by decide) (fun c_9_4 => ?_) (fun c_9_4 => ?_)
                    · ---- to 76
                      obtain ⟨hP, hD⟩ := ra_cong hP hD 12 (p3 (-1) (-1) (-1)) rfl (fun j hj => up3r _ _ _ _ j hj)
                      have e0 : ld n (md0 n k) = -1 := by unfold ld md0; first | (rw [if_pos (by omega)]; done) | (rw [if_neg (by omega)]; done)
                      have e1 : ld n (md1 n k) = -1 := by unfold ld md1; first | (rw [if_pos (by omega)]; done) | (rw [if_neg (by omega)]; done)
                      have e2 : ld n (md2 n k) = -1 := by unfold ld md2; first | (rw [if_pos (by omega)]; done) | (rw [if_neg (by omega)]; done)
                      have e9 : lyp n k = p3 (-1) (-1) (-1) := by unfold lyp; rw [e0, e1, e2]
                      rw [← e9] at hP hD
                      have hP : va_P (dC, dI) vwCl [ob m0 4 [.int (nI n), .int kn, .int fz, .ref m1, .ref m2, .ref m3, .ref m4, .ref m5, .ref m6, .ref m7, .ref m8, .ref m9, .ref m10, .ref m11, .ref m12, .ref m13], ai m1 cyI 21 (f3 fh uh th), ai m2 cyI 21 (f3 fg ug tg), ai m3 cyI 21 (f3 ff uf tf), ai m4 cyI 21 (f3 fk uk tk), ai m5 cyI 3 (t3 vs us ts), ai m6 cyI 3 (t3 vb ub tb), ai m7 cyI 3 (t3 vd ud td), ai m8 cyI 3 (nF ct), ai m9 cyI 36 (q12 kd), ai m10 cyI 36 (q12 vl), ai m11 cyI 7 fr, ai m12 cyI 3 (lyp n k), ai m13 cyI 3 bp] H := hP
                      have hD : va_D A [ob m0 4 [.int (nI n), .int kn, .int fz, .ref m1, .ref m2, .ref m3, .ref m4, .ref m5, .ref m6, .ref m7, .ref m8, .ref m9, .ref m10, .ref m11, .ref m12, .ref m13], ai m1 cyI 21 (f3 fh uh th), ai m2 cyI 21 (f3 fg ug tg), ai m3 cyI 21 (f3 ff uf tf), ai m4 cyI 21 (f3 fk uk tk), ai m5 cyI 3 (t3 vs us ts), ai m6 cyI 3 (t3 vb ub tb), ai m7 cyI 3 (t3 vd ud td), ai m8 cyI 3 (nF ct), ai m9 cyI 36 (q12 kd), ai m10 cyI 36 (q12 vl), ai m11 cyI 7 fr, ai m12 cyI 3 (lyp n k), ai m13 cyI 3 bp] := hD
                      refine lv_iload_n hx hb dX4_lay_76 rfl (lv_at hl 1 rfl) ?_
                      rw [hQ]
                      exact ra_iretW () hx hb hr hlocks rfl hK hP hD hS (by rw [show mny n k = 0 from by unfold mny one md0 md1 md2; (repeat' split) <;> omega]; rfl) dX4_lay_77
                    · ---- on
                      exact absurd c_9_4 (by decide)
                  · ---- on
                    have n_60_3 := (nq_le_n n (((k / (n + 1)) / (n + 1)) % (n + 1)) (by omega) (by omega)).mp c_60_3
                    exfalso; omega
                · ---- on
                  have n_43_3 := (nq_le_n n (((k / (n + 1)) / (n + 1)) % (n + 1)) (by omega) (by omega)).mp c_43_3
                  refine lv_iload hx hb dX4_lay_46 (lv_at hl 1 rfl) ?_
                  refine lv_goto (tgt := 52) hx hb dX4_lay_48 (by decide) ?_
                  refine ra_iast hx hb hK hP hD hS 12 rfl 0 rfl (by omega) (Nat.le_of_ble_eq_true rfl) dX4_lay_52 (fun H locs hP hD hS => ?_)
                  have hP : va_P (dC, dI) vwCl [ob m0 4 [.int (nI n), .int kn, .int fz, .ref m1, .ref m2, .ref m3, .ref m4, .ref m5, .ref m6, .ref m7, .ref m8, .ref m9, .ref m10, .ref m11, .ref m12, .ref m13], ai m1 cyI 21 (f3 fh uh th), ai m2 cyI 21 (f3 fg ug tg), ai m3 cyI 21 (f3 ff uf tf), ai m4 cyI 21 (f3 fk uk tk), ai m5 cyI 3 (t3 vs us ts), ai m6 cyI 3 (t3 vb ub tb), ai m7 cyI 3 (t3 vd ud td), ai m8 cyI 3 (nF ct), ai m9 cyI 36 (q12 kd), ai m10 cyI 36 (q12 vl), ai m11 cyI 7 fr, ai m12 cyI 3 (upd (upd (upd fp 2 (-1)) 1 (-1)) 0 (nI (((k / (n + 1)) / (n + 1)) % (n + 1)))), ai m13 cyI 3 bp] H := hP
                  have hD : va_D A [ob m0 4 [.int (nI n), .int kn, .int fz, .ref m1, .ref m2, .ref m3, .ref m4, .ref m5, .ref m6, .ref m7, .ref m8, .ref m9, .ref m10, .ref m11, .ref m12, .ref m13], ai m1 cyI 21 (f3 fh uh th), ai m2 cyI 21 (f3 fg ug tg), ai m3 cyI 21 (f3 ff uf tf), ai m4 cyI 21 (f3 fk uk tk), ai m5 cyI 3 (t3 vs us ts), ai m6 cyI 3 (t3 vb ub tb), ai m7 cyI 3 (t3 vd ud td), ai m8 cyI 3 (nF ct), ai m9 cyI 36 (q12 kd), ai m10 cyI 36 (q12 vl), ai m11 cyI 7 fr, ai m12 cyI 3 (upd (upd (upd fp 2 (-1)) 1 (-1)) 0 (nI (((k / (n + 1)) / (n + 1)) % (n + 1)))), ai m13 cyI 3 bp] := hD
                  refine lv_iload_n hx hb dX4_lay_53 rfl (lv_at hl 3 rfl) ?_
                  refine lv_iload hx hb dX4_lay_54 (lv_at hl 1 rfl) ?_
                  refine lv_aload_n hx hb dX4_lay_56 rfl (lv_at hl 4 rfl) ?_
                  refine va_get (D := (dC, dI)) (ci := 4) (v := .int (nI n)) (C := RX4) (T := TX4) (N := 16) hx hb hts hin_X4 hown hK hP 0 rfl rfl 0 (by decide) hw_1 (fun _ h9 => h9) rfl dX4_lay_57 ?_
                  refine lv_icmp_ge (tgt := 67) hx hb dX4_lay_60 (by decide) (fun c_60_3 => ?_) (fun c_60_3 => ?_)
                  · ---- to 67
                    have n_60_3 := (nq_le n (((k / (n + 1)) / (n + 1)) % (n + 1)) (by omega) (by omega)).mp c_60_3
                    exfalso; omega
                  · ---- on
                    have n_60_3 := (nq_le_n n (((k / (n + 1)) / (n + 1)) % (n + 1)) (by omega) (by omega)).mp c_60_3
                    refine lv_iconst (v := 1) hx hb dX4_lay_63 (by decide) ?_
                    refine lv_goto (tgt := 68) hx hb dX4_lay_64 (by decide) ?_
                    refine lv_iadd hx hb dX4_lay_68 ?_
                    refine ra_top (1) (by decide) ?_
                    refine lv_istore_n (lv' := [(3, .int 1), (2, .int (nI (((k / (n + 1)) / (n + 1)) / (n + 1)))), (5, .int (nI (((k / (n + 1)) / (n + 1)) % (n + 1)))), (4, .int 0), (0, .ref m0), (1, .int (nI k))]) hx hb dX4_lay_69 rfl hl (by decide) rfl (fun ls hl => ?_)
                    refine lv_iinc (v := -1) (lv' := [(4, .int (-1)), (3, .int 1), (2, .int (nI (((k / (n + 1)) / (n + 1)) / (n + 1)))), (5, .int (nI (((k / (n + 1)) / (n + 1)) % (n + 1)))), (0, .ref m0), (1, .int (nI k))]) hx hb dX4_lay_70 hl (k := 3) rfl (by decide) (by decide) rfl (fun ls hl => ?_)
                    refine lv_goto (tgt := 7) hx hb dX4_lay_73 (by decide) ?_
                    refine lv_iload hx hb dX4_lay_7 (lv_at hl 0 rfl) ?_
                    refine lv_if_lt (tgt := 76) hx hb dX4_lay_9 (by decide) (fun c_9_4 => ?_) (fun c_9_4 => ?_)
                    · ---- to 76
                      obtain ⟨hP, hD⟩ := ra_cong hP hD 12 (p3 (nI (((k / (n + 1)) / (n + 1)) % (n + 1))) (-1) (-1)) rfl (fun j hj => up3r _ _ _ _ j hj)
                      have e0 : ld n (md0 n k) = nI (((k / (n + 1)) / (n + 1)) % (n + 1)) := by unfold ld md0; first | (rw [if_pos (by omega)]; done) | (rw [if_neg (by omega)]; done)
                      have e1 : ld n (md1 n k) = -1 := by unfold ld md1; first | (rw [if_pos (by omega)]; done) | (rw [if_neg (by omega)]; done)
                      have e2 : ld n (md2 n k) = -1 := by unfold ld md2; first | (rw [if_pos (by omega)]; done) | (rw [if_neg (by omega)]; done)
                      have e9 : lyp n k = p3 (nI (((k / (n + 1)) / (n + 1)) % (n + 1))) (-1) (-1) := by unfold lyp; rw [e0, e1, e2]
                      rw [← e9] at hP hD
                      have hP : va_P (dC, dI) vwCl [ob m0 4 [.int (nI n), .int kn, .int fz, .ref m1, .ref m2, .ref m3, .ref m4, .ref m5, .ref m6, .ref m7, .ref m8, .ref m9, .ref m10, .ref m11, .ref m12, .ref m13], ai m1 cyI 21 (f3 fh uh th), ai m2 cyI 21 (f3 fg ug tg), ai m3 cyI 21 (f3 ff uf tf), ai m4 cyI 21 (f3 fk uk tk), ai m5 cyI 3 (t3 vs us ts), ai m6 cyI 3 (t3 vb ub tb), ai m7 cyI 3 (t3 vd ud td), ai m8 cyI 3 (nF ct), ai m9 cyI 36 (q12 kd), ai m10 cyI 36 (q12 vl), ai m11 cyI 7 fr, ai m12 cyI 3 (lyp n k), ai m13 cyI 3 bp] H := hP
                      have hD : va_D A [ob m0 4 [.int (nI n), .int kn, .int fz, .ref m1, .ref m2, .ref m3, .ref m4, .ref m5, .ref m6, .ref m7, .ref m8, .ref m9, .ref m10, .ref m11, .ref m12, .ref m13], ai m1 cyI 21 (f3 fh uh th), ai m2 cyI 21 (f3 fg ug tg), ai m3 cyI 21 (f3 ff uf tf), ai m4 cyI 21 (f3 fk uk tk), ai m5 cyI 3 (t3 vs us ts), ai m6 cyI 3 (t3 vb ub tb), ai m7 cyI 3 (t3 vd ud td), ai m8 cyI 3 (nF ct), ai m9 cyI 36 (q12 kd), ai m10 cyI 36 (q12 vl), ai m11 cyI 7 fr, ai m12 cyI 3 (lyp n k), ai m13 cyI 3 bp] := hD
                      refine lv_iload_n hx hb dX4_lay_76 rfl (lv_at hl 1 rfl) ?_
                      rw [hQ]
                      exact ra_iretW () hx hb hr hlocks rfl hK hP hD hS (by rw [show mny n k = 1 from by unfold mny one md0 md1 md2; (repeat' split) <;> omega]; rfl) dX4_lay_77
                    · ---- on
                      exact absurd c_9_4 (by decide)
            · ---- on
              have n_60_2 := (nq_le_n n ((k / (n + 1)) % (n + 1)) (by omega) (by omega)).mp c_60_2
              exfalso; omega
          · ---- on
            have n_43_2 := (nq_le_n n ((k / (n + 1)) % (n + 1)) (by omega) (by omega)).mp c_43_2
            refine lv_iload hx hb dX4_lay_46 (lv_at hl 1 rfl) ?_
            refine lv_goto (tgt := 52) hx hb dX4_lay_48 (by decide) ?_
            refine ra_iast hx hb hK hP hD hS 12 rfl 1 rfl (by omega) (Nat.le_of_ble_eq_true rfl) dX4_lay_52 (fun H locs hP hD hS => ?_)
            have hP : va_P (dC, dI) vwCl [ob m0 4 [.int (nI n), .int kn, .int fz, .ref m1, .ref m2, .ref m3, .ref m4, .ref m5, .ref m6, .ref m7, .ref m8, .ref m9, .ref m10, .ref m11, .ref m12, .ref m13], ai m1 cyI 21 (f3 fh uh th), ai m2 cyI 21 (f3 fg ug tg), ai m3 cyI 21 (f3 ff uf tf), ai m4 cyI 21 (f3 fk uk tk), ai m5 cyI 3 (t3 vs us ts), ai m6 cyI 3 (t3 vb ub tb), ai m7 cyI 3 (t3 vd ud td), ai m8 cyI 3 (nF ct), ai m9 cyI 36 (q12 kd), ai m10 cyI 36 (q12 vl), ai m11 cyI 7 fr, ai m12 cyI 3 (upd (upd fp 2 (-1)) 1 (nI ((k / (n + 1)) % (n + 1)))), ai m13 cyI 3 bp] H := hP
            have hD : va_D A [ob m0 4 [.int (nI n), .int kn, .int fz, .ref m1, .ref m2, .ref m3, .ref m4, .ref m5, .ref m6, .ref m7, .ref m8, .ref m9, .ref m10, .ref m11, .ref m12, .ref m13], ai m1 cyI 21 (f3 fh uh th), ai m2 cyI 21 (f3 fg ug tg), ai m3 cyI 21 (f3 ff uf tf), ai m4 cyI 21 (f3 fk uk tk), ai m5 cyI 3 (t3 vs us ts), ai m6 cyI 3 (t3 vb ub tb), ai m7 cyI 3 (t3 vd ud td), ai m8 cyI 3 (nF ct), ai m9 cyI 36 (q12 kd), ai m10 cyI 36 (q12 vl), ai m11 cyI 7 fr, ai m12 cyI 3 (upd (upd fp 2 (-1)) 1 (nI ((k / (n + 1)) % (n + 1)))), ai m13 cyI 3 bp] := hD
            refine lv_iload_n hx hb dX4_lay_53 rfl (lv_at hl 3 rfl) ?_
            refine lv_iload hx hb dX4_lay_54 (lv_at hl 1 rfl) ?_
            refine lv_aload_n hx hb dX4_lay_56 rfl (lv_at hl 4 rfl) ?_
            refine va_get (D := (dC, dI)) (ci := 4) (v := .int (nI n)) (C := RX4) (T := TX4) (N := 16) hx hb hts hin_X4 hown hK hP 0 rfl rfl 0 (by decide) hw_1 (fun _ h9 => h9) rfl dX4_lay_57 ?_
            refine lv_icmp_ge (tgt := 67) hx hb dX4_lay_60 (by decide) (fun c_60_2 => ?_) (fun c_60_2 => ?_)
            · ---- to 67
              have n_60_2 := (nq_le n ((k / (n + 1)) % (n + 1)) (by omega) (by omega)).mp c_60_2
              exfalso; omega
            · ---- on
              have n_60_2 := (nq_le_n n ((k / (n + 1)) % (n + 1)) (by omega) (by omega)).mp c_60_2
              refine lv_iconst (v := 1) hx hb dX4_lay_63 (by decide) ?_
              refine lv_goto (tgt := 68) hx hb dX4_lay_64 (by decide) ?_
              refine lv_iadd hx hb dX4_lay_68 ?_
              refine ra_top (1) (by decide) ?_
              refine lv_istore_n (lv' := [(3, .int 1), (2, .int (nI ((k / (n + 1)) / (n + 1)))), (5, .int (nI ((k / (n + 1)) % (n + 1)))), (4, .int 1), (0, .ref m0), (1, .int (nI k))]) hx hb dX4_lay_69 rfl hl (by decide) rfl (fun ls hl => ?_)
              refine lv_iinc (v := 0) (lv' := [(4, .int 0), (3, .int 1), (2, .int (nI ((k / (n + 1)) / (n + 1)))), (5, .int (nI ((k / (n + 1)) % (n + 1)))), (0, .ref m0), (1, .int (nI k))]) hx hb dX4_lay_70 hl (k := 3) rfl (by decide) (by decide) rfl (fun ls hl => ?_)
              refine lv_goto (tgt := 7) hx hb dX4_lay_73 (by decide) ?_
              refine lv_iload hx hb dX4_lay_7 (lv_at hl 0 rfl) ?_
              refine lv_if_lt (tgt := 76) hx hb dX4_lay_9 (by decide) (fun c_9_3 => ?_) (fun c_9_3 => ?_)
              · ---- to 76
                exact absurd c_9_3 (by decide)
              · ---- on
                refine lv_iload_n hx hb dX4_lay_12 rfl (lv_at hl 2 rfl) ?_
                refine lv_aload_n hx hb dX4_lay_13 rfl (lv_at hl 4 rfl) ?_
                refine va_get (D := (dC, dI)) (ci := 4) (v := .int (nI n)) (C := RX4) (T := TX4) (N := 16) hx hb hts hin_X4 hown hK hP 0 rfl rfl 0 (by decide) hw_1 (fun _ h9 => h9) rfl dX4_lay_14 ?_
                refine lv_iconst (v := 1) hx hb dX4_lay_17 (by decide) ?_
                refine lv_iadd hx hb dX4_lay_18 ?_
                refine ra_top (nI (n + 1)) (nI_add n 1) ?_
                refine lv_irem hx hb dX4_lay_19 (nI_ne0 (by omega) (by omega)) ?_
                refine ra_top (nI (((k / (n + 1)) / (n + 1)) % (n + 1))) (pk_rem (by omega) (by omega) (by omega)) ?_
                refine lv_istore (lv' := [(5, .int (nI (((k / (n + 1)) / (n + 1)) % (n + 1)))), (4, .int 0), (3, .int 1), (2, .int (nI ((k / (n + 1)) / (n + 1)))), (0, .ref m0), (1, .int (nI k))]) hx hb dX4_lay_20 hl (by decide) rfl (fun ls hl => ?_)
                refine lv_iload_n hx hb dX4_lay_22 rfl (lv_at hl 3 rfl) ?_
                refine lv_aload_n hx hb dX4_lay_23 rfl (lv_at hl 4 rfl) ?_
                refine va_get (D := (dC, dI)) (ci := 4) (v := .int (nI n)) (C := RX4) (T := TX4) (N := 16) hx hb hts hin_X4 hown hK hP 0 rfl rfl 0 (by decide) hw_1 (fun _ h9 => h9) rfl dX4_lay_24 ?_
                refine lv_iconst (v := 1) hx hb dX4_lay_27 (by decide) ?_
                refine lv_iadd hx hb dX4_lay_28 ?_
                refine ra_top (nI (n + 1)) (nI_add n 1) ?_
                refine lv_idiv hx hb dX4_lay_29 (nI_ne0 (by omega) (by omega)) ?_
                refine ra_top (nI (((k / (n + 1)) / (n + 1)) / (n + 1))) (pk_div (by omega) (by omega) (by omega)) ?_
                refine lv_istore_n (lv' := [(2, .int (nI (((k / (n + 1)) / (n + 1)) / (n + 1)))), (5, .int (nI (((k / (n + 1)) / (n + 1)) % (n + 1)))), (4, .int 0), (3, .int 1), (0, .ref m0), (1, .int (nI k))]) hx hb dX4_lay_30 rfl hl (by decide) rfl (fun ls hl => ?_)
                refine lv_aload_n hx hb dX4_lay_31 rfl (lv_at hl 4 rfl) ?_
                refine va_get (D := (dC, dI)) (ci := 4) (v := .ref m12) (C := RX4) (T := TX4) (N := 16) hx hb hts hin_X4 hown hK hP 0 rfl rfl 14 (by decide) hw_3 (fun _ h9 => h9) rfl dX4_lay_32 ?_
                refine lv_iload hx hb dX4_lay_35 (lv_at hl 2 rfl) ?_
                refine lv_iload hx hb dX4_lay_37 (lv_at hl 1 rfl) ?_
                refine lv_aload_n hx hb dX4_lay_39 rfl (lv_at hl 4 rfl) ?_
                refine va_get (D := (dC, dI)) (ci := 4) (v := .int (nI n)) (C := RX4) (T := TX4) (N := 16) hx hb hts hin_X4 hown hK hP 0 rfl rfl 0 (by decide) hw_1 (fun _ h9 => h9) rfl dX4_lay_40 ?_
                refine lv_icmp_ge (tgt := 51) hx hb dX4_lay_43 (by decide) (fun c_43_3 => ?_) (fun c_43_3 => ?_)
                · ---- to 51
                  have n_43_3 := (nq_le n (((k / (n + 1)) / (n + 1)) % (n + 1)) (by omega) (by omega)).mp c_43_3
                  refine lv_iconst (v := (-1)) hx hb dX4_lay_51 (by decide) ?_
                  refine ra_iast hx hb hK hP hD hS 12 rfl 0 rfl (by omega) (Nat.le_of_ble_eq_true rfl) dX4_lay_52 (fun H locs hP hD hS => ?_)
                  have hP : va_P (dC, dI) vwCl [ob m0 4 [.int (nI n), .int kn, .int fz, .ref m1, .ref m2, .ref m3, .ref m4, .ref m5, .ref m6, .ref m7, .ref m8, .ref m9, .ref m10, .ref m11, .ref m12, .ref m13], ai m1 cyI 21 (f3 fh uh th), ai m2 cyI 21 (f3 fg ug tg), ai m3 cyI 21 (f3 ff uf tf), ai m4 cyI 21 (f3 fk uk tk), ai m5 cyI 3 (t3 vs us ts), ai m6 cyI 3 (t3 vb ub tb), ai m7 cyI 3 (t3 vd ud td), ai m8 cyI 3 (nF ct), ai m9 cyI 36 (q12 kd), ai m10 cyI 36 (q12 vl), ai m11 cyI 7 fr, ai m12 cyI 3 (upd (upd (upd fp 2 (-1)) 1 (nI ((k / (n + 1)) % (n + 1)))) 0 (-1)), ai m13 cyI 3 bp] H := hP
                  have hD : va_D A [ob m0 4 [.int (nI n), .int kn, .int fz, .ref m1, .ref m2, .ref m3, .ref m4, .ref m5, .ref m6, .ref m7, .ref m8, .ref m9, .ref m10, .ref m11, .ref m12, .ref m13], ai m1 cyI 21 (f3 fh uh th), ai m2 cyI 21 (f3 fg ug tg), ai m3 cyI 21 (f3 ff uf tf), ai m4 cyI 21 (f3 fk uk tk), ai m5 cyI 3 (t3 vs us ts), ai m6 cyI 3 (t3 vb ub tb), ai m7 cyI 3 (t3 vd ud td), ai m8 cyI 3 (nF ct), ai m9 cyI 36 (q12 kd), ai m10 cyI 36 (q12 vl), ai m11 cyI 7 fr, ai m12 cyI 3 (upd (upd (upd fp 2 (-1)) 1 (nI ((k / (n + 1)) % (n + 1)))) 0 (-1)), ai m13 cyI 3 bp] := hD
                  refine lv_iload_n hx hb dX4_lay_53 rfl (lv_at hl 3 rfl) ?_
                  refine lv_iload hx hb dX4_lay_54 (lv_at hl 1 rfl) ?_
                  refine lv_aload_n hx hb dX4_lay_56 rfl (lv_at hl 4 rfl) ?_
                  refine va_get (D := (dC, dI)) (ci := 4) (v := .int (nI n)) (C := RX4) (T := TX4) (N := 16) hx hb hts hin_X4 hown hK hP 0 rfl rfl 0 (by decide) hw_1 (fun _ h9 => h9) rfl dX4_lay_57 ?_
                  refine lv_icmp_ge (tgt := 67) hx hb dX4_lay_60 (by decide) (fun c_60_3 => ?_) (fun c_60_3 => ?_)
                  · ---- to 67
                    have n_60_3 := (nq_le n (((k / (n + 1)) / (n + 1)) % (n + 1)) (by omega) (by omega)).mp c_60_3
                    refine lv_iconst (v := 0) hx hb dX4_lay_67 (by decide) ?_
                    refine lv_iadd hx hb dX4_lay_68 ?_
                    refine ra_top (1) (by decide) ?_
                    refine lv_istore_n (lv' := [(3, .int 1), (2, .int (nI (((k / (n + 1)) / (n + 1)) / (n + 1)))), (5, .int (nI (((k / (n + 1)) / (n + 1)) % (n + 1)))), (4, .int 0), (0, .ref m0), (1, .int (nI k))]) hx hb dX4_lay_69 rfl hl (by decide) rfl (fun ls hl => ?_)
                    refine lv_iinc (v := -1) (lv' := [(4, .int (-1)), (3, .int 1), (2, .int (nI (((k / (n + 1)) / (n + 1)) / (n + 1)))), (5, .int (nI (((k / (n + 1)) / (n + 1)) % (n + 1)))), (0, .ref m0), (1, .int (nI k))]) hx hb dX4_lay_70 hl (k := 3) rfl (by decide) (by decide) rfl (fun ls hl => ?_)
                    refine lv_goto (tgt := 7) hx hb dX4_lay_73 (by decide) ?_
                    refine lv_iload hx hb dX4_lay_7 (lv_at hl 0 rfl) ?_
                    refine lv_if_lt (tgt := 76) hx hb dX4_lay_9 (by decide) (fun c_9_4 => ?_) (fun c_9_4 => ?_)
                    · ---- to 76
                      obtain ⟨hP, hD⟩ := ra_cong hP hD 12 (p3 (-1) (nI ((k / (n + 1)) % (n + 1))) (-1)) rfl (fun j hj => up3r _ _ _ _ j hj)
                      have e0 : ld n (md0 n k) = -1 := by unfold ld md0; first | (rw [if_pos (by omega)]; done) | (rw [if_neg (by omega)]; done)
                      have e1 : ld n (md1 n k) = nI ((k / (n + 1)) % (n + 1)) := by unfold ld md1; first | (rw [if_pos (by omega)]; done) | (rw [if_neg (by omega)]; done)
                      have e2 : ld n (md2 n k) = -1 := by unfold ld md2; first | (rw [if_pos (by omega)]; done) | (rw [if_neg (by omega)]; done)
                      have e9 : lyp n k = p3 (-1) (nI ((k / (n + 1)) % (n + 1))) (-1) := by unfold lyp; rw [e0, e1, e2]
                      rw [← e9] at hP hD
                      have hP : va_P (dC, dI) vwCl [ob m0 4 [.int (nI n), .int kn, .int fz, .ref m1, .ref m2, .ref m3, .ref m4, .ref m5, .ref m6, .ref m7, .ref m8, .ref m9, .ref m10, .ref m11, .ref m12, .ref m13], ai m1 cyI 21 (f3 fh uh th), ai m2 cyI 21 (f3 fg ug tg), ai m3 cyI 21 (f3 ff uf tf), ai m4 cyI 21 (f3 fk uk tk), ai m5 cyI 3 (t3 vs us ts), ai m6 cyI 3 (t3 vb ub tb), ai m7 cyI 3 (t3 vd ud td), ai m8 cyI 3 (nF ct), ai m9 cyI 36 (q12 kd), ai m10 cyI 36 (q12 vl), ai m11 cyI 7 fr, ai m12 cyI 3 (lyp n k), ai m13 cyI 3 bp] H := hP
                      have hD : va_D A [ob m0 4 [.int (nI n), .int kn, .int fz, .ref m1, .ref m2, .ref m3, .ref m4, .ref m5, .ref m6, .ref m7, .ref m8, .ref m9, .ref m10, .ref m11, .ref m12, .ref m13], ai m1 cyI 21 (f3 fh uh th), ai m2 cyI 21 (f3 fg ug tg), ai m3 cyI 21 (f3 ff uf tf), ai m4 cyI 21 (f3 fk uk tk), ai m5 cyI 3 (t3 vs us ts), ai m6 cyI 3 (t3 vb ub tb), ai m7 cyI 3 (t3 vd ud td), ai m8 cyI 3 (nF ct), ai m9 cyI 36 (q12 kd), ai m10 cyI 36 (q12 vl), ai m11 cyI 7 fr, ai m12 cyI 3 (lyp n k), ai m13 cyI 3 bp] := hD
                      refine lv_iload_n hx hb dX4_lay_76 rfl (lv_at hl 1 rfl) ?_
                      rw [hQ]
                      exact ra_iretW () hx hb hr hlocks rfl hK hP hD hS (by rw [show mny n k = 1 from by unfold mny one md0 md1 md2; (repeat' split) <;> omega]; rfl) dX4_lay_77
                    · ---- on
                      exact absurd c_9_4 (by decide)
                  · ---- on
                    have n_60_3 := (nq_le_n n (((k / (n + 1)) / (n + 1)) % (n + 1)) (by omega) (by omega)).mp c_60_3
                    exfalso; omega
                · ---- on
                  have n_43_3 := (nq_le_n n (((k / (n + 1)) / (n + 1)) % (n + 1)) (by omega) (by omega)).mp c_43_3
                  refine lv_iload hx hb dX4_lay_46 (lv_at hl 1 rfl) ?_
                  refine lv_goto (tgt := 52) hx hb dX4_lay_48 (by decide) ?_
                  refine ra_iast hx hb hK hP hD hS 12 rfl 0 rfl (by omega) (Nat.le_of_ble_eq_true rfl) dX4_lay_52 (fun H locs hP hD hS => ?_)
                  have hP : va_P (dC, dI) vwCl [ob m0 4 [.int (nI n), .int kn, .int fz, .ref m1, .ref m2, .ref m3, .ref m4, .ref m5, .ref m6, .ref m7, .ref m8, .ref m9, .ref m10, .ref m11, .ref m12, .ref m13], ai m1 cyI 21 (f3 fh uh th), ai m2 cyI 21 (f3 fg ug tg), ai m3 cyI 21 (f3 ff uf tf), ai m4 cyI 21 (f3 fk uk tk), ai m5 cyI 3 (t3 vs us ts), ai m6 cyI 3 (t3 vb ub tb), ai m7 cyI 3 (t3 vd ud td), ai m8 cyI 3 (nF ct), ai m9 cyI 36 (q12 kd), ai m10 cyI 36 (q12 vl), ai m11 cyI 7 fr, ai m12 cyI 3 (upd (upd (upd fp 2 (-1)) 1 (nI ((k / (n + 1)) % (n + 1)))) 0 (nI (((k / (n + 1)) / (n + 1)) % (n + 1)))), ai m13 cyI 3 bp] H := hP
                  have hD : va_D A [ob m0 4 [.int (nI n), .int kn, .int fz, .ref m1, .ref m2, .ref m3, .ref m4, .ref m5, .ref m6, .ref m7, .ref m8, .ref m9, .ref m10, .ref m11, .ref m12, .ref m13], ai m1 cyI 21 (f3 fh uh th), ai m2 cyI 21 (f3 fg ug tg), ai m3 cyI 21 (f3 ff uf tf), ai m4 cyI 21 (f3 fk uk tk), ai m5 cyI 3 (t3 vs us ts), ai m6 cyI 3 (t3 vb ub tb), ai m7 cyI 3 (t3 vd ud td), ai m8 cyI 3 (nF ct), ai m9 cyI 36 (q12 kd), ai m10 cyI 36 (q12 vl), ai m11 cyI 7 fr, ai m12 cyI 3 (upd (upd (upd fp 2 (-1)) 1 (nI ((k / (n + 1)) % (n + 1)))) 0 (nI (((k / (n + 1)) / (n + 1)) % (n + 1)))), ai m13 cyI 3 bp] := hD
                  refine lv_iload_n hx hb dX4_lay_53 rfl (lv_at hl 3 rfl) ?_
                  refine lv_iload hx hb dX4_lay_54 (lv_at hl 1 rfl) ?_
                  refine lv_aload_n hx hb dX4_lay_56 rfl (lv_at hl 4 rfl) ?_
                  refine va_get (D := (dC, dI)) (ci := 4) (v := .int (nI n)) (C := RX4) (T := TX4) (N := 16) hx hb hts hin_X4 hown hK hP 0 rfl rfl 0 (by decide) hw_1 (fun _ h9 => h9) rfl dX4_lay_57 ?_
                  refine lv_icmp_ge (tgt := 67) hx hb dX4_lay_60 (by decide) (fun c_60_3 => ?_) (fun c_60_3 => ?_)
                  · ---- to 67
                    have n_60_3 := (nq_le n (((k / (n + 1)) / (n + 1)) % (n + 1)) (by omega) (by omega)).mp c_60_3
                    exfalso; omega
                  · ---- on
                    have n_60_3 := (nq_le_n n (((k / (n + 1)) / (n + 1)) % (n + 1)) (by omega) (by omega)).mp c_60_3
                    refine lv_iconst (v := 1) hx hb dX4_lay_63 (by decide) ?_
                    refine lv_goto (tgt := 68) hx hb dX4_lay_64 (by decide) ?_
                    refine lv_iadd hx hb dX4_lay_68 ?_
                    refine ra_top (2) (by decide) ?_
                    refine lv_istore_n (lv' := [(3, .int 2), (2, .int (nI (((k / (n + 1)) / (n + 1)) / (n + 1)))), (5, .int (nI (((k / (n + 1)) / (n + 1)) % (n + 1)))), (4, .int 0), (0, .ref m0), (1, .int (nI k))]) hx hb dX4_lay_69 rfl hl (by decide) rfl (fun ls hl => ?_)
                    refine lv_iinc (v := -1) (lv' := [(4, .int (-1)), (3, .int 2), (2, .int (nI (((k / (n + 1)) / (n + 1)) / (n + 1)))), (5, .int (nI (((k / (n + 1)) / (n + 1)) % (n + 1)))), (0, .ref m0), (1, .int (nI k))]) hx hb dX4_lay_70 hl (k := 3) rfl (by decide) (by decide) rfl (fun ls hl => ?_)
                    refine lv_goto (tgt := 7) hx hb dX4_lay_73 (by decide) ?_
                    refine lv_iload hx hb dX4_lay_7 (lv_at hl 0 rfl) ?_
                    refine lv_if_lt (tgt := 76) hx hb dX4_lay_9 (by decide) (fun c_9_4 => ?_) (fun c_9_4 => ?_)
                    · ---- to 76
                      obtain ⟨hP, hD⟩ := ra_cong hP hD 12 (p3 (nI (((k / (n + 1)) / (n + 1)) % (n + 1))) (nI ((k / (n + 1)) % (n + 1))) (-1)) rfl (fun j hj => up3r _ _ _ _ j hj)
                      have e0 : ld n (md0 n k) = nI (((k / (n + 1)) / (n + 1)) % (n + 1)) := by unfold ld md0; first | (rw [if_pos (by omega)]; done) | (rw [if_neg (by omega)]; done)
                      have e1 : ld n (md1 n k) = nI ((k / (n + 1)) % (n + 1)) := by unfold ld md1; first | (rw [if_pos (by omega)]; done) | (rw [if_neg (by omega)]; done)
                      have e2 : ld n (md2 n k) = -1 := by unfold ld md2; first | (rw [if_pos (by omega)]; done) | (rw [if_neg (by omega)]; done)
                      have e9 : lyp n k = p3 (nI (((k / (n + 1)) / (n + 1)) % (n + 1))) (nI ((k / (n + 1)) % (n + 1))) (-1) := by unfold lyp; rw [e0, e1, e2]
                      rw [← e9] at hP hD
                      have hP : va_P (dC, dI) vwCl [ob m0 4 [.int (nI n), .int kn, .int fz, .ref m1, .ref m2, .ref m3, .ref m4, .ref m5, .ref m6, .ref m7, .ref m8, .ref m9, .ref m10, .ref m11, .ref m12, .ref m13], ai m1 cyI 21 (f3 fh uh th), ai m2 cyI 21 (f3 fg ug tg), ai m3 cyI 21 (f3 ff uf tf), ai m4 cyI 21 (f3 fk uk tk), ai m5 cyI 3 (t3 vs us ts), ai m6 cyI 3 (t3 vb ub tb), ai m7 cyI 3 (t3 vd ud td), ai m8 cyI 3 (nF ct), ai m9 cyI 36 (q12 kd), ai m10 cyI 36 (q12 vl), ai m11 cyI 7 fr, ai m12 cyI 3 (lyp n k), ai m13 cyI 3 bp] H := hP
                      have hD : va_D A [ob m0 4 [.int (nI n), .int kn, .int fz, .ref m1, .ref m2, .ref m3, .ref m4, .ref m5, .ref m6, .ref m7, .ref m8, .ref m9, .ref m10, .ref m11, .ref m12, .ref m13], ai m1 cyI 21 (f3 fh uh th), ai m2 cyI 21 (f3 fg ug tg), ai m3 cyI 21 (f3 ff uf tf), ai m4 cyI 21 (f3 fk uk tk), ai m5 cyI 3 (t3 vs us ts), ai m6 cyI 3 (t3 vb ub tb), ai m7 cyI 3 (t3 vd ud td), ai m8 cyI 3 (nF ct), ai m9 cyI 36 (q12 kd), ai m10 cyI 36 (q12 vl), ai m11 cyI 7 fr, ai m12 cyI 3 (lyp n k), ai m13 cyI 3 bp] := hD
                      refine lv_iload_n hx hb dX4_lay_76 rfl (lv_at hl 1 rfl) ?_
                      rw [hQ]
                      exact ra_iretW () hx hb hr hlocks rfl hK hP hD hS (by rw [show mny n k = 2 from by unfold mny one md0 md1 md2; (repeat' split) <;> omega]; rfl) dX4_lay_77
                    · ---- on
                      exact absurd c_9_4 (by decide)
      · ---- on
        have n_60 := (nq_le_n n (k % (n + 1)) (by omega) (by omega)).mp c_60
        exfalso; omega
    · ---- on
      have n_43 := (nq_le_n n (k % (n + 1)) (by omega) (by omega)).mp c_43
      refine lv_iload hx hb dX4_lay_46 (lv_at hl 1 rfl) ?_
      refine lv_goto (tgt := 52) hx hb dX4_lay_48 (by decide) ?_
      refine ra_iast hx hb hK hP hD hS 12 rfl 2 rfl (by omega) (Nat.le_of_ble_eq_true rfl) dX4_lay_52 (fun H locs hP hD hS => ?_)
      have hP : va_P (dC, dI) vwCl [ob m0 4 [.int (nI n), .int kn, .int fz, .ref m1, .ref m2, .ref m3, .ref m4, .ref m5, .ref m6, .ref m7, .ref m8, .ref m9, .ref m10, .ref m11, .ref m12, .ref m13], ai m1 cyI 21 (f3 fh uh th), ai m2 cyI 21 (f3 fg ug tg), ai m3 cyI 21 (f3 ff uf tf), ai m4 cyI 21 (f3 fk uk tk), ai m5 cyI 3 (t3 vs us ts), ai m6 cyI 3 (t3 vb ub tb), ai m7 cyI 3 (t3 vd ud td), ai m8 cyI 3 (nF ct), ai m9 cyI 36 (q12 kd), ai m10 cyI 36 (q12 vl), ai m11 cyI 7 fr, ai m12 cyI 3 (upd fp 2 (nI (k % (n + 1)))), ai m13 cyI 3 bp] H := hP
      have hD : va_D A [ob m0 4 [.int (nI n), .int kn, .int fz, .ref m1, .ref m2, .ref m3, .ref m4, .ref m5, .ref m6, .ref m7, .ref m8, .ref m9, .ref m10, .ref m11, .ref m12, .ref m13], ai m1 cyI 21 (f3 fh uh th), ai m2 cyI 21 (f3 fg ug tg), ai m3 cyI 21 (f3 ff uf tf), ai m4 cyI 21 (f3 fk uk tk), ai m5 cyI 3 (t3 vs us ts), ai m6 cyI 3 (t3 vb ub tb), ai m7 cyI 3 (t3 vd ud td), ai m8 cyI 3 (nF ct), ai m9 cyI 36 (q12 kd), ai m10 cyI 36 (q12 vl), ai m11 cyI 7 fr, ai m12 cyI 3 (upd fp 2 (nI (k % (n + 1)))), ai m13 cyI 3 bp] := hD
      refine lv_iload_n hx hb dX4_lay_53 rfl (lv_at hl 3 rfl) ?_
      refine lv_iload hx hb dX4_lay_54 (lv_at hl 1 rfl) ?_
      refine lv_aload_n hx hb dX4_lay_56 rfl (lv_at hl 4 rfl) ?_
      refine va_get (D := (dC, dI)) (ci := 4) (v := .int (nI n)) (C := RX4) (T := TX4) (N := 16) hx hb hts hin_X4 hown hK hP 0 rfl rfl 0 (by decide) hw_1 (fun _ h9 => h9) rfl dX4_lay_57 ?_
      refine lv_icmp_ge (tgt := 67) hx hb dX4_lay_60 (by decide) (fun c_60 => ?_) (fun c_60 => ?_)
      · ---- to 67
        have n_60 := (nq_le n (k % (n + 1)) (by omega) (by omega)).mp c_60
        exfalso; omega
      · ---- on
        have n_60 := (nq_le_n n (k % (n + 1)) (by omega) (by omega)).mp c_60
        refine lv_iconst (v := 1) hx hb dX4_lay_63 (by decide) ?_
        refine lv_goto (tgt := 68) hx hb dX4_lay_64 (by decide) ?_
        refine lv_iadd hx hb dX4_lay_68 ?_
        refine ra_top (1) (by decide) ?_
        refine lv_istore_n (lv' := [(3, .int 1), (2, .int (nI (k / (n + 1)))), (5, .int (nI (k % (n + 1)))), (4, .int 2), (0, .ref m0), (1, .int (nI k))]) hx hb dX4_lay_69 rfl hl (by decide) rfl (fun ls hl => ?_)
        refine lv_iinc (v := 1) (lv' := [(4, .int 1), (3, .int 1), (2, .int (nI (k / (n + 1)))), (5, .int (nI (k % (n + 1)))), (0, .ref m0), (1, .int (nI k))]) hx hb dX4_lay_70 hl (k := 3) rfl (by decide) (by decide) rfl (fun ls hl => ?_)
        refine lv_goto (tgt := 7) hx hb dX4_lay_73 (by decide) ?_
        refine lv_iload hx hb dX4_lay_7 (lv_at hl 0 rfl) ?_
        refine lv_if_lt (tgt := 76) hx hb dX4_lay_9 (by decide) (fun c_9_2 => ?_) (fun c_9_2 => ?_)
        · ---- to 76
          exact absurd c_9_2 (by decide)
        · ---- on
          refine lv_iload_n hx hb dX4_lay_12 rfl (lv_at hl 2 rfl) ?_
          refine lv_aload_n hx hb dX4_lay_13 rfl (lv_at hl 4 rfl) ?_
          refine va_get (D := (dC, dI)) (ci := 4) (v := .int (nI n)) (C := RX4) (T := TX4) (N := 16) hx hb hts hin_X4 hown hK hP 0 rfl rfl 0 (by decide) hw_1 (fun _ h9 => h9) rfl dX4_lay_14 ?_
          refine lv_iconst (v := 1) hx hb dX4_lay_17 (by decide) ?_
          refine lv_iadd hx hb dX4_lay_18 ?_
          refine ra_top (nI (n + 1)) (nI_add n 1) ?_
          refine lv_irem hx hb dX4_lay_19 (nI_ne0 (by omega) (by omega)) ?_
          refine ra_top (nI ((k / (n + 1)) % (n + 1))) (pk_rem (by omega) (by omega) (by omega)) ?_
          refine lv_istore (lv' := [(5, .int (nI ((k / (n + 1)) % (n + 1)))), (4, .int 1), (3, .int 1), (2, .int (nI (k / (n + 1)))), (0, .ref m0), (1, .int (nI k))]) hx hb dX4_lay_20 hl (by decide) rfl (fun ls hl => ?_)
          refine lv_iload_n hx hb dX4_lay_22 rfl (lv_at hl 3 rfl) ?_
          refine lv_aload_n hx hb dX4_lay_23 rfl (lv_at hl 4 rfl) ?_
          refine va_get (D := (dC, dI)) (ci := 4) (v := .int (nI n)) (C := RX4) (T := TX4) (N := 16) hx hb hts hin_X4 hown hK hP 0 rfl rfl 0 (by decide) hw_1 (fun _ h9 => h9) rfl dX4_lay_24 ?_
          refine lv_iconst (v := 1) hx hb dX4_lay_27 (by decide) ?_
          refine lv_iadd hx hb dX4_lay_28 ?_
          refine ra_top (nI (n + 1)) (nI_add n 1) ?_
          refine lv_idiv hx hb dX4_lay_29 (nI_ne0 (by omega) (by omega)) ?_
          refine ra_top (nI ((k / (n + 1)) / (n + 1))) (pk_div (by omega) (by omega) (by omega)) ?_
          refine lv_istore_n (lv' := [(2, .int (nI ((k / (n + 1)) / (n + 1)))), (5, .int (nI ((k / (n + 1)) % (n + 1)))), (4, .int 1), (3, .int 1), (0, .ref m0), (1, .int (nI k))]) hx hb dX4_lay_30 rfl hl (by decide) rfl (fun ls hl => ?_)
          refine lv_aload_n hx hb dX4_lay_31 rfl (lv_at hl 4 rfl) ?_
          refine va_get (D := (dC, dI)) (ci := 4) (v := .ref m12) (C := RX4) (T := TX4) (N := 16) hx hb hts hin_X4 hown hK hP 0 rfl rfl 14 (by decide) hw_3 (fun _ h9 => h9) rfl dX4_lay_32 ?_
          refine lv_iload hx hb dX4_lay_35 (lv_at hl 2 rfl) ?_
          refine lv_iload hx hb dX4_lay_37 (lv_at hl 1 rfl) ?_
          refine lv_aload_n hx hb dX4_lay_39 rfl (lv_at hl 4 rfl) ?_
          refine va_get (D := (dC, dI)) (ci := 4) (v := .int (nI n)) (C := RX4) (T := TX4) (N := 16) hx hb hts hin_X4 hown hK hP 0 rfl rfl 0 (by decide) hw_1 (fun _ h9 => h9) rfl dX4_lay_40 ?_
          refine lv_icmp_ge (tgt := 51) hx hb dX4_lay_43 (by decide) (fun c_43_2 => ?_) (fun c_43_2 => ?_)
          · ---- to 51
            have n_43_2 := (nq_le n ((k / (n + 1)) % (n + 1)) (by omega) (by omega)).mp c_43_2
            refine lv_iconst (v := (-1)) hx hb dX4_lay_51 (by decide) ?_
            refine ra_iast hx hb hK hP hD hS 12 rfl 1 rfl (by omega) (Nat.le_of_ble_eq_true rfl) dX4_lay_52 (fun H locs hP hD hS => ?_)
            have hP : va_P (dC, dI) vwCl [ob m0 4 [.int (nI n), .int kn, .int fz, .ref m1, .ref m2, .ref m3, .ref m4, .ref m5, .ref m6, .ref m7, .ref m8, .ref m9, .ref m10, .ref m11, .ref m12, .ref m13], ai m1 cyI 21 (f3 fh uh th), ai m2 cyI 21 (f3 fg ug tg), ai m3 cyI 21 (f3 ff uf tf), ai m4 cyI 21 (f3 fk uk tk), ai m5 cyI 3 (t3 vs us ts), ai m6 cyI 3 (t3 vb ub tb), ai m7 cyI 3 (t3 vd ud td), ai m8 cyI 3 (nF ct), ai m9 cyI 36 (q12 kd), ai m10 cyI 36 (q12 vl), ai m11 cyI 7 fr, ai m12 cyI 3 (upd (upd fp 2 (nI (k % (n + 1)))) 1 (-1)), ai m13 cyI 3 bp] H := hP
            have hD : va_D A [ob m0 4 [.int (nI n), .int kn, .int fz, .ref m1, .ref m2, .ref m3, .ref m4, .ref m5, .ref m6, .ref m7, .ref m8, .ref m9, .ref m10, .ref m11, .ref m12, .ref m13], ai m1 cyI 21 (f3 fh uh th), ai m2 cyI 21 (f3 fg ug tg), ai m3 cyI 21 (f3 ff uf tf), ai m4 cyI 21 (f3 fk uk tk), ai m5 cyI 3 (t3 vs us ts), ai m6 cyI 3 (t3 vb ub tb), ai m7 cyI 3 (t3 vd ud td), ai m8 cyI 3 (nF ct), ai m9 cyI 36 (q12 kd), ai m10 cyI 36 (q12 vl), ai m11 cyI 7 fr, ai m12 cyI 3 (upd (upd fp 2 (nI (k % (n + 1)))) 1 (-1)), ai m13 cyI 3 bp] := hD
            refine lv_iload_n hx hb dX4_lay_53 rfl (lv_at hl 3 rfl) ?_
            refine lv_iload hx hb dX4_lay_54 (lv_at hl 1 rfl) ?_
            refine lv_aload_n hx hb dX4_lay_56 rfl (lv_at hl 4 rfl) ?_
            refine va_get (D := (dC, dI)) (ci := 4) (v := .int (nI n)) (C := RX4) (T := TX4) (N := 16) hx hb hts hin_X4 hown hK hP 0 rfl rfl 0 (by decide) hw_1 (fun _ h9 => h9) rfl dX4_lay_57 ?_
            refine lv_icmp_ge (tgt := 67) hx hb dX4_lay_60 (by decide) (fun c_60_2 => ?_) (fun c_60_2 => ?_)
            · ---- to 67
              have n_60_2 := (nq_le n ((k / (n + 1)) % (n + 1)) (by omega) (by omega)).mp c_60_2
              refine lv_iconst (v := 0) hx hb dX4_lay_67 (by decide) ?_
              refine lv_iadd hx hb dX4_lay_68 ?_
              refine ra_top (1) (by decide) ?_
              refine lv_istore_n (lv' := [(3, .int 1), (2, .int (nI ((k / (n + 1)) / (n + 1)))), (5, .int (nI ((k / (n + 1)) % (n + 1)))), (4, .int 1), (0, .ref m0), (1, .int (nI k))]) hx hb dX4_lay_69 rfl hl (by decide) rfl (fun ls hl => ?_)
              refine lv_iinc (v := 0) (lv' := [(4, .int 0), (3, .int 1), (2, .int (nI ((k / (n + 1)) / (n + 1)))), (5, .int (nI ((k / (n + 1)) % (n + 1)))), (0, .ref m0), (1, .int (nI k))]) hx hb dX4_lay_70 hl (k := 3) rfl (by decide) (by decide) rfl (fun ls hl => ?_)
              refine lv_goto (tgt := 7) hx hb dX4_lay_73 (by decide) ?_
              refine lv_iload hx hb dX4_lay_7 (lv_at hl 0 rfl) ?_
              refine lv_if_lt (tgt := 76) hx hb dX4_lay_9 (by decide) (fun c_9_3 => ?_) (fun c_9_3 => ?_)
              · ---- to 76
                exact absurd c_9_3 (by decide)
              · ---- on
                refine lv_iload_n hx hb dX4_lay_12 rfl (lv_at hl 2 rfl) ?_
                refine lv_aload_n hx hb dX4_lay_13 rfl (lv_at hl 4 rfl) ?_
                refine va_get (D := (dC, dI)) (ci := 4) (v := .int (nI n)) (C := RX4) (T := TX4) (N := 16) hx hb hts hin_X4 hown hK hP 0 rfl rfl 0 (by decide) hw_1 (fun _ h9 => h9) rfl dX4_lay_14 ?_
                refine lv_iconst (v := 1) hx hb dX4_lay_17 (by decide) ?_
                refine lv_iadd hx hb dX4_lay_18 ?_
                refine ra_top (nI (n + 1)) (nI_add n 1) ?_
                refine lv_irem hx hb dX4_lay_19 (nI_ne0 (by omega) (by omega)) ?_
                refine ra_top (nI (((k / (n + 1)) / (n + 1)) % (n + 1))) (pk_rem (by omega) (by omega) (by omega)) ?_
                refine lv_istore (lv' := [(5, .int (nI (((k / (n + 1)) / (n + 1)) % (n + 1)))), (4, .int 0), (3, .int 1), (2, .int (nI ((k / (n + 1)) / (n + 1)))), (0, .ref m0), (1, .int (nI k))]) hx hb dX4_lay_20 hl (by decide) rfl (fun ls hl => ?_)
                refine lv_iload_n hx hb dX4_lay_22 rfl (lv_at hl 3 rfl) ?_
                refine lv_aload_n hx hb dX4_lay_23 rfl (lv_at hl 4 rfl) ?_
                refine va_get (D := (dC, dI)) (ci := 4) (v := .int (nI n)) (C := RX4) (T := TX4) (N := 16) hx hb hts hin_X4 hown hK hP 0 rfl rfl 0 (by decide) hw_1 (fun _ h9 => h9) rfl dX4_lay_24 ?_
                refine lv_iconst (v := 1) hx hb dX4_lay_27 (by decide) ?_
                refine lv_iadd hx hb dX4_lay_28 ?_
                refine ra_top (nI (n + 1)) (nI_add n 1) ?_
                refine lv_idiv hx hb dX4_lay_29 (nI_ne0 (by omega) (by omega)) ?_
                refine ra_top (nI (((k / (n + 1)) / (n + 1)) / (n + 1))) (pk_div (by omega) (by omega) (by omega)) ?_
                refine lv_istore_n (lv' := [(2, .int (nI (((k / (n + 1)) / (n + 1)) / (n + 1)))), (5, .int (nI (((k / (n + 1)) / (n + 1)) % (n + 1)))), (4, .int 0), (3, .int 1), (0, .ref m0), (1, .int (nI k))]) hx hb dX4_lay_30 rfl hl (by decide) rfl (fun ls hl => ?_)
                refine lv_aload_n hx hb dX4_lay_31 rfl (lv_at hl 4 rfl) ?_
                refine va_get (D := (dC, dI)) (ci := 4) (v := .ref m12) (C := RX4) (T := TX4) (N := 16) hx hb hts hin_X4 hown hK hP 0 rfl rfl 14 (by decide) hw_3 (fun _ h9 => h9) rfl dX4_lay_32 ?_
                refine lv_iload hx hb dX4_lay_35 (lv_at hl 2 rfl) ?_
                refine lv_iload hx hb dX4_lay_37 (lv_at hl 1 rfl) ?_
                refine lv_aload_n hx hb dX4_lay_39 rfl (lv_at hl 4 rfl) ?_
                refine va_get (D := (dC, dI)) (ci := 4) (v := .int (nI n)) (C := RX4) (T := TX4) (N := 16) hx hb hts hin_X4 hown hK hP 0 rfl rfl 0 (by decide) hw_1 (fun _ h9 => h9) rfl dX4_lay_40 ?_
                refine lv_icmp_ge (tgt := 51) hx hb dX4_lay_43 (by decide) (fun c_43_3 => ?_) (fun c_43_3 => ?_)
                · ---- to 51
                  have n_43_3 := (nq_le n (((k / (n + 1)) / (n + 1)) % (n + 1)) (by omega) (by omega)).mp c_43_3
                  refine lv_iconst (v := (-1)) hx hb dX4_lay_51 (by decide) ?_
                  refine ra_iast hx hb hK hP hD hS 12 rfl 0 rfl (by omega) (Nat.le_of_ble_eq_true rfl) dX4_lay_52 (fun H locs hP hD hS => ?_)
                  have hP : va_P (dC, dI) vwCl [ob m0 4 [.int (nI n), .int kn, .int fz, .ref m1, .ref m2, .ref m3, .ref m4, .ref m5, .ref m6, .ref m7, .ref m8, .ref m9, .ref m10, .ref m11, .ref m12, .ref m13], ai m1 cyI 21 (f3 fh uh th), ai m2 cyI 21 (f3 fg ug tg), ai m3 cyI 21 (f3 ff uf tf), ai m4 cyI 21 (f3 fk uk tk), ai m5 cyI 3 (t3 vs us ts), ai m6 cyI 3 (t3 vb ub tb), ai m7 cyI 3 (t3 vd ud td), ai m8 cyI 3 (nF ct), ai m9 cyI 36 (q12 kd), ai m10 cyI 36 (q12 vl), ai m11 cyI 7 fr, ai m12 cyI 3 (upd (upd (upd fp 2 (nI (k % (n + 1)))) 1 (-1)) 0 (-1)), ai m13 cyI 3 bp] H := hP
                  have hD : va_D A [ob m0 4 [.int (nI n), .int kn, .int fz, .ref m1, .ref m2, .ref m3, .ref m4, .ref m5, .ref m6, .ref m7, .ref m8, .ref m9, .ref m10, .ref m11, .ref m12, .ref m13], ai m1 cyI 21 (f3 fh uh th), ai m2 cyI 21 (f3 fg ug tg), ai m3 cyI 21 (f3 ff uf tf), ai m4 cyI 21 (f3 fk uk tk), ai m5 cyI 3 (t3 vs us ts), ai m6 cyI 3 (t3 vb ub tb), ai m7 cyI 3 (t3 vd ud td), ai m8 cyI 3 (nF ct), ai m9 cyI 36 (q12 kd), ai m10 cyI 36 (q12 vl), ai m11 cyI 7 fr, ai m12 cyI 3 (upd (upd (upd fp 2 (nI (k % (n + 1)))) 1 (-1)) 0 (-1)), ai m13 cyI 3 bp] := hD
                  refine lv_iload_n hx hb dX4_lay_53 rfl (lv_at hl 3 rfl) ?_
                  refine lv_iload hx hb dX4_lay_54 (lv_at hl 1 rfl) ?_
                  refine lv_aload_n hx hb dX4_lay_56 rfl (lv_at hl 4 rfl) ?_
                  refine va_get (D := (dC, dI)) (ci := 4) (v := .int (nI n)) (C := RX4) (T := TX4) (N := 16) hx hb hts hin_X4 hown hK hP 0 rfl rfl 0 (by decide) hw_1 (fun _ h9 => h9) rfl dX4_lay_57 ?_
                  refine lv_icmp_ge (tgt := 67) hx hb dX4_lay_60 (by decide) (fun c_60_3 => ?_) (fun c_60_3 => ?_)
                  · ---- to 67
                    have n_60_3 := (nq_le n (((k / (n + 1)) / (n + 1)) % (n + 1)) (by omega) (by omega)).mp c_60_3
                    refine lv_iconst (v := 0) hx hb dX4_lay_67 (by decide) ?_
                    refine lv_iadd hx hb dX4_lay_68 ?_
                    refine ra_top (1) (by decide) ?_
                    refine lv_istore_n (lv' := [(3, .int 1), (2, .int (nI (((k / (n + 1)) / (n + 1)) / (n + 1)))), (5, .int (nI (((k / (n + 1)) / (n + 1)) % (n + 1)))), (4, .int 0), (0, .ref m0), (1, .int (nI k))]) hx hb dX4_lay_69 rfl hl (by decide) rfl (fun ls hl => ?_)
                    refine lv_iinc (v := -1) (lv' := [(4, .int (-1)), (3, .int 1), (2, .int (nI (((k / (n + 1)) / (n + 1)) / (n + 1)))), (5, .int (nI (((k / (n + 1)) / (n + 1)) % (n + 1)))), (0, .ref m0), (1, .int (nI k))]) hx hb dX4_lay_70 hl (k := 3) rfl (by decide) (by decide) rfl (fun ls hl => ?_)
                    refine lv_goto (tgt := 7) hx hb dX4_lay_73 (by decide) ?_
                    refine lv_iload hx hb dX4_lay_7 (lv_at hl 0 rfl) ?_
                    refine lv_if_lt (tgt := 76) hx hb dX4_lay_9 (by decide) (fun c_9_4 => ?_) (fun c_9_4 => ?_)
                    · ---- to 76
                      obtain ⟨hP, hD⟩ := ra_cong hP hD 12 (p3 (-1) (-1) (nI (k % (n + 1)))) rfl (fun j hj => up3r _ _ _ _ j hj)
                      have e0 : ld n (md0 n k) = -1 := by unfold ld md0; first | (rw [if_pos (by omega)]; done) | (rw [if_neg (by omega)]; done)
                      have e1 : ld n (md1 n k) = -1 := by unfold ld md1; first | (rw [if_pos (by omega)]; done) | (rw [if_neg (by omega)]; done)
                      have e2 : ld n (md2 n k) = nI (k % (n + 1)) := by unfold ld md2; first | (rw [if_pos (by omega)]; done) | (rw [if_neg (by omega)]; done)
                      have e9 : lyp n k = p3 (-1) (-1) (nI (k % (n + 1))) := by unfold lyp; rw [e0, e1, e2]
                      rw [← e9] at hP hD
                      have hP : va_P (dC, dI) vwCl [ob m0 4 [.int (nI n), .int kn, .int fz, .ref m1, .ref m2, .ref m3, .ref m4, .ref m5, .ref m6, .ref m7, .ref m8, .ref m9, .ref m10, .ref m11, .ref m12, .ref m13], ai m1 cyI 21 (f3 fh uh th), ai m2 cyI 21 (f3 fg ug tg), ai m3 cyI 21 (f3 ff uf tf), ai m4 cyI 21 (f3 fk uk tk), ai m5 cyI 3 (t3 vs us ts), ai m6 cyI 3 (t3 vb ub tb), ai m7 cyI 3 (t3 vd ud td), ai m8 cyI 3 (nF ct), ai m9 cyI 36 (q12 kd), ai m10 cyI 36 (q12 vl), ai m11 cyI 7 fr, ai m12 cyI 3 (lyp n k), ai m13 cyI 3 bp] H := hP
                      have hD : va_D A [ob m0 4 [.int (nI n), .int kn, .int fz, .ref m1, .ref m2, .ref m3, .ref m4, .ref m5, .ref m6, .ref m7, .ref m8, .ref m9, .ref m10, .ref m11, .ref m12, .ref m13], ai m1 cyI 21 (f3 fh uh th), ai m2 cyI 21 (f3 fg ug tg), ai m3 cyI 21 (f3 ff uf tf), ai m4 cyI 21 (f3 fk uk tk), ai m5 cyI 3 (t3 vs us ts), ai m6 cyI 3 (t3 vb ub tb), ai m7 cyI 3 (t3 vd ud td), ai m8 cyI 3 (nF ct), ai m9 cyI 36 (q12 kd), ai m10 cyI 36 (q12 vl), ai m11 cyI 7 fr, ai m12 cyI 3 (lyp n k), ai m13 cyI 3 bp] := hD
                      refine lv_iload_n hx hb dX4_lay_76 rfl (lv_at hl 1 rfl) ?_
                      rw [hQ]
                      exact ra_iretW () hx hb hr hlocks rfl hK hP hD hS (by rw [show mny n k = 1 from by unfold mny one md0 md1 md2; (repeat' split) <;> omega]; rfl) dX4_lay_77
                    · ---- on
                      exact absurd c_9_4 (by decide)
                  · ---- on
                    have n_60_3 := (nq_le_n n (((k / (n + 1)) / (n + 1)) % (n + 1)) (by omega) (by omega)).mp c_60_3
                    exfalso; omega
                · ---- on
                  have n_43_3 := (nq_le_n n (((k / (n + 1)) / (n + 1)) % (n + 1)) (by omega) (by omega)).mp c_43_3
                  refine lv_iload hx hb dX4_lay_46 (lv_at hl 1 rfl) ?_
                  refine lv_goto (tgt := 52) hx hb dX4_lay_48 (by decide) ?_
                  refine ra_iast hx hb hK hP hD hS 12 rfl 0 rfl (by omega) (Nat.le_of_ble_eq_true rfl) dX4_lay_52 (fun H locs hP hD hS => ?_)
                  have hP : va_P (dC, dI) vwCl [ob m0 4 [.int (nI n), .int kn, .int fz, .ref m1, .ref m2, .ref m3, .ref m4, .ref m5, .ref m6, .ref m7, .ref m8, .ref m9, .ref m10, .ref m11, .ref m12, .ref m13], ai m1 cyI 21 (f3 fh uh th), ai m2 cyI 21 (f3 fg ug tg), ai m3 cyI 21 (f3 ff uf tf), ai m4 cyI 21 (f3 fk uk tk), ai m5 cyI 3 (t3 vs us ts), ai m6 cyI 3 (t3 vb ub tb), ai m7 cyI 3 (t3 vd ud td), ai m8 cyI 3 (nF ct), ai m9 cyI 36 (q12 kd), ai m10 cyI 36 (q12 vl), ai m11 cyI 7 fr, ai m12 cyI 3 (upd (upd (upd fp 2 (nI (k % (n + 1)))) 1 (-1)) 0 (nI (((k / (n + 1)) / (n + 1)) % (n + 1)))), ai m13 cyI 3 bp] H := hP
                  have hD : va_D A [ob m0 4 [.int (nI n), .int kn, .int fz, .ref m1, .ref m2, .ref m3, .ref m4, .ref m5, .ref m6, .ref m7, .ref m8, .ref m9, .ref m10, .ref m11, .ref m12, .ref m13], ai m1 cyI 21 (f3 fh uh th), ai m2 cyI 21 (f3 fg ug tg), ai m3 cyI 21 (f3 ff uf tf), ai m4 cyI 21 (f3 fk uk tk), ai m5 cyI 3 (t3 vs us ts), ai m6 cyI 3 (t3 vb ub tb), ai m7 cyI 3 (t3 vd ud td), ai m8 cyI 3 (nF ct), ai m9 cyI 36 (q12 kd), ai m10 cyI 36 (q12 vl), ai m11 cyI 7 fr, ai m12 cyI 3 (upd (upd (upd fp 2 (nI (k % (n + 1)))) 1 (-1)) 0 (nI (((k / (n + 1)) / (n + 1)) % (n + 1)))), ai m13 cyI 3 bp] := hD
                  refine lv_iload_n hx hb dX4_lay_53 rfl (lv_at hl 3 rfl) ?_
                  refine lv_iload hx hb dX4_lay_54 (lv_at hl 1 rfl) ?_
                  refine lv_aload_n hx hb dX4_lay_56 rfl (lv_at hl 4 rfl) ?_
                  refine va_get (D := (dC, dI)) (ci := 4) (v := .int (nI n)) (C := RX4) (T := TX4) (N := 16) hx hb hts hin_X4 hown hK hP 0 rfl rfl 0 (by decide) hw_1 (fun _ h9 => h9) rfl dX4_lay_57 ?_
                  refine lv_icmp_ge (tgt := 67) hx hb dX4_lay_60 (by decide) (fun c_60_3 => ?_) (fun c_60_3 => ?_)
                  · ---- to 67
                    have n_60_3 := (nq_le n (((k / (n + 1)) / (n + 1)) % (n + 1)) (by omega) (by omega)).mp c_60_3
                    exfalso; omega
                  · ---- on
                    have n_60_3 := (nq_le_n n (((k / (n + 1)) / (n + 1)) % (n + 1)) (by omega) (by omega)).mp c_60_3
                    refine lv_iconst (v := 1) hx hb dX4_lay_63 (by decide) ?_
                    refine lv_goto (tgt := 68) hx hb dX4_lay_64 (by decide) ?_
                    refine lv_iadd hx hb dX4_lay_68 ?_
                    refine ra_top (2) (by decide) ?_
                    refine lv_istore_n (lv' := [(3, .int 2), (2, .int (nI (((k / (n + 1)) / (n + 1)) / (n + 1)))), (5, .int (nI (((k / (n + 1)) / (n + 1)) % (n + 1)))), (4, .int 0), (0, .ref m0), (1, .int (nI k))]) hx hb dX4_lay_69 rfl hl (by decide) rfl (fun ls hl => ?_)
                    refine lv_iinc (v := -1) (lv' := [(4, .int (-1)), (3, .int 2), (2, .int (nI (((k / (n + 1)) / (n + 1)) / (n + 1)))), (5, .int (nI (((k / (n + 1)) / (n + 1)) % (n + 1)))), (0, .ref m0), (1, .int (nI k))]) hx hb dX4_lay_70 hl (k := 3) rfl (by decide) (by decide) rfl (fun ls hl => ?_)
                    refine lv_goto (tgt := 7) hx hb dX4_lay_73 (by decide) ?_
                    refine lv_iload hx hb dX4_lay_7 (lv_at hl 0 rfl) ?_
                    refine lv_if_lt (tgt := 76) hx hb dX4_lay_9 (by decide) (fun c_9_4 => ?_) (fun c_9_4 => ?_)
                    · ---- to 76
                      obtain ⟨hP, hD⟩ := ra_cong hP hD 12 (p3 (nI (((k / (n + 1)) / (n + 1)) % (n + 1))) (-1) (nI (k % (n + 1)))) rfl (fun j hj => up3r _ _ _ _ j hj)
                      have e0 : ld n (md0 n k) = nI (((k / (n + 1)) / (n + 1)) % (n + 1)) := by unfold ld md0; first | (rw [if_pos (by omega)]; done) | (rw [if_neg (by omega)]; done)
                      have e1 : ld n (md1 n k) = -1 := by unfold ld md1; first | (rw [if_pos (by omega)]; done) | (rw [if_neg (by omega)]; done)
                      have e2 : ld n (md2 n k) = nI (k % (n + 1)) := by unfold ld md2; first | (rw [if_pos (by omega)]; done) | (rw [if_neg (by omega)]; done)
                      have e9 : lyp n k = p3 (nI (((k / (n + 1)) / (n + 1)) % (n + 1))) (-1) (nI (k % (n + 1))) := by unfold lyp; rw [e0, e1, e2]
                      rw [← e9] at hP hD
                      have hP : va_P (dC, dI) vwCl [ob m0 4 [.int (nI n), .int kn, .int fz, .ref m1, .ref m2, .ref m3, .ref m4, .ref m5, .ref m6, .ref m7, .ref m8, .ref m9, .ref m10, .ref m11, .ref m12, .ref m13], ai m1 cyI 21 (f3 fh uh th), ai m2 cyI 21 (f3 fg ug tg), ai m3 cyI 21 (f3 ff uf tf), ai m4 cyI 21 (f3 fk uk tk), ai m5 cyI 3 (t3 vs us ts), ai m6 cyI 3 (t3 vb ub tb), ai m7 cyI 3 (t3 vd ud td), ai m8 cyI 3 (nF ct), ai m9 cyI 36 (q12 kd), ai m10 cyI 36 (q12 vl), ai m11 cyI 7 fr, ai m12 cyI 3 (lyp n k), ai m13 cyI 3 bp] H := hP
                      have hD : va_D A [ob m0 4 [.int (nI n), .int kn, .int fz, .ref m1, .ref m2, .ref m3, .ref m4, .ref m5, .ref m6, .ref m7, .ref m8, .ref m9, .ref m10, .ref m11, .ref m12, .ref m13], ai m1 cyI 21 (f3 fh uh th), ai m2 cyI 21 (f3 fg ug tg), ai m3 cyI 21 (f3 ff uf tf), ai m4 cyI 21 (f3 fk uk tk), ai m5 cyI 3 (t3 vs us ts), ai m6 cyI 3 (t3 vb ub tb), ai m7 cyI 3 (t3 vd ud td), ai m8 cyI 3 (nF ct), ai m9 cyI 36 (q12 kd), ai m10 cyI 36 (q12 vl), ai m11 cyI 7 fr, ai m12 cyI 3 (lyp n k), ai m13 cyI 3 bp] := hD
                      refine lv_iload_n hx hb dX4_lay_76 rfl (lv_at hl 1 rfl) ?_
                      rw [hQ]
                      exact ra_iretW () hx hb hr hlocks rfl hK hP hD hS (by rw [show mny n k = 2 from by unfold mny one md0 md1 md2; (repeat' split) <;> omega]; rfl) dX4_lay_77
                    · ---- on
                      exact absurd c_9_4 (by decide)
            · ---- on
              have n_60_2 := (nq_le_n n ((k / (n + 1)) % (n + 1)) (by omega) (by omega)).mp c_60_2
              exfalso; omega
          · ---- on
            have n_43_2 := (nq_le_n n ((k / (n + 1)) % (n + 1)) (by omega) (by omega)).mp c_43_2
            refine lv_iload hx hb dX4_lay_46 (lv_at hl 1 rfl) ?_
            refine lv_goto (tgt := 52) hx hb dX4_lay_48 (by decide) ?_
            refine ra_iast hx hb hK hP hD hS 12 rfl 1 rfl (by omega) (Nat.le_of_ble_eq_true rfl) dX4_lay_52 (fun H locs hP hD hS => ?_)
            have hP : va_P (dC, dI) vwCl [ob m0 4 [.int (nI n), .int kn, .int fz, .ref m1, .ref m2, .ref m3, .ref m4, .ref m5, .ref m6, .ref m7, .ref m8, .ref m9, .ref m10, .ref m11, .ref m12, .ref m13], ai m1 cyI 21 (f3 fh uh th), ai m2 cyI 21 (f3 fg ug tg), ai m3 cyI 21 (f3 ff uf tf), ai m4 cyI 21 (f3 fk uk tk), ai m5 cyI 3 (t3 vs us ts), ai m6 cyI 3 (t3 vb ub tb), ai m7 cyI 3 (t3 vd ud td), ai m8 cyI 3 (nF ct), ai m9 cyI 36 (q12 kd), ai m10 cyI 36 (q12 vl), ai m11 cyI 7 fr, ai m12 cyI 3 (upd (upd fp 2 (nI (k % (n + 1)))) 1 (nI ((k / (n + 1)) % (n + 1)))), ai m13 cyI 3 bp] H := hP
            have hD : va_D A [ob m0 4 [.int (nI n), .int kn, .int fz, .ref m1, .ref m2, .ref m3, .ref m4, .ref m5, .ref m6, .ref m7, .ref m8, .ref m9, .ref m10, .ref m11, .ref m12, .ref m13], ai m1 cyI 21 (f3 fh uh th), ai m2 cyI 21 (f3 fg ug tg), ai m3 cyI 21 (f3 ff uf tf), ai m4 cyI 21 (f3 fk uk tk), ai m5 cyI 3 (t3 vs us ts), ai m6 cyI 3 (t3 vb ub tb), ai m7 cyI 3 (t3 vd ud td), ai m8 cyI 3 (nF ct), ai m9 cyI 36 (q12 kd), ai m10 cyI 36 (q12 vl), ai m11 cyI 7 fr, ai m12 cyI 3 (upd (upd fp 2 (nI (k % (n + 1)))) 1 (nI ((k / (n + 1)) % (n + 1)))), ai m13 cyI 3 bp] := hD
            refine lv_iload_n hx hb dX4_lay_53 rfl (lv_at hl 3 rfl) ?_
            refine lv_iload hx hb dX4_lay_54 (lv_at hl 1 rfl) ?_
            refine lv_aload_n hx hb dX4_lay_56 rfl (lv_at hl 4 rfl) ?_
            refine va_get (D := (dC, dI)) (ci := 4) (v := .int (nI n)) (C := RX4) (T := TX4) (N := 16) hx hb hts hin_X4 hown hK hP 0 rfl rfl 0 (by decide) hw_1 (fun _ h9 => h9) rfl dX4_lay_57 ?_
            refine lv_icmp_ge (tgt := 67) hx hb dX4_lay_60 (by decide) (fun c_60_2 => ?_) (fun c_60_2 => ?_)
            · ---- to 67
              have n_60_2 := (nq_le n ((k / (n + 1)) % (n + 1)) (by omega) (by omega)).mp c_60_2
              exfalso; omega
            · ---- on
              have n_60_2 := (nq_le_n n ((k / (n + 1)) % (n + 1)) (by omega) (by omega)).mp c_60_2
              refine lv_iconst (v := 1) hx hb dX4_lay_63 (by decide) ?_
              refine lv_goto (tgt := 68) hx hb dX4_lay_64 (by decide) ?_
              refine lv_iadd hx hb dX4_lay_68 ?_
              refine ra_top (2) (by decide) ?_
              refine lv_istore_n (lv' := [(3, .int 2), (2, .int (nI ((k / (n + 1)) / (n + 1)))), (5, .int (nI ((k / (n + 1)) % (n + 1)))), (4, .int 1), (0, .ref m0), (1, .int (nI k))]) hx hb dX4_lay_69 rfl hl (by decide) rfl (fun ls hl => ?_)
              refine lv_iinc (v := 0) (lv' := [(4, .int 0), (3, .int 2), (2, .int (nI ((k / (n + 1)) / (n + 1)))), (5, .int (nI ((k / (n + 1)) % (n + 1)))), (0, .ref m0), (1, .int (nI k))]) hx hb dX4_lay_70 hl (k := 3) rfl (by decide) (by decide) rfl (fun ls hl => ?_)
              refine lv_goto (tgt := 7) hx hb dX4_lay_73 (by decide) ?_
              refine lv_iload hx hb dX4_lay_7 (lv_at hl 0 rfl) ?_
              refine lv_if_lt (tgt := 76) hx hb dX4_lay_9 (by decide) (fun c_9_3 => ?_) (fun c_9_3 => ?_)
              · ---- to 76
                exact absurd c_9_3 (by decide)
              · ---- on
                refine lv_iload_n hx hb dX4_lay_12 rfl (lv_at hl 2 rfl) ?_
                refine lv_aload_n hx hb dX4_lay_13 rfl (lv_at hl 4 rfl) ?_
                refine va_get (D := (dC, dI)) (ci := 4) (v := .int (nI n)) (C := RX4) (T := TX4) (N := 16) hx hb hts hin_X4 hown hK hP 0 rfl rfl 0 (by decide) hw_1 (fun _ h9 => h9) rfl dX4_lay_14 ?_
                refine lv_iconst (v := 1) hx hb dX4_lay_17 (by decide) ?_
                refine lv_iadd hx hb dX4_lay_18 ?_
                refine ra_top (nI (n + 1)) (nI_add n 1) ?_
                refine lv_irem hx hb dX4_lay_19 (nI_ne0 (by omega) (by omega)) ?_
                refine ra_top (nI (((k / (n + 1)) / (n + 1)) % (n + 1))) (pk_rem (by omega) (by omega) (by omega)) ?_
                refine lv_istore (lv' := [(5, .int (nI (((k / (n + 1)) / (n + 1)) % (n + 1)))), (4, .int 0), (3, .int 2), (2, .int (nI ((k / (n + 1)) / (n + 1)))), (0, .ref m0), (1, .int (nI k))]) hx hb dX4_lay_20 hl (by decide) rfl (fun ls hl => ?_)
                refine lv_iload_n hx hb dX4_lay_22 rfl (lv_at hl 3 rfl) ?_
                refine lv_aload_n hx hb dX4_lay_23 rfl (lv_at hl 4 rfl) ?_
                refine va_get (D := (dC, dI)) (ci := 4) (v := .int (nI n)) (C := RX4) (T := TX4) (N := 16) hx hb hts hin_X4 hown hK hP 0 rfl rfl 0 (by decide) hw_1 (fun _ h9 => h9) rfl dX4_lay_24 ?_
                refine lv_iconst (v := 1) hx hb dX4_lay_27 (by decide) ?_
                refine lv_iadd hx hb dX4_lay_28 ?_
                refine ra_top (nI (n + 1)) (nI_add n 1) ?_
                refine lv_idiv hx hb dX4_lay_29 (nI_ne0 (by omega) (by omega)) ?_
                refine ra_top (nI (((k / (n + 1)) / (n + 1)) / (n + 1))) (pk_div (by omega) (by omega) (by omega)) ?_
                refine lv_istore_n (lv' := [(2, .int (nI (((k / (n + 1)) / (n + 1)) / (n + 1)))), (5, .int (nI (((k / (n + 1)) / (n + 1)) % (n + 1)))), (4, .int 0), (3, .int 2), (0, .ref m0), (1, .int (nI k))]) hx hb dX4_lay_30 rfl hl (by decide) rfl (fun ls hl => ?_)
                refine lv_aload_n hx hb dX4_lay_31 rfl (lv_at hl 4 rfl) ?_
                refine va_get (D := (dC, dI)) (ci := 4) (v := .ref m12) (C := RX4) (T := TX4) (N := 16) hx hb hts hin_X4 hown hK hP 0 rfl rfl 14 (by decide) hw_3 (fun _ h9 => h9) rfl dX4_lay_32 ?_
                refine lv_iload hx hb dX4_lay_35 (lv_at hl 2 rfl) ?_
                refine lv_iload hx hb dX4_lay_37 (lv_at hl 1 rfl) ?_
                refine lv_aload_n hx hb dX4_lay_39 rfl (lv_at hl 4 rfl) ?_
                refine va_get (D := (dC, dI)) (ci := 4) (v := .int (nI n)) (C := RX4) (T := TX4) (N := 16) hx hb hts hin_X4 hown hK hP 0 rfl rfl 0 (by decide) hw_1 (fun _ h9 => h9) rfl dX4_lay_40 ?_
                refine lv_icmp_ge (tgt := 51) hx hb dX4_lay_43 (by decide) (fun c_43_3 => ?_) (fun c_43_3 => ?_)
                · ---- to 51
                  have n_43_3 := (nq_le n (((k / (n + 1)) / (n + 1)) % (n + 1)) (by omega) (by omega)).mp c_43_3
                  refine lv_iconst (v := (-1)) hx hb dX4_lay_51 (by decide) ?_
                  refine ra_iast hx hb hK hP hD hS 12 rfl 0 rfl (by omega) (Nat.le_of_ble_eq_true rfl) dX4_lay_52 (fun H locs hP hD hS => ?_)
                  have hP : va_P (dC, dI) vwCl [ob m0 4 [.int (nI n), .int kn, .int fz, .ref m1, .ref m2, .ref m3, .ref m4, .ref m5, .ref m6, .ref m7, .ref m8, .ref m9, .ref m10, .ref m11, .ref m12, .ref m13], ai m1 cyI 21 (f3 fh uh th), ai m2 cyI 21 (f3 fg ug tg), ai m3 cyI 21 (f3 ff uf tf), ai m4 cyI 21 (f3 fk uk tk), ai m5 cyI 3 (t3 vs us ts), ai m6 cyI 3 (t3 vb ub tb), ai m7 cyI 3 (t3 vd ud td), ai m8 cyI 3 (nF ct), ai m9 cyI 36 (q12 kd), ai m10 cyI 36 (q12 vl), ai m11 cyI 7 fr, ai m12 cyI 3 (upd (upd (upd fp 2 (nI (k % (n + 1)))) 1 (nI ((k / (n + 1)) % (n + 1)))) 0 (-1)), ai m13 cyI 3 bp] H := hP
                  have hD : va_D A [ob m0 4 [.int (nI n), .int kn, .int fz, .ref m1, .ref m2, .ref m3, .ref m4, .ref m5, .ref m6, .ref m7, .ref m8, .ref m9, .ref m10, .ref m11, .ref m12, .ref m13], ai m1 cyI 21 (f3 fh uh th), ai m2 cyI 21 (f3 fg ug tg), ai m3 cyI 21 (f3 ff uf tf), ai m4 cyI 21 (f3 fk uk tk), ai m5 cyI 3 (t3 vs us ts), ai m6 cyI 3 (t3 vb ub tb), ai m7 cyI 3 (t3 vd ud td), ai m8 cyI 3 (nF ct), ai m9 cyI 36 (q12 kd), ai m10 cyI 36 (q12 vl), ai m11 cyI 7 fr, ai m12 cyI 3 (upd (upd (upd fp 2 (nI (k % (n + 1)))) 1 (nI ((k / (n + 1)) % (n + 1)))) 0 (-1)), ai m13 cyI 3 bp] := hD
                  refine lv_iload_n hx hb dX4_lay_53 rfl (lv_at hl 3 rfl) ?_
                  refine lv_iload hx hb dX4_lay_54 (lv_at hl 1 rfl) ?_
                  refine lv_aload_n hx hb dX4_lay_56 rfl (lv_at hl 4 rfl) ?_
                  refine va_get (D := (dC, dI)) (ci := 4) (v := .int (nI n)) (C := RX4) (T := TX4) (N := 16) hx hb hts hin_X4 hown hK hP 0 rfl rfl 0 (by decide) hw_1 (fun _ h9 => h9) rfl dX4_lay_57 ?_
                  refine lv_icmp_ge (tgt := 67) hx hb dX4_lay_60 (by decide) (fun c_60_3 => ?_) (fun c_60_3 => ?_)
                  · ---- to 67
                    have n_60_3 := (nq_le n (((k / (n + 1)) / (n + 1)) % (n + 1)) (by omega) (by omega)).mp c_60_3
                    refine lv_iconst (v := 0) hx hb dX4_lay_67 (by decide) ?_
                    refine lv_iadd hx hb dX4_lay_68 ?_
                    refine ra_top (2) (by decide) ?_
                    refine lv_istore_n (lv' := [(3, .int 2), (2, .int (nI (((k / (n + 1)) / (n + 1)) / (n + 1)))), (5, .int (nI (((k / (n + 1)) / (n + 1)) % (n + 1)))), (4, .int 0), (0, .ref m0), (1, .int (nI k))]) hx hb dX4_lay_69 rfl hl (by decide) rfl (fun ls hl => ?_)
                    refine lv_iinc (v := -1) (lv' := [(4, .int (-1)), (3, .int 2), (2, .int (nI (((k / (n + 1)) / (n + 1)) / (n + 1)))), (5, .int (nI (((k / (n + 1)) / (n + 1)) % (n + 1)))), (0, .ref m0), (1, .int (nI k))]) hx hb dX4_lay_70 hl (k := 3) rfl (by decide) (by decide) rfl (fun ls hl => ?_)
                    refine lv_goto (tgt := 7) hx hb dX4_lay_73 (by decide) ?_
                    refine lv_iload hx hb dX4_lay_7 (lv_at hl 0 rfl) ?_
                    refine lv_if_lt (tgt := 76) hx hb dX4_lay_9 (by decide) (fun c_9_4 => ?_) (fun c_9_4 => ?_)
                    · ---- to 76
                      obtain ⟨hP, hD⟩ := ra_cong hP hD 12 (p3 (-1) (nI ((k / (n + 1)) % (n + 1))) (nI (k % (n + 1)))) rfl (fun j hj => up3r _ _ _ _ j hj)
                      have e0 : ld n (md0 n k) = -1 := by unfold ld md0; first | (rw [if_pos (by omega)]; done) | (rw [if_neg (by omega)]; done)
                      have e1 : ld n (md1 n k) = nI ((k / (n + 1)) % (n + 1)) := by unfold ld md1; first | (rw [if_pos (by omega)]; done) | (rw [if_neg (by omega)]; done)
                      have e2 : ld n (md2 n k) = nI (k % (n + 1)) := by unfold ld md2; first | (rw [if_pos (by omega)]; done) | (rw [if_neg (by omega)]; done)
                      have e9 : lyp n k = p3 (-1) (nI ((k / (n + 1)) % (n + 1))) (nI (k % (n + 1))) := by unfold lyp; rw [e0, e1, e2]
                      rw [← e9] at hP hD
                      have hP : va_P (dC, dI) vwCl [ob m0 4 [.int (nI n), .int kn, .int fz, .ref m1, .ref m2, .ref m3, .ref m4, .ref m5, .ref m6, .ref m7, .ref m8, .ref m9, .ref m10, .ref m11, .ref m12, .ref m13], ai m1 cyI 21 (f3 fh uh th), ai m2 cyI 21 (f3 fg ug tg), ai m3 cyI 21 (f3 ff uf tf), ai m4 cyI 21 (f3 fk uk tk), ai m5 cyI 3 (t3 vs us ts), ai m6 cyI 3 (t3 vb ub tb), ai m7 cyI 3 (t3 vd ud td), ai m8 cyI 3 (nF ct), ai m9 cyI 36 (q12 kd), ai m10 cyI 36 (q12 vl), ai m11 cyI 7 fr, ai m12 cyI 3 (lyp n k), ai m13 cyI 3 bp] H := hP
                      have hD : va_D A [ob m0 4 [.int (nI n), .int kn, .int fz, .ref m1, .ref m2, .ref m3, .ref m4, .ref m5, .ref m6, .ref m7, .ref m8, .ref m9, .ref m10, .ref m11, .ref m12, .ref m13], ai m1 cyI 21 (f3 fh uh th), ai m2 cyI 21 (f3 fg ug tg), ai m3 cyI 21 (f3 ff uf tf), ai m4 cyI 21 (f3 fk uk tk), ai m5 cyI 3 (t3 vs us ts), ai m6 cyI 3 (t3 vb ub tb), ai m7 cyI 3 (t3 vd ud td), ai m8 cyI 3 (nF ct), ai m9 cyI 36 (q12 kd), ai m10 cyI 36 (q12 vl), ai m11 cyI 7 fr, ai m12 cyI 3 (lyp n k), ai m13 cyI 3 bp] := hD
                      refine lv_iload_n hx hb dX4_lay_76 rfl (lv_at hl 1 rfl) ?_
                      rw [hQ]
                      exact ra_iretW () hx hb hr hlocks rfl hK hP hD hS (by rw [show mny n k = 2 from by unfold mny one md0 md1 md2; (repeat' split) <;> omega]; rfl) dX4_lay_77
                    · ---- on
                      exact absurd c_9_4 (by decide)
                  · ---- on
                    have n_60_3 := (nq_le_n n (((k / (n + 1)) / (n + 1)) % (n + 1)) (by omega) (by omega)).mp c_60_3
                    exfalso; omega
                · ---- on
                  have n_43_3 := (nq_le_n n (((k / (n + 1)) / (n + 1)) % (n + 1)) (by omega) (by omega)).mp c_43_3
                  refine lv_iload hx hb dX4_lay_46 (lv_at hl 1 rfl) ?_
                  refine lv_goto (tgt := 52) hx hb dX4_lay_48 (by decide) ?_
                  refine ra_iast hx hb hK hP hD hS 12 rfl 0 rfl (by omega) (Nat.le_of_ble_eq_true rfl) dX4_lay_52 (fun H locs hP hD hS => ?_)
                  have hP : va_P (dC, dI) vwCl [ob m0 4 [.int (nI n), .int kn, .int fz, .ref m1, .ref m2, .ref m3, .ref m4, .ref m5, .ref m6, .ref m7, .ref m8, .ref m9, .ref m10, .ref m11, .ref m12, .ref m13], ai m1 cyI 21 (f3 fh uh th), ai m2 cyI 21 (f3 fg ug tg), ai m3 cyI 21 (f3 ff uf tf), ai m4 cyI 21 (f3 fk uk tk), ai m5 cyI 3 (t3 vs us ts), ai m6 cyI 3 (t3 vb ub tb), ai m7 cyI 3 (t3 vd ud td), ai m8 cyI 3 (nF ct), ai m9 cyI 36 (q12 kd), ai m10 cyI 36 (q12 vl), ai m11 cyI 7 fr, ai m12 cyI 3 (upd (upd (upd fp 2 (nI (k % (n + 1)))) 1 (nI ((k / (n + 1)) % (n + 1)))) 0 (nI (((k / (n + 1)) / (n + 1)) % (n + 1)))), ai m13 cyI 3 bp] H := hP
                  have hD : va_D A [ob m0 4 [.int (nI n), .int kn, .int fz, .ref m1, .ref m2, .ref m3, .ref m4, .ref m5, .ref m6, .ref m7, .ref m8, .ref m9, .ref m10, .ref m11, .ref m12, .ref m13], ai m1 cyI 21 (f3 fh uh th), ai m2 cyI 21 (f3 fg ug tg), ai m3 cyI 21 (f3 ff uf tf), ai m4 cyI 21 (f3 fk uk tk), ai m5 cyI 3 (t3 vs us ts), ai m6 cyI 3 (t3 vb ub tb), ai m7 cyI 3 (t3 vd ud td), ai m8 cyI 3 (nF ct), ai m9 cyI 36 (q12 kd), ai m10 cyI 36 (q12 vl), ai m11 cyI 7 fr, ai m12 cyI 3 (upd (upd (upd fp 2 (nI (k % (n + 1)))) 1 (nI ((k / (n + 1)) % (n + 1)))) 0 (nI (((k / (n + 1)) / (n + 1)) % (n + 1)))), ai m13 cyI 3 bp] := hD
                  refine lv_iload_n hx hb dX4_lay_53 rfl (lv_at hl 3 rfl) ?_
                  refine lv_iload hx hb dX4_lay_54 (lv_at hl 1 rfl) ?_
                  refine lv_aload_n hx hb dX4_lay_56 rfl (lv_at hl 4 rfl) ?_
                  refine va_get (D := (dC, dI)) (ci := 4) (v := .int (nI n)) (C := RX4) (T := TX4) (N := 16) hx hb hts hin_X4 hown hK hP 0 rfl rfl 0 (by decide) hw_1 (fun _ h9 => h9) rfl dX4_lay_57 ?_
                  refine lv_icmp_ge (tgt := 67) hx hb dX4_lay_60 (by decide) (fun c_60_3 => ?_) (fun c_60_3 => ?_)
                  · ---- to 67
                    have n_60_3 := (nq_le n (((k / (n + 1)) / (n + 1)) % (n + 1)) (by omega) (by omega)).mp c_60_3
                    exfalso; omega
                  · ---- on
                    have n_60_3 := (nq_le_n n (((k / (n + 1)) / (n + 1)) % (n + 1)) (by omega) (by omega)).mp c_60_3
                    refine lv_iconst (v := 1) hx hb dX4_lay_63 (by decide) ?_
                    refine lv_goto (tgt := 68) hx hb dX4_lay_64 (by decide) ?_
                    refine lv_iadd hx hb dX4_lay_68 ?_
                    refine ra_top (3) (by decide) ?_
                    refine lv_istore_n (lv' := [(3, .int 3), (2, .int (nI (((k / (n + 1)) / (n + 1)) / (n + 1)))), (5, .int (nI (((k / (n + 1)) / (n + 1)) % (n + 1)))), (4, .int 0), (0, .ref m0), (1, .int (nI k))]) hx hb dX4_lay_69 rfl hl (by decide) rfl (fun ls hl => ?_)
                    refine lv_iinc (v := -1) (lv' := [(4, .int (-1)), (3, .int 3), (2, .int (nI (((k / (n + 1)) / (n + 1)) / (n + 1)))), (5, .int (nI (((k / (n + 1)) / (n + 1)) % (n + 1)))), (0, .ref m0), (1, .int (nI k))]) hx hb dX4_lay_70 hl (k := 3) rfl (by decide) (by decide) rfl (fun ls hl => ?_)
                    refine lv_goto (tgt := 7) hx hb dX4_lay_73 (by decide) ?_
                    refine lv_iload hx hb dX4_lay_7 (lv_at hl 0 rfl) ?_
                    refine lv_if_lt (tgt := 76) hx hb dX4_lay_9 (by decide) (fun c_9_4 => ?_) (fun c_9_4 => ?_)
                    · ---- to 76
                      obtain ⟨hP, hD⟩ := ra_cong hP hD 12 (p3 (nI (((k / (n + 1)) / (n + 1)) % (n + 1))) (nI ((k / (n + 1)) % (n + 1))) (nI (k % (n + 1)))) rfl (fun j hj => up3r _ _ _ _ j hj)
                      have e0 : ld n (md0 n k) = nI (((k / (n + 1)) / (n + 1)) % (n + 1)) := by unfold ld md0; first | (rw [if_pos (by omega)]; done) | (rw [if_neg (by omega)]; done)
                      have e1 : ld n (md1 n k) = nI ((k / (n + 1)) % (n + 1)) := by unfold ld md1; first | (rw [if_pos (by omega)]; done) | (rw [if_neg (by omega)]; done)
                      have e2 : ld n (md2 n k) = nI (k % (n + 1)) := by unfold ld md2; first | (rw [if_pos (by omega)]; done) | (rw [if_neg (by omega)]; done)
                      have e9 : lyp n k = p3 (nI (((k / (n + 1)) / (n + 1)) % (n + 1))) (nI ((k / (n + 1)) % (n + 1))) (nI (k % (n + 1))) := by unfold lyp; rw [e0, e1, e2]
                      rw [← e9] at hP hD
                      have hP : va_P (dC, dI) vwCl [ob m0 4 [.int (nI n), .int kn, .int fz, .ref m1, .ref m2, .ref m3, .ref m4, .ref m5, .ref m6, .ref m7, .ref m8, .ref m9, .ref m10, .ref m11, .ref m12, .ref m13], ai m1 cyI 21 (f3 fh uh th), ai m2 cyI 21 (f3 fg ug tg), ai m3 cyI 21 (f3 ff uf tf), ai m4 cyI 21 (f3 fk uk tk), ai m5 cyI 3 (t3 vs us ts), ai m6 cyI 3 (t3 vb ub tb), ai m7 cyI 3 (t3 vd ud td), ai m8 cyI 3 (nF ct), ai m9 cyI 36 (q12 kd), ai m10 cyI 36 (q12 vl), ai m11 cyI 7 fr, ai m12 cyI 3 (lyp n k), ai m13 cyI 3 bp] H := hP
                      have hD : va_D A [ob m0 4 [.int (nI n), .int kn, .int fz, .ref m1, .ref m2, .ref m3, .ref m4, .ref m5, .ref m6, .ref m7, .ref m8, .ref m9, .ref m10, .ref m11, .ref m12, .ref m13], ai m1 cyI 21 (f3 fh uh th), ai m2 cyI 21 (f3 fg ug tg), ai m3 cyI 21 (f3 ff uf tf), ai m4 cyI 21 (f3 fk uk tk), ai m5 cyI 3 (t3 vs us ts), ai m6 cyI 3 (t3 vb ub tb), ai m7 cyI 3 (t3 vd ud td), ai m8 cyI 3 (nF ct), ai m9 cyI 36 (q12 kd), ai m10 cyI 36 (q12 vl), ai m11 cyI 7 fr, ai m12 cyI 3 (lyp n k), ai m13 cyI 3 bp] := hD
                      refine lv_iload_n hx hb dX4_lay_76 rfl (lv_at hl 1 rfl) ?_
                      rw [hQ]
                      exact ra_iretW () hx hb hr hlocks rfl hK hP hD hS (by rw [show mny n k = 3 from by unfold mny one md0 md1 md2; (repeat' split) <;> omega]; rfl) dX4_lay_77
                    · ---- on
                      exact absurd c_9_4 (by decide)

set_option maxHeartbeats 4000000 in
set_option maxRecDepth 100000 in
theorem c_X4_findPlan (l : Launch) (dC : Nat → ClassId) (dI : Nat → Nat → Nat) (cyI cyA : ClassId) (m0 m1 m2 m3 m4 m5 m6 m7 m8 m9 m10 m11 m12 m13 n : Nat) (kn fz : Int32) (fh fg ff fk uh ug uf uk th tg tf tk : FN) (vs vb vd us ub ud ts tb td : Int32) (ct : Nat → Nat) (kd vl : Nat → FN) (fr fp bp : FN) (aim : Int32) (hn : n ≤ 7) (hct : ∀ w, w < 3 → ct w ≤ 12) (sz : Nat) : Met l yX4_findPlan wsX4_findPlan (rm 5) (kW dC dI cyI cyA [.ref m0, .int aim] sz [ob m0 4 [.int (nI n), .int kn, .int fz, .ref m1, .ref m2, .ref m3, .ref m4, .ref m5, .ref m6, .ref m7, .ref m8, .ref m9, .ref m10, .ref m11, .ref m12, .ref m13], ai m1 cyI 21 (f3 fh uh th), ai m2 cyI 21 (f3 fg ug tg), ai m3 cyI 21 (f3 ff uf tf), ai m4 cyI 21 (f3 fk uk tk), ai m5 cyI 3 (t3 vs us ts), ai m6 cyI 3 (t3 vb ub tb), ai m7 cyI 3 (t3 vd ud td), ai m8 cyI 3 (nF ct), ai m9 cyI 36 (q12 kd), ai m10 cyI 36 (q12 vl), ai m11 cyI 7 fr, ai m12 cyI 3 fp, ai m13 cyI 3 bp]) (qI dC dI cyI cyA (fun (r : Int32) (u : FN × FN × FN × FN × Int32 × Int32 × Int32 × FN × FN) => match u with | (xh, xg, xf, xk, xs, xb, xd, fp2, bp2) => MPost ((n + 1) * (n + 1) * (n + 1)) (fun k => aim ≤ hld ct (crW phm psm num n fz ct kd vl fh fg ff fk vs vb (lyp n k)) (flW phm psm num n fz ct kd vl fh fg ff fk vs vb (lyp n k))) n r bp2) (va_A [ob m0 4 [.int (nI n), .int kn, .int fz, .ref m1, .ref m2, .ref m3, .ref m4, .ref m5, .ref m6, .ref m7, .ref m8, .ref m9, .ref m10, .ref m11, .ref m12, .ref m13], ai m1 cyI 21 (f3 fh uh th), ai m2 cyI 21 (f3 fg ug tg), ai m3 cyI 21 (f3 ff uf tf), ai m4 cyI 21 (f3 fk uk tk), ai m5 cyI 3 (t3 vs us ts), ai m6 cyI 3 (t3 vb ub tb), ai m7 cyI 3 (t3 vd ud td), ai m8 cyI 3 (nF ct), ai m9 cyI 36 (q12 kd), ai m10 cyI 36 (q12 vl), ai m11 cyI 7 fr, ai m12 cyI 3 fp, ai m13 cyI 3 bp] sz) (fun u : FN × FN × FN × FN × Int32 × Int32 × Int32 × FN × FN => match u with | (xh, xg, xf, xk, xs, xb, xd, fp2, bp2) => [ob m0 4 [.int (nI n), .int kn, .int fz, .ref m1, .ref m2, .ref m3, .ref m4, .ref m5, .ref m6, .ref m7, .ref m8, .ref m9, .ref m10, .ref m11, .ref m12, .ref m13], ai m1 cyI 21 (f3 fh uh xh), ai m2 cyI 21 (f3 fg ug xg), ai m3 cyI 21 (f3 ff uf xf), ai m4 cyI 21 (f3 fk uk xk), ai m5 cyI 3 (t3 vs us xs), ai m6 cyI 3 (t3 vb ub xb), ai m7 cyI 3 (t3 vd ud xd), ai m8 cyI 3 (nF ct), ai m9 cyI 36 (q12 kd), ai m10 cyI 36 (q12 vl), ai m11 cyI 7 fr, ai m12 cyI 3 fp2, ai m13 cyI 3 bp2])) 0 0 (va_A [ob m0 4 [.int (nI n), .int kn, .int fz, .ref m1, .ref m2, .ref m3, .ref m4, .ref m5, .ref m6, .ref m7, .ref m8, .ref m9, .ref m10, .ref m11, .ref m12, .ref m13], ai m1 cyI 21 (f3 fh uh th), ai m2 cyI 21 (f3 fg ug tg), ai m3 cyI 21 (f3 ff uf tf), ai m4 cyI 21 (f3 fk uk tk), ai m5 cyI 3 (t3 vs us ts), ai m6 cyI 3 (t3 vb ub tb), ai m7 cyI 3 (t3 vd ud td), ai m8 cyI 3 (nF ct), ai m9 cyI 36 (q12 kd), ai m10 cyI 36 (q12 vl), ai m11 cyI 7 fr, ai m12 cyI 3 fp, ai m13 cyI 3 bp] sz) := by
  refine ra_metW (cc := cX4_findPlan) (maxL := 6) (Qc := fun A => qI dC dI cyI cyA (fun (r : Int32) (u : FN × FN × FN × FN × Int32 × Int32 × Int32 × FN × FN) => match u with | (xh, xg, xf, xk, xs, xb, xd, fp2, bp2) => MPost ((n + 1) * (n + 1) * (n + 1)) (fun k => aim ≤ hld ct (crW phm psm num n fz ct kd vl fh fg ff fk vs vb (lyp n k)) (flW phm psm num n fz ct kd vl fh fg ff fk vs vb (lyp n k))) n r bp2) A (fun u : FN × FN × FN × FN × Int32 × Int32 × Int32 × FN × FN => match u with | (xh, xg, xf, xk, xs, xb, xd, fp2, bp2) => [ob m0 4 [.int (nI n), .int kn, .int fz, .ref m1, .ref m2, .ref m3, .ref m4, .ref m5, .ref m6, .ref m7, .ref m8, .ref m9, .ref m10, .ref m11, .ref m12, .ref m13], ai m1 cyI 21 (f3 fh uh xh), ai m2 cyI 21 (f3 fg ug xg), ai m3 cyI 21 (f3 ff uf xf), ai m4 cyI 21 (f3 fk uk xk), ai m5 cyI 3 (t3 vs us xs), ai m6 cyI 3 (t3 vb ub xb), ai m7 cyI 3 (t3 vd ud xd), ai m8 cyI 3 (nF ct), ai m9 cyI 36 (q12 kd), ai m10 cyI 36 (q12 vl), ai m11 cyI 7 fr, ai m12 cyI 3 fp2, ai m13 cyI 3 bp2])) (by decide) rfl (Nat.le_of_ble_eq_true rfl) ?_
  intro p e s m below meth c A args Q hQ hx hb hr hlocks hml hts hown hnm hK hN hP hD hA hS ls hl
  have hl : lv_has ls 6 [(0, .ref m0), (1, .int aim)] := hl
  have hown : s.vm.findClass RX4 = some m.cls := hown
  have hw_1 := hts (.fieldLink RX4 7 "DuneBenchModel" "n" "I") (by decide +kernel)
  have hin_X4 : ∀ w ∈ u_ws RX4 TX4 16, w ∈ wsX4_findPlan := by decide +kernel
  have hw_3 := hts (.fieldLink RX4 53 "DuneBenchModel" "best" "[I") (by decide +kernel)
  have hw_4 := hts (.fieldLink RX4 50 "DuneBenchModel" "fences" "[I") (by decide +kernel)
  obtain ⟨H, hHe⟩ : ∃ H, H = s.heap := ⟨_, rfl⟩
  obtain ⟨locs, hLe⟩ : ∃ locs : List Loc, locs = [] := ⟨_, rfl⟩
  have hP : va_P (dC, dI) vwCl [ob m0 4 [.int (nI n), .int kn, .int fz, .ref m1, .ref m2, .ref m3, .ref m4, .ref m5, .ref m6, .ref m7, .ref m8, .ref m9, .ref m10, .ref m11, .ref m12, .ref m13], ai m1 cyI 21 (f3 fh uh th), ai m2 cyI 21 (f3 fg ug tg), ai m3 cyI 21 (f3 ff uf tf), ai m4 cyI 21 (f3 fk uk tk), ai m5 cyI 3 (t3 vs us ts), ai m6 cyI 3 (t3 vb ub tb), ai m7 cyI 3 (t3 vd ud td), ai m8 cyI 3 (nF ct), ai m9 cyI 36 (q12 kd), ai m10 cyI 36 (q12 vl), ai m11 cyI 7 fr, ai m12 cyI 3 fp, ai m13 cyI 3 bp] H := by rw [hHe]; exact hP
  have hS : va_S A s.heap H locs := by rw [hHe, hLe]; exact hS
  suffices hgo : W p l e (rm 5) s m args below meth c H locs 0 0 Q (F0 m 0 ls []) by rw [hHe, hLe] at hgo; exact hgo
  have hN3 := N3_le hn
  refine lv_iconst (v := 4) hx hb dX4_findPlan_0 (by decide) ?_
  refine lv_istore_n (lv' := [(2, .int 4), (0, .ref m0), (1, .int aim)]) hx hb dX4_findPlan_1 rfl hl (by decide) rfl (fun ls hl => ?_)
  refine lv_iconst (v := 0) hx hb dX4_findPlan_2 (by decide) ?_
  refine lv_istore_n (lv' := [(3, .int 0), (2, .int 4), (0, .ref m0), (1, .int aim)]) hx hb dX4_findPlan_3 rfl hl (by decide) rfl (fun ls hl => ?_)
  have L_4 : ∀ (n9 : Nat) (few : Nat) (num2 : Nat) (yh : FN) (yg : FN) (yf : FN) (yk : FN) (ys : Int32) (yb : Int32) (yd : Int32) (xp2 : FN) (xb2 : FN), (few ≤ 4) → (num2 ≤ (n + 1) * (n + 1) * (n + 1)) → ((few = 4 ∧ ∀ k, k < num2 → ¬ (aim ≤ hld ct (crW phm psm num n fz ct kd vl fh fg ff fk vs vb (lyp n k)) (flW phm psm num n fz ct kd vl fh fg ff fk vs vb (lyp n k)))) ∨ (∃ b2, b2 < num2 ∧ (aim ≤ hld ct (crW phm psm num n fz ct kd vl fh fg ff fk vs vb (lyp n b2)) (flW phm psm num n fz ct kd vl fh fg ff fk vs vb (lyp n b2))) ∧ mny n b2 = few ∧ xb2 = lyp n b2 ∧ (∀ k, k < num2 → (aim ≤ hld ct (crW phm psm num n fz ct kd vl fh fg ff fk vs vb (lyp n k)) (flW phm psm num n fz ct kd vl fh fg ff fk vs vb (lyp n k))) → few ≤ mny n k) ∧ (∀ k, k < b2 → (aim ≤ hld ct (crW phm psm num n fz ct kd vl fh fg ff fk vs vb (lyp n k)) (flW phm psm num n fz ct kd vl fh fg ff fk vs vb (lyp n k))) → few < mny n k))) → ((n + 1) * (n + 1) * (n + 1) - num2) < n9 → ∀ (H : Heap) (locs : List Loc), va_P (dC, dI) vwCl [ob m0 4 [.int (nI n), .int kn, .int fz, .ref m1, .ref m2, .ref m3, .ref m4, .ref m5, .ref m6, .ref m7, .ref m8, .ref m9, .ref m10, .ref m11, .ref m12, .ref m13], ai m1 cyI 21 (f3 fh uh yh), ai m2 cyI 21 (f3 fg ug yg), ai m3 cyI 21 (f3 ff uf yf), ai m4 cyI 21 (f3 fk uk yk), ai m5 cyI 3 (t3 vs us ys), ai m6 cyI 3 (t3 vb ub yb), ai m7 cyI 3 (t3 vd ud yd), ai m8 cyI 3 (nF ct), ai m9 cyI 36 (q12 kd), ai m10 cyI 36 (q12 vl), ai m11 cyI 7 fr, ai m12 cyI 3 xp2, ai m13 cyI 3 xb2] H → va_D A [ob m0 4 [.int (nI n), .int kn, .int fz, .ref m1, .ref m2, .ref m3, .ref m4, .ref m5, .ref m6, .ref m7, .ref m8, .ref m9, .ref m10, .ref m11, .ref m12, .ref m13], ai m1 cyI 21 (f3 fh uh yh), ai m2 cyI 21 (f3 fg ug yg), ai m3 cyI 21 (f3 ff uf yf), ai m4 cyI 21 (f3 fk uk yk), ai m5 cyI 3 (t3 vs us ys), ai m6 cyI 3 (t3 vb ub yb), ai m7 cyI 3 (t3 vd ud yd), ai m8 cyI 3 (nF ct), ai m9 cyI 36 (q12 kd), ai m10 cyI 36 (q12 vl), ai m11 cyI 7 fr, ai m12 cyI 3 xp2, ai m13 cyI 3 xb2] → va_S A s.heap H locs → ∀ ls : Array Slot, lv_has ls 6 [(0, .ref m0), (1, .int aim), (2, .int (nI few)), (3, .int (nI num2))] → W p l e (rm 5) s m args below meth c H locs 0 0 Q (F0 m 4 ls []) := by
    intro n9
    induction n9 with
    | zero =>
      intro few num2 yh yg yf yk ys yb yd xp2 xb2 hfew hnum hinv hm9
      exact absurd hm9 (Nat.not_lt_zero _)
    | succ n9 ih_4 =>
      intro few num2 yh yg yf yk ys yb yd xp2 xb2 hfew hnum hinv hm9 H locs hP hD hS ls hl
      refine lv_iload_n hx hb dX4_findPlan_4 rfl (lv_at hl 3 rfl) ?_
      refine lv_aload_n hx hb dX4_findPlan_5 rfl (lv_at hl 0 rfl) ?_
      refine va_get (D := (dC, dI)) (ci := 4) (v := .int (nI n)) (C := RX4) (T := TX4) (N := 16) hx hb hts hin_X4 hown hK hP 0 rfl rfl 0 (by decide) hw_1 (fun _ h9 => h9) rfl dX4_findPlan_6 ?_
      refine lv_iconst (v := 1) hx hb dX4_findPlan_9 (by decide) ?_
      refine lv_iadd hx hb dX4_findPlan_10 ?_
      refine ra_top (nI (n + 1)) (nI_add n 1) ?_
      refine lv_aload_n hx hb dX4_findPlan_11 rfl (lv_at hl 0 rfl) ?_
      refine va_get (D := (dC, dI)) (ci := 4) (v := .int (nI n)) (C := RX4) (T := TX4) (N := 16) hx hb hts hin_X4 hown hK hP 0 rfl rfl 0 (by decide) hw_1 (fun _ h9 => h9) rfl dX4_findPlan_12 ?_
      refine lv_iconst (v := 1) hx hb dX4_findPlan_15 (by decide) ?_
      refine lv_iadd hx hb dX4_findPlan_16 ?_
      refine ra_top (nI (n + 1)) (nI_add n 1) ?_
      refine lv_imul hx hb dX4_findPlan_17 ?_
      refine ra_top (nI ((n + 1) * (n + 1))) (pk_mul (n + 1) (n + 1)) ?_
      refine lv_aload_n hx hb dX4_findPlan_18 rfl (lv_at hl 0 rfl) ?_
      refine va_get (D := (dC, dI)) (ci := 4) (v := .int (nI n)) (C := RX4) (T := TX4) (N := 16) hx hb hts hin_X4 hown hK hP 0 rfl rfl 0 (by decide) hw_1 (fun _ h9 => h9) rfl dX4_findPlan_19 ?_
      refine lv_iconst (v := 1) hx hb dX4_findPlan_22 (by decide) ?_
      refine lv_iadd hx hb dX4_findPlan_23 ?_
      refine ra_top (nI (n + 1)) (nI_add n 1) ?_
      refine lv_imul hx hb dX4_findPlan_24 ?_
      refine ra_top (nI (((n + 1) * (n + 1)) * (n + 1))) (pk_mul ((n + 1) * (n + 1)) (n + 1)) ?_
      refine lv_icmp_ge (tgt := 87) hx hb dX4_findPlan_25 (by decide) (fun c_25 => ?_) (fun c_25 => ?_)
      · ---- to 87
        have n_25 := (nq_le (((n + 1) * (n + 1)) * (n + 1)) num2 (by omega) (by omega)).mp c_25
        refine lv_iload_n hx hb dX4_findPlan_87 rfl (lv_at hl 2 rfl) ?_
        refine lv_iconst (v := 4) hx hb dX4_findPlan_88 (by decide) ?_
        refine lv_icmp_ge (tgt := 96) hx hb dX4_findPlan_89 (by decide) (fun c_89 => ?_) (fun c_89 => ?_)
        · ---- to 96
          have n_89 := (nq_le 4 few (by omega) (by omega)).mp c_89
          refine lv_bipush (v := (-3)) hx hb dX4_findPlan_96 (by decide) ?_
          rw [hQ]
          exact ra_iretW (yh, yg, yf, yk, ys, yb, yd, xp2, xb2) hx hb hr hlocks rfl hK hP hD hS (by rcases hinv with ⟨q1, q2⟩ | ⟨b2, q1, q2, q3, q4, q5, q6⟩; (· exact Or.inl ⟨rfl, fun k hk => q2 k (by omega)⟩); (· exact absurd q3 (by have := mny_le n b2; omega))) dX4_findPlan_98
        · ---- on
          have n_89 := (nq_le_n 4 few (by omega) (by omega)).mp c_89
          refine lv_iload_n hx hb dX4_findPlan_92 rfl (lv_at hl 2 rfl) ?_
          refine lv_goto (tgt := 98) hx hb dX4_findPlan_93 (by decide) ?_
          rw [hQ]
          exact ra_iretW (yh, yg, yf, yk, ys, yb, yd, xp2, xb2) hx hb hr hlocks rfl hK hP hD hS (by rcases hinv with ⟨q1, q2⟩ | ⟨b2, q1, q2, q3, q4, q5, q6⟩; (· omega); (· exact Or.inr ⟨b2, by omega, q2, by rw [q3], q4, fun k hk hp => by rw [q3]; exact q5 k (by omega) hp, fun k hk hp => by rw [q3]; exact q6 k hk hp⟩)) dX4_findPlan_98
      · ---- on
        have n_25 := (nq_le_n (((n + 1) * (n + 1)) * (n + 1)) num2 (by omega) (by omega)).mp c_25
        refine lv_aload_n hx hb dX4_findPlan_28 rfl (lv_at hl 0 rfl) ?_
        refine lv_iload_n hx hb dX4_findPlan_29 rfl (lv_at hl 3 rfl) ?_
        refine ra_cI (q := (RX4, TX4, 16)) (ci := 4) (As := [.int (nI num2)]) (rest := []) (wc := [ob m0 4 [.int (nI n), .int kn, .int fz, .ref m1, .ref m2, .ref m3, .ref m4, .ref m5, .ref m6, .ref m7, .ref m8, .ref m9, .ref m10, .ref m11, .ref m12, .ref m13], ai m1 cyI 21 (f3 fh uh yh), ai m2 cyI 21 (f3 fg ug yg), ai m3 cyI 21 (f3 ff uf yf), ai m4 cyI 21 (f3 fk uk yk), ai m5 cyI 3 (t3 vs us ys), ai m6 cyI 3 (t3 vb ub yb), ai m7 cyI 3 (t3 vd ud yd), ai m8 cyI 3 (nF ct), ai m9 cyI 36 (q12 kd), ai m10 cyI 36 (q12 vl), ai m11 cyI 7 fr, ai m12 cyI 3 xp2, ai m13 cyI 3 xb2]) (wr := []) ⟨hx, hb, hml, hown, hts⟩ (c_X4_lay l dC dI cyI cyA m0 m1 m2 m3 m4 m5 m6 m7 m8 m9 m10 m11 m12 m13 n kn fz fh fg ff fk uh ug uf uk yh yg yf yk vs vb vd us ub ud ys yb yd ct kd vl fr xp2 xb2 num2 (by omega) (by omega) H.size) (cwV 1 hts gX4_findPlan_X4_lay rfl rfl rfl (by decide +kernel) ⟨Nat.le_of_ble_eq_true rfl, Nat.le_of_ble_eq_true rfl⟩) hK hN hP hD hA hS [0, 1, 2, 3, 4, 5, 6, 7, 8, 9, 10, 11, 12, 13] [] rfl rfl (by decide) (by decide) (by decide) rfl rfl rfl hl.1 rfl (Nat.le_of_ble_eq_true rfl) dX4_findPlan_30 ⟨Nat.le_of_ble_eq_true rfl, Nat.le_of_ble_eq_true rfl⟩ (fun r_1 u_1 hw_c1 H locs hP hD hS => ?_)
        subst hw_c1
        have hP : va_P (dC, dI) vwCl [ob m0 4 [.int (nI n), .int kn, .int fz, .ref m1, .ref m2, .ref m3, .ref m4, .ref m5, .ref m6, .ref m7, .ref m8, .ref m9, .ref m10, .ref m11, .ref m12, .ref m13], ai m1 cyI 21 (f3 fh uh yh), ai m2 cyI 21 (f3 fg ug yg), ai m3 cyI 21 (f3 ff uf yf), ai m4 cyI 21 (f3 fk uk yk), ai m5 cyI 3 (t3 vs us ys), ai m6 cyI 3 (t3 vb ub yb), ai m7 cyI 3 (t3 vd ud yd), ai m8 cyI 3 (nF ct), ai m9 cyI 36 (q12 kd), ai m10 cyI 36 (q12 vl), ai m11 cyI 7 fr, ai m12 cyI 3 (lyp n num2), ai m13 cyI 3 xb2] H := hP
        have hD : va_D A [ob m0 4 [.int (nI n), .int kn, .int fz, .ref m1, .ref m2, .ref m3, .ref m4, .ref m5, .ref m6, .ref m7, .ref m8, .ref m9, .ref m10, .ref m11, .ref m12, .ref m13], ai m1 cyI 21 (f3 fh uh yh), ai m2 cyI 21 (f3 fg ug yg), ai m3 cyI 21 (f3 ff uf yf), ai m4 cyI 21 (f3 fk uk yk), ai m5 cyI 3 (t3 vs us ys), ai m6 cyI 3 (t3 vb ub yb), ai m7 cyI 3 (t3 vd ud yd), ai m8 cyI 3 (nF ct), ai m9 cyI 36 (q12 kd), ai m10 cyI 36 (q12 vl), ai m11 cyI 7 fr, ai m12 cyI 3 (lyp n num2), ai m13 cyI 3 xb2] := hD
        have hmn := mny_le n num2
        refine lv_istore (lv' := [(4, .int (nI (mny n num2))), (0, .ref m0), (1, .int aim), (2, .int (nI few)), (3, .int (nI num2))]) hx hb dX4_findPlan_33 hl (by decide) rfl (fun ls hl => ?_)
        refine lv_iload hx hb dX4_findPlan_35 (lv_at hl 0 rfl) ?_
        refine lv_iload_n hx hb dX4_findPlan_37 rfl (lv_at hl 3 rfl) ?_
        refine lv_icmp_ge (tgt := 81) hx hb dX4_findPlan_38 (by decide) (fun c_38 => ?_) (fun c_38 => ?_)
        · ---- to 81
          have n_38 := (nq_le few (mny n num2) (by omega) (by omega)).mp c_38
          have hinv9 : (few = 4 ∧ ∀ k, k < (num2 + 1) → ¬ (aim ≤ hld ct (crW phm psm num n fz ct kd vl fh fg ff fk vs vb (lyp n k)) (flW phm psm num n fz ct kd vl fh fg ff fk vs vb (lyp n k)))) ∨ (∃ b2, b2 < (num2 + 1) ∧ (aim ≤ hld ct (crW phm psm num n fz ct kd vl fh fg ff fk vs vb (lyp n b2)) (flW phm psm num n fz ct kd vl fh fg ff fk vs vb (lyp n b2))) ∧ mny n b2 = few ∧ xb2 = lyp n b2 ∧ (∀ k, k < (num2 + 1) → (aim ≤ hld ct (crW phm psm num n fz ct kd vl fh fg ff fk vs vb (lyp n k)) (flW phm psm num n fz ct kd vl fh fg ff fk vs vb (lyp n k))) → few ≤ mny n k) ∧ (∀ k, k < b2 → (aim ≤ hld ct (crW phm psm num n fz ct kd vl fh fg ff fk vs vb (lyp n k)) (flW phm psm num n fz ct kd vl fh fg ff fk vs vb (lyp n k))) → few < mny n k)) := by
            rcases hinv with ⟨q1, q2⟩ | ⟨b2, q1, q2, q3, q4, q5, q6⟩
            · exact Or.inl ⟨q1, fun k hk => by rcases (show k < num2 ∨ k = num2 by omega) with z | rfl; (· exact q2 k z); (· first | exact absurd hmn (by omega) | exact Int32.not_le.mpr c_46)⟩
            · exact Or.inr ⟨b2, by omega, q2, q3, q4, fun k hk hp => by rcases (show k < num2 ∨ k = num2 by omega) with z | rfl; (· exact q5 k z hp); (· first | omega | exact absurd hp (Int32.not_le.mpr c_46)), q6⟩
          refine lv_iinc (v := nI (num2 + 1)) (lv' := [(3, .int (nI (num2 + 1))), (4, .int (nI (mny n num2))), (0, .ref m0), (1, .int aim), (2, .int (nI few))]) hx hb dX4_findPlan_81 hl (k := 4) rfl (ra_inc1 _) (by decide) rfl (fun ls hl => ?_)
          refine lv_goto (tgt := 4) hx hb dX4_findPlan_84 (by decide) ?_
          exact ih_4 few (num2 + 1) yh yg yf yk ys yb yd (lyp n num2) xb2 (by omega) (by omega) hinv9 (by omega) H locs hP hD hS ls (lv_sub hl [2, 3, 4, 0] rfl)
        · ---- on
          have n_38 := (nq_le_n few (mny n num2) (by omega) (by omega)).mp c_38
          refine lv_aload_n hx hb dX4_findPlan_41 rfl (lv_at hl 1 rfl) ?_
          refine ra_cI (q := (RX4, TX4, 16)) (ci := 4) (As := []) (rest := []) (wc := [ob m0 4 [.int (nI n), .int kn, .int fz, .ref m1, .ref m2, .ref m3, .ref m4, .ref m5, .ref m6, .ref m7, .ref m8, .ref m9, .ref m10, .ref m11, .ref m12, .ref m13], ai m1 cyI 21 (f3 fh uh yh), ai m2 cyI 21 (f3 fg ug yg), ai m3 cyI 21 (f3 ff uf yf), ai m4 cyI 21 (f3 fk uk yk), ai m5 cyI 3 (t3 vs us ys), ai m6 cyI 3 (t3 vb ub yb), ai m7 cyI 3 (t3 vd ud yd), ai m8 cyI 3 (nF ct), ai m9 cyI 36 (q12 kd), ai m10 cyI 36 (q12 vl), ai m11 cyI 7 fr, ai m12 cyI 3 (lyp n num2), ai m13 cyI 3 xb2]) (wr := []) ⟨hx, hb, hml, hown, hts⟩ (c_X4_holds l dC dI cyI cyA m0 m1 m2 m3 m4 m5 m6 m7 m8 m9 m10 m11 m12 m13 n kn fz fh fg ff fk uh ug uf uk yh yg yf yk vs vb vd us ub ud ys yb yd ct kd vl fr (lyp n num2) xb2 (by omega) (lyp_ce hn) hct H.size) (cwV 0 hts gX4_findPlan_X4_holds rfl rfl rfl (by decide +kernel) ⟨Nat.le_of_ble_eq_true rfl, Nat.le_of_ble_eq_true rfl⟩) hK hN hP hD hA hS [0, 1, 2, 3, 4, 5, 6, 7, 8, 9, 10, 11, 12, 13] [] rfl rfl (by decide) (by decide) (by decide) rfl rfl rfl hl.1 rfl (Nat.le_of_ble_eq_true rfl) dX4_findPlan_42 ⟨Nat.le_of_ble_eq_true rfl, Nat.le_of_ble_eq_true rfl⟩ (fun r_2 u_2 hw_c2 H locs hP hD hS => ?_)
          obtain ⟨xh_2, xg_2, xf_2, xk_2, xs_2, xb_2, xd_2⟩ := u_2
          have hw_c2 : r_2 = hld ct (crW phm psm num n fz ct kd vl fh fg ff fk vs vb (lyp n num2)) (flW phm psm num n fz ct kd vl fh fg ff fk vs vb (lyp n num2)) := hw_c2
          subst hw_c2
          have hP : va_P (dC, dI) vwCl [ob m0 4 [.int (nI n), .int kn, .int fz, .ref m1, .ref m2, .ref m3, .ref m4, .ref m5, .ref m6, .ref m7, .ref m8, .ref m9, .ref m10, .ref m11, .ref m12, .ref m13], ai m1 cyI 21 (f3 fh uh xh_2), ai m2 cyI 21 (f3 fg ug xg_2), ai m3 cyI 21 (f3 ff uf xf_2), ai m4 cyI 21 (f3 fk uk xk_2), ai m5 cyI 3 (t3 vs us xs_2), ai m6 cyI 3 (t3 vb ub xb_2), ai m7 cyI 3 (t3 vd ud xd_2), ai m8 cyI 3 (nF ct), ai m9 cyI 36 (q12 kd), ai m10 cyI 36 (q12 vl), ai m11 cyI 7 fr, ai m12 cyI 3 (lyp n num2), ai m13 cyI 3 xb2] H := hP
          have hD : va_D A [ob m0 4 [.int (nI n), .int kn, .int fz, .ref m1, .ref m2, .ref m3, .ref m4, .ref m5, .ref m6, .ref m7, .ref m8, .ref m9, .ref m10, .ref m11, .ref m12, .ref m13], ai m1 cyI 21 (f3 fh uh xh_2), ai m2 cyI 21 (f3 fg ug xg_2), ai m3 cyI 21 (f3 ff uf xf_2), ai m4 cyI 21 (f3 fk uk xk_2), ai m5 cyI 3 (t3 vs us xs_2), ai m6 cyI 3 (t3 vb ub xb_2), ai m7 cyI 3 (t3 vd ud xd_2), ai m8 cyI 3 (nF ct), ai m9 cyI 36 (q12 kd), ai m10 cyI 36 (q12 vl), ai m11 cyI 7 fr, ai m12 cyI 3 (lyp n num2), ai m13 cyI 3 xb2] := hD
          refine lv_iload_n hx hb dX4_findPlan_45 rfl (lv_at hl 2 rfl) ?_
          refine lv_icmp_lt (tgt := 81) hx hb dX4_findPlan_46 (by decide) (fun c_46 => ?_) (fun c_46 => ?_)
          · ---- to 81
            have hinv9 : (few = 4 ∧ ∀ k, k < (num2 + 1) → ¬ (aim ≤ hld ct (crW phm psm num n fz ct kd vl fh fg ff fk vs vb (lyp n k)) (flW phm psm num n fz ct kd vl fh fg ff fk vs vb (lyp n k)))) ∨ (∃ b2, b2 < (num2 + 1) ∧ (aim ≤ hld ct (crW phm psm num n fz ct kd vl fh fg ff fk vs vb (lyp n b2)) (flW phm psm num n fz ct kd vl fh fg ff fk vs vb (lyp n b2))) ∧ mny n b2 = few ∧ xb2 = lyp n b2 ∧ (∀ k, k < (num2 + 1) → (aim ≤ hld ct (crW phm psm num n fz ct kd vl fh fg ff fk vs vb (lyp n k)) (flW phm psm num n fz ct kd vl fh fg ff fk vs vb (lyp n k))) → few ≤ mny n k) ∧ (∀ k, k < b2 → (aim ≤ hld ct (crW phm psm num n fz ct kd vl fh fg ff fk vs vb (lyp n k)) (flW phm psm num n fz ct kd vl fh fg ff fk vs vb (lyp n k))) → few < mny n k)) := by
              rcases hinv with ⟨q1, q2⟩ | ⟨b2, q1, q2, q3, q4, q5, q6⟩
              · exact Or.inl ⟨q1, fun k hk => by rcases (show k < num2 ∨ k = num2 by omega) with z | rfl; (· exact q2 k z); (· first | exact absurd hmn (by omega) | exact Int32.not_le.mpr c_46)⟩
              · exact Or.inr ⟨b2, by omega, q2, q3, q4, fun k hk hp => by rcases (show k < num2 ∨ k = num2 by omega) with z | rfl; (· exact q5 k z hp); (· first | omega | exact absurd hp (Int32.not_le.mpr c_46)), q6⟩
            refine lv_iinc (v := nI (num2 + 1)) (lv' := [(3, .int (nI (num2 + 1))), (4, .int (nI (mny n num2))), (0, .ref m0), (1, .int aim), (2, .int (nI few))]) hx hb dX4_findPlan_81 hl (k := 4) rfl (ra_inc1 _) (by decide) rfl (fun ls hl => ?_)
            refine lv_goto (tgt := 4) hx hb dX4_findPlan_84 (by decide) ?_
            exact ih_4 few (num2 + 1) xh_2 xg_2 xf_2 xk_2 xs_2 xb_2 xd_2 (lyp n num2) xb2 (by omega) (by omega) hinv9 (by omega) H locs hP hD hS ls (lv_sub hl [2, 3, 4, 0] rfl)
          · ---- on
            refine lv_iload hx hb dX4_findPlan_49 (lv_at hl 0 rfl) ?_
            refine lv_istore_n (lv' := [(2, .int (nI (mny n num2))), (4, .int (nI (mny n num2))), (0, .ref m0), (1, .int aim), (3, .int (nI num2))]) hx hb dX4_findPlan_51 rfl hl (by decide) rfl (fun ls hl => ?_)
            refine lv_iconst (v := 0) hx hb dX4_findPlan_52 (by decide) ?_
            refine lv_istore (lv' := [(5, .int 0), (2, .int (nI (mny n num2))), (4, .int (nI (mny n num2))), (0, .ref m0), (1, .int aim), (3, .int (nI num2))]) hx hb dX4_findPlan_53 hl (by decide) rfl (fun ls hl => ?_)
            refine lv_iload hx hb dX4_findPlan_55 (lv_at hl 0 rfl) ?_
            refine lv_iconst (v := 3) hx hb dX4_findPlan_57 (by decide) ?_
            refine lv_icmp_ge (tgt := 81) hx hb dX4_findPlan_58 (by decide) (fun c_58 => ?_) (fun c_58 => ?_)
            · ---- to 81
              exact absurd c_58 (by decide)
            · ---- on
              refine lv_aload_n hx hb dX4_findPlan_61 rfl (lv_at hl 3 rfl) ?_
              refine va_get (D := (dC, dI)) (ci := 4) (v := .ref m13) (C := RX4) (T := TX4) (N := 16) hx hb hts hin_X4 hown hK hP 0 rfl rfl 15 (by decide) hw_3 (fun _ h9 => h9) rfl dX4_findPlan_62 ?_
              refine lv_iload hx hb dX4_findPlan_65 (lv_at hl 0 rfl) ?_
              refine lv_aload_n hx hb dX4_findPlan_67 rfl (lv_at hl 3 rfl) ?_
              refine va_get (D := (dC, dI)) (ci := 4) (v := .ref m12) (C := RX4) (T := TX4) (N := 16) hx hb hts hin_X4 hown hK hP 0 rfl rfl 14 (by decide) hw_4 (fun _ h9 => h9) rfl dX4_findPlan_68 ?_
              refine lv_iload hx hb dX4_findPlan_71 (lv_at hl 0 rfl) ?_
              refine ra_iald hx hb hK hP 12 rfl 0 rfl (by omega) (Nat.le_of_ble_eq_true rfl) dX4_findPlan_73 ?_
              refine ra_iast hx hb hK hP hD hS 13 rfl 0 rfl (by omega) (Nat.le_of_ble_eq_true rfl) dX4_findPlan_74 (fun H locs hP hD hS => ?_)
              have hP : va_P (dC, dI) vwCl [ob m0 4 [.int (nI n), .int kn, .int fz, .ref m1, .ref m2, .ref m3, .ref m4, .ref m5, .ref m6, .ref m7, .ref m8, .ref m9, .ref m10, .ref m11, .ref m12, .ref m13], ai m1 cyI 21 (f3 fh uh xh_2), ai m2 cyI 21 (f3 fg ug xg_2), ai m3 cyI 21 (f3 ff uf xf_2), ai m4 cyI 21 (f3 fk uk xk_2), ai m5 cyI 3 (t3 vs us xs_2), ai m6 cyI 3 (t3 vb ub xb_2), ai m7 cyI 3 (t3 vd ud xd_2), ai m8 cyI 3 (nF ct), ai m9 cyI 36 (q12 kd), ai m10 cyI 36 (q12 vl), ai m11 cyI 7 fr, ai m12 cyI 3 (lyp n num2), ai m13 cyI 3 (upd xb2 0 ((lyp n num2) 0))] H := hP
              have hD : va_D A [ob m0 4 [.int (nI n), .int kn, .int fz, .ref m1, .ref m2, .ref m3, .ref m4, .ref m5, .ref m6, .ref m7, .ref m8, .ref m9, .ref m10, .ref m11, .ref m12, .ref m13], ai m1 cyI 21 (f3 fh uh xh_2), ai m2 cyI 21 (f3 fg ug xg_2), ai m3 cyI 21 (f3 ff uf xf_2), ai m4 cyI 21 (f3 fk uk xk_2), ai m5 cyI 3 (t3 vs us xs_2), ai m6 cyI 3 (t3 vb ub xb_2), ai m7 cyI 3 (t3 vd ud xd_2), ai m8 cyI 3 (nF ct), ai m9 cyI 36 (q12 kd), ai m10 cyI 36 (q12 vl), ai m11 cyI 7 fr, ai m12 cyI 3 (lyp n num2), ai m13 cyI 3 (upd xb2 0 ((lyp n num2) 0))] := hD
              refine lv_iinc (v := 1) (lv' := [(5, .int 1), (2, .int (nI (mny n num2))), (4, .int (nI (mny n num2))), (0, .ref m0), (1, .int aim), (3, .int (nI num2))]) hx hb dX4_findPlan_75 hl (k := 0) rfl (by decide) (by decide) rfl (fun ls hl => ?_)
              refine lv_goto (tgt := 55) hx hb dX4_findPlan_78 (by decide) ?_
              refine lv_iload hx hb dX4_findPlan_55 (lv_at hl 0 rfl) ?_
              refine lv_iconst (v := 3) hx hb dX4_findPlan_57 (by decide) ?_
              refine lv_icmp_ge (tgt := 81) hx hb dX4_findPlan_58 (by decide) (fun c_58_2 => ?_) (fun c_58_2 => ?_)
              · ---- to 81
                exact absurd c_58_2 (by decide)
              · ---- on
                refine lv_aload_n hx hb dX4_findPlan_61 rfl (lv_at hl 3 rfl) ?_
                refine va_get (D := (dC, dI)) (ci := 4) (v := .ref m13) (C := RX4) (T := TX4) (N := 16) hx hb hts hin_X4 hown hK hP 0 rfl rfl 15 (by decide) hw_3 (fun _ h9 => h9) rfl dX4_findPlan_62 ?_
                refine lv_iload hx hb dX4_findPlan_65 (lv_at hl 0 rfl) ?_
                refine lv_aload_n hx hb dX4_findPlan_67 rfl (lv_at hl 3 rfl) ?_
                refine va_get (D := (dC, dI)) (ci := 4) (v := .ref m12) (C := RX4) (T := TX4) (N := 16) hx hb hts hin_X4 hown hK hP 0 rfl rfl 14 (by decide) hw_4 (fun _ h9 => h9) rfl dX4_findPlan_68 ?_
                refine lv_iload hx hb dX4_findPlan_71 (lv_at hl 0 rfl) ?_
                refine ra_iald hx hb hK hP 12 rfl 1 rfl (by omega) (Nat.le_of_ble_eq_true rfl) dX4_findPlan_73 ?_
                refine ra_iast hx hb hK hP hD hS 13 rfl 1 rfl (by omega) (Nat.le_of_ble_eq_true rfl) dX4_findPlan_74 (fun H locs hP hD hS => ?_)
                have hP : va_P (dC, dI) vwCl [ob m0 4 [.int (nI n), .int kn, .int fz, .ref m1, .ref m2, .ref m3, .ref m4, .ref m5, .ref m6, .ref m7, .ref m8, .ref m9, .ref m10, .ref m11, .ref m12, .ref m13], ai m1 cyI 21 (f3 fh uh xh_2), ai m2 cyI 21 (f3 fg ug xg_2), ai m3 cyI 21 (f3 ff uf xf_2), ai m4 cyI 21 (f3 fk uk xk_2), ai m5 cyI 3 (t3 vs us xs_2), ai m6 cyI 3 (t3 vb ub xb_2), ai m7 cyI 3 (t3 vd ud xd_2), ai m8 cyI 3 (nF ct), ai m9 cyI 36 (q12 kd), ai m10 cyI 36 (q12 vl), ai m11 cyI 7 fr, ai m12 cyI 3 (lyp n num2), ai m13 cyI 3 (upd (upd xb2 0 ((lyp n num2) 0)) 1 ((lyp n num2) 1))] H := hP
                have hD : va_D A [ob m0 4 [.int (nI n), .int kn, .int fz, .ref m1, .ref m2, .ref m3, .ref m4, .ref m5, .ref m6, .ref m7, .ref m8, .ref m9, .ref m10, .ref m11, .ref m12, .ref m13], ai m1 cyI 21 (f3 fh uh xh_2), ai m2 cyI 21 (f3 fg ug xg_2), ai m3 cyI 21 (f3 ff uf xf_2), ai m4 cyI 21 (f3 fk uk xk_2), ai m5 cyI 3 (t3 vs us xs_2), ai m6 cyI 3 (t3 vb ub xb_2), ai m7 cyI 3 (t3 vd ud xd_2), ai m8 cyI 3 (nF ct), ai m9 cyI 36 (q12 kd), ai m10 cyI 36 (q12 vl), ai m11 cyI 7 fr, ai m12 cyI 3 (lyp n num2), ai m13 cyI 3 (upd (upd xb2 0 ((lyp n num2) 0)) 1 ((lyp n num2) 1))] := hD
                refine lv_iinc (v := 2) (lv' := [(5, .int 2), (2, .int (nI (mny n num2))), (4, .int (nI (mny n num2))), (0, .ref m0), (1, .int aim), (3, .int (nI num2))]) hx hb dX4_findPlan_75 hl (k := 0) rfl (by decide) (by decide) rfl (fun ls hl => ?_)
                refine lv_goto (tgt := 55) hx hb dX4_findPlan_78 (by decide) ?_
                refine lv_iload hx hb dX4_findPlan_55 (lv_at hl 0 rfl) ?_
                refine lv_iconst (v := 3) hx hb dX4_findPlan_57 (by decide) ?_
                refine lv_icmp_ge (tgt := 81) hx hb dX4_findPlan_58 (by decide) (fun c_58_3 => ?_) (fun c_58_3 => ?_)
                · ---- to 81
                  exact absurd c_58_3 (by decide)
                · ---- on
                  refine lv_aload_n hx hb dX4_findPlan_61 rfl (lv_at hl 3 rfl) ?_
                  refine va_get (D := (dC, dI)) (ci := 4) (v := .ref m13) (C := RX4) (T := TX4) (N := 16) hx hb hts hin_X4 hown hK hP 0 rfl rfl 15 (by decide) hw_3 (fun _ h9 => h9) rfl dX4_findPlan_62 ?_
                  refine lv_iload hx hb dX4_findPlan_65 (lv_at hl 0 rfl) ?_
                  refine lv_aload_n hx hb dX4_findPlan_67 rfl (lv_at hl 3 rfl) ?_
                  refine va_get (D := (dC, dI)) (ci := 4) (v := .ref m12) (C := RX4) (T := TX4) (N := 16) hx hb hts hin_X4 hown hK hP 0 rfl rfl 14 (by decide) hw_4 (fun _ h9 => h9) rfl dX4_findPlan_68 ?_
                  refine lv_iload hx hb dX4_findPlan_71 (lv_at hl 0 rfl) ?_
                  refine ra_iald hx hb hK hP 12 rfl 2 rfl (by omega) (Nat.le_of_ble_eq_true rfl) dX4_findPlan_73 ?_
                  refine ra_iast hx hb hK hP hD hS 13 rfl 2 rfl (by omega) (Nat.le_of_ble_eq_true rfl) dX4_findPlan_74 (fun H locs hP hD hS => ?_)
                  have hP : va_P (dC, dI) vwCl [ob m0 4 [.int (nI n), .int kn, .int fz, .ref m1, .ref m2, .ref m3, .ref m4, .ref m5, .ref m6, .ref m7, .ref m8, .ref m9, .ref m10, .ref m11, .ref m12, .ref m13], ai m1 cyI 21 (f3 fh uh xh_2), ai m2 cyI 21 (f3 fg ug xg_2), ai m3 cyI 21 (f3 ff uf xf_2), ai m4 cyI 21 (f3 fk uk xk_2), ai m5 cyI 3 (t3 vs us xs_2), ai m6 cyI 3 (t3 vb ub xb_2), ai m7 cyI 3 (t3 vd ud xd_2), ai m8 cyI 3 (nF ct), ai m9 cyI 36 (q12 kd), ai m10 cyI 36 (q12 vl), ai m11 cyI 7 fr, ai m12 cyI 3 (lyp n num2), ai m13 cyI 3 (upd (upd (upd xb2 0 ((lyp n num2) 0)) 1 ((lyp n num2) 1)) 2 ((lyp n num2) 2))] H := hP
                  have hD : va_D A [ob m0 4 [.int (nI n), .int kn, .int fz, .ref m1, .ref m2, .ref m3, .ref m4, .ref m5, .ref m6, .ref m7, .ref m8, .ref m9, .ref m10, .ref m11, .ref m12, .ref m13], ai m1 cyI 21 (f3 fh uh xh_2), ai m2 cyI 21 (f3 fg ug xg_2), ai m3 cyI 21 (f3 ff uf xf_2), ai m4 cyI 21 (f3 fk uk xk_2), ai m5 cyI 3 (t3 vs us xs_2), ai m6 cyI 3 (t3 vb ub xb_2), ai m7 cyI 3 (t3 vd ud xd_2), ai m8 cyI 3 (nF ct), ai m9 cyI 36 (q12 kd), ai m10 cyI 36 (q12 vl), ai m11 cyI 7 fr, ai m12 cyI 3 (lyp n num2), ai m13 cyI 3 (upd (upd (upd xb2 0 ((lyp n num2) 0)) 1 ((lyp n num2) 1)) 2 ((lyp n num2) 2))] := hD
                  refine lv_iinc (v := 3) (lv' := [(5, .int 3), (2, .int (nI (mny n num2))), (4, .int (nI (mny n num2))), (0, .ref m0), (1, .int aim), (3, .int (nI num2))]) hx hb dX4_findPlan_75 hl (k := 0) rfl (by decide) (by decide) rfl (fun ls hl => ?_)
                  refine lv_goto (tgt := 55) hx hb dX4_findPlan_78 (by decide) ?_
                  refine lv_iload hx hb dX4_findPlan_55 (lv_at hl 0 rfl) ?_
                  refine lv_iconst (v := 3) hx hb dX4_findPlan_57 (by decide) ?_
                  refine lv_icmp_ge (tgt := 81) hx hb dX4_findPlan_58 (by decide) (fun c_58_4 => ?_) (fun c_58_4 => ?_)
                  · ---- to 81
                    obtain ⟨hP, hD⟩ := ra_cong hP hD 13 (lyp n num2) rfl (fun j hj => by rcases (show j = 0 ∨ j = 1 ∨ j = 2 by omega) with rfl | rfl | rfl <;> rfl)
                    have hP : va_P (dC, dI) vwCl [ob m0 4 [.int (nI n), .int kn, .int fz, .ref m1, .ref m2, .ref m3, .ref m4, .ref m5, .ref m6, .ref m7, .ref m8, .ref m9, .ref m10, .ref m11, .ref m12, .ref m13], ai m1 cyI 21 (f3 fh uh xh_2), ai m2 cyI 21 (f3 fg ug xg_2), ai m3 cyI 21 (f3 ff uf xf_2), ai m4 cyI 21 (f3 fk uk xk_2), ai m5 cyI 3 (t3 vs us xs_2), ai m6 cyI 3 (t3 vb ub xb_2), ai m7 cyI 3 (t3 vd ud xd_2), ai m8 cyI 3 (nF ct), ai m9 cyI 36 (q12 kd), ai m10 cyI 36 (q12 vl), ai m11 cyI 7 fr, ai m12 cyI 3 (lyp n num2), ai m13 cyI 3 (lyp n num2)] H := hP
                    have hD : va_D A [ob m0 4 [.int (nI n), .int kn, .int fz, .ref m1, .ref m2, .ref m3, .ref m4, .ref m5, .ref m6, .ref m7, .ref m8, .ref m9, .ref m10, .ref m11, .ref m12, .ref m13], ai m1 cyI 21 (f3 fh uh xh_2), ai m2 cyI 21 (f3 fg ug xg_2), ai m3 cyI 21 (f3 ff uf xf_2), ai m4 cyI 21 (f3 fk uk xk_2), ai m5 cyI 3 (t3 vs us xs_2), ai m6 cyI 3 (t3 vb ub xb_2), ai m7 cyI 3 (t3 vd ud xd_2), ai m8 cyI 3 (nF ct), ai m9 cyI 36 (q12 kd), ai m10 cyI 36 (q12 vl), ai m11 cyI 7 fr, ai m12 cyI 3 (lyp n num2), ai m13 cyI 3 (lyp n num2)] := hD
                    have hinv9 : ((mny n num2) = 4 ∧ ∀ k, k < (num2 + 1) → ¬ (aim ≤ hld ct (crW phm psm num n fz ct kd vl fh fg ff fk vs vb (lyp n k)) (flW phm psm num n fz ct kd vl fh fg ff fk vs vb (lyp n k)))) ∨ (∃ b2, b2 < (num2 + 1) ∧ (aim ≤ hld ct (crW phm psm num n fz ct kd vl fh fg ff fk vs vb (lyp n b2)) (flW phm psm num n fz ct kd vl fh fg ff fk vs vb (lyp n b2))) ∧ mny n b2 = (mny n num2) ∧ (lyp n num2) = lyp n b2 ∧ (∀ k, k < (num2 + 1) → (aim ≤ hld ct (crW phm psm num n fz ct kd vl fh fg ff fk vs vb (lyp n k)) (flW phm psm num n fz ct kd vl fh fg ff fk vs vb (lyp n k))) → (mny n num2) ≤ mny n k) ∧ (∀ k, k < b2 → (aim ≤ hld ct (crW phm psm num n fz ct kd vl fh fg ff fk vs vb (lyp n k)) (flW phm psm num n fz ct kd vl fh fg ff fk vs vb (lyp n k))) → (mny n num2) < mny n k)) := by
                      refine Or.inr ⟨num2, by omega, Int32.not_lt.mp c_46, rfl, rfl, fun k hk hp => ?_, fun k hk hp => ?_⟩
                      · rcases (show k < num2 ∨ k = num2 by omega) with z | rfl
                        · rcases hinv with ⟨q1, q2⟩ | ⟨b2, q1, q2, q3, q4, q5, q6⟩
                          · exact absurd hp (q2 k z)
                          · have := q5 k z hp; omega
                        · omega
                      · rcases hinv with ⟨q1, q2⟩ | ⟨b2, q1, q2, q3, q4, q5, q6⟩
                        · exact absurd hp (q2 k hk)
                        · have := q5 k hk hp; omega
                    refine lv_iinc (v := nI (num2 + 1)) (lv' := [(3, .int (nI (num2 + 1))), (5, .int 3), (2, .int (nI (mny n num2))), (4, .int (nI (mny n num2))), (0, .ref m0), (1, .int aim)]) hx hb dX4_findPlan_81 hl (k := 5) rfl (ra_inc1 _) (by decide) rfl (fun ls hl => ?_)
                    refine lv_goto (tgt := 4) hx hb dX4_findPlan_84 (by decide) ?_
                    exact ih_4 (mny n num2) (num2 + 1) xh_2 xg_2 xf_2 xk_2 xs_2 xb_2 xd_2 (lyp n num2) (lyp n num2) (by omega) (by omega) hinv9 (by omega) H locs hP hD hS ls (lv_sub hl [4, 5, 2, 0] rfl)
                  · ---- on
                    exact absurd c_58_4 (by decide)
  exact L_4 _ 4 0 th tg tf tk ts tb td fp bp (by omega) (by omega) (Or.inl ⟨rfl, fun k hk => absurd hk (Nat.not_lt_zero k)⟩) (Nat.lt_succ_self _) H locs hP hD hS ls (lv_sub hl [2, 3, 1, 0] rfl)
