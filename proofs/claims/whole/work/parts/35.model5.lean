set_option maxHeartbeats 4000000 in
set_option maxRecDepth 100000 in
theorem c_X4_coast (l : Launch) (dC : Nat → ClassId) (dI : Nat → Nat → Nat) (cyI cyA : ClassId) (m0 m1 m2 m3 m4 m5 m6 m7 m8 m9 m10 m11 m12 m13 n : Nat) (kn fz : Int32) (fh fg ff fk uh ug uf uk th tg tf tk : FN) (vs vb vd us ub ud ts tb td : Int32) (ct : Nat → Nat) (kd vl : Nat → FN) (fr fp bp : FN) (x : Int32) (hn : n ≤ 7) (hn1 : 1 ≤ n) (hct : ∀ w, w < 3 → ct w ≤ 12) (sz : Nat) : Met l yX4_coast wsX4_coast (rm 1) (kW dC dI cyI cyA [.ref m0, .int x] sz [ob m0 4 [.int (nI n), .int kn, .int fz, .ref m1, .ref m2, .ref m3, .ref m4, .ref m5, .ref m6, .ref m7, .ref m8, .ref m9, .ref m10, .ref m11, .ref m12, .ref m13], ai m1 cyI 21 (f3 fh uh th), ai m2 cyI 21 (f3 fg ug tg), ai m3 cyI 21 (f3 ff uf tf), ai m4 cyI 21 (f3 fk uk tk), ai m5 cyI 3 (t3 vs us ts), ai m6 cyI 3 (t3 vb ub tb), ai m7 cyI 3 (t3 vd ud td), ai m8 cyI 3 (nF ct), ai m9 cyI 36 (q12 kd), ai m10 cyI 36 (q12 vl), ai m11 cyI 7 fr, ai m12 cyI 3 fp, ai m13 cyI 3 bp]) (qI dC dI cyI cyA (fun (r : Int32) (_ : Unit) => r = sel (okC x) x (-1)) (va_A [ob m0 4 [.int (nI n), .int kn, .int fz, .ref m1, .ref m2, .ref m3, .ref m4, .ref m5, .ref m6, .ref m7, .ref m8, .ref m9, .ref m10, .ref m11, .ref m12, .ref m13], ai m1 cyI 21 (f3 fh uh th), ai m2 cyI 21 (f3 fg ug tg), ai m3 cyI 21 (f3 ff uf tf), ai m4 cyI 21 (f3 fk uk tk), ai m5 cyI 3 (t3 vs us ts), ai m6 cyI 3 (t3 vb ub tb), ai m7 cyI 3 (t3 vd ud td), ai m8 cyI 3 (nF ct), ai m9 cyI 36 (q12 kd), ai m10 cyI 36 (q12 vl), ai m11 cyI 7 fr, ai m12 cyI 3 fp, ai m13 cyI 3 bp] sz) (fun _ => [ob m0 4 [.int (nI (sel (okC x) x.toNatClampNeg n)), .int kn, .int fz, .ref m1, .ref m2, .ref m3, .ref m4, .ref m5, .ref m6, .ref m7, .ref m8, .ref m9, .ref m10, .ref m11, .ref m12, .ref m13], ai m1 cyI 21 (f3 (sel (okC x) (zF) fh) uh th), ai m2 cyI 21 (f3 (sel (okC x) (zF) fg) ug tg), ai m3 cyI 21 (f3 (sel (okC x) (zF) ff) uf tf), ai m4 cyI 21 (f3 (sel (okC x) (zF) fk) uk tk), ai m5 cyI 3 (t3 (sel (okC x) (0) vs) us ts), ai m6 cyI 3 (t3 (sel (okC x) (0) vb) ub tb), ai m7 cyI 3 (t3 (sel (okC x) (0) vd) ud td), ai m8 cyI 3 (nF ct), ai m9 cyI 36 (q12 kd), ai m10 cyI 36 (q12 vl), ai m11 cyI 7 (sel (okC x) mF fr), ai m12 cyI 3 fp, ai m13 cyI 3 bp])) 0 0 (va_A [ob m0 4 [.int (nI n), .int kn, .int fz, .ref m1, .ref m2, .ref m3, .ref m4, .ref m5, .ref m6, .ref m7, .ref m8, .ref m9, .ref m10, .ref m11, .ref m12, .ref m13], ai m1 cyI 21 (f3 fh uh th), ai m2 cyI 21 (f3 fg ug tg), ai m3 cyI 21 (f3 ff uf tf), ai m4 cyI 21 (f3 fk uk tk), ai m5 cyI 3 (t3 vs us ts), ai m6 cyI 3 (t3 vb ub tb), ai m7 cyI 3 (t3 vd ud td), ai m8 cyI 3 (nF ct), ai m9 cyI 36 (q12 kd), ai m10 cyI 36 (q12 vl), ai m11 cyI 7 fr, ai m12 cyI 3 fp, ai m13 cyI 3 bp] sz) := by
  refine ra_metW (cc := cX4_coast) (maxL := 2) (Qc := fun A => qI dC dI cyI cyA (fun (r : Int32) (_ : Unit) => r = sel (okC x) x (-1)) A (fun _ => [ob m0 4 [.int (nI (sel (okC x) x.toNatClampNeg n)), .int kn, .int fz, .ref m1, .ref m2, .ref m3, .ref m4, .ref m5, .ref m6, .ref m7, .ref m8, .ref m9, .ref m10, .ref m11, .ref m12, .ref m13], ai m1 cyI 21 (f3 (sel (okC x) (zF) fh) uh th), ai m2 cyI 21 (f3 (sel (okC x) (zF) fg) ug tg), ai m3 cyI 21 (f3 (sel (okC x) (zF) ff) uf tf), ai m4 cyI 21 (f3 (sel (okC x) (zF) fk) uk tk), ai m5 cyI 3 (t3 (sel (okC x) (0) vs) us ts), ai m6 cyI 3 (t3 (sel (okC x) (0) vb) ub tb), ai m7 cyI 3 (t3 (sel (okC x) (0) vd) ud td), ai m8 cyI 3 (nF ct), ai m9 cyI 36 (q12 kd), ai m10 cyI 36 (q12 vl), ai m11 cyI 7 (sel (okC x) mF fr), ai m12 cyI 3 fp, ai m13 cyI 3 bp])) (by decide) rfl (Nat.le_of_ble_eq_true rfl) ?_
  intro p e s m below meth c A args Q hQ hx hb hr hlocks hml hts hown hnm hK hN hP hD hA hS ls hl
  have hl : lv_has ls 2 [(0, .ref m0), (1, .int x)] := hl
  have hown : s.vm.findClass RX4 = some m.cls := hown
  obtain ⟨H, hHe⟩ : ∃ H, H = s.heap := ⟨_, rfl⟩
  obtain ⟨locs, hLe⟩ : ∃ locs : List Loc, locs = [] := ⟨_, rfl⟩
  have hP : va_P (dC, dI) vwCl [ob m0 4 [.int (nI n), .int kn, .int fz, .ref m1, .ref m2, .ref m3, .ref m4, .ref m5, .ref m6, .ref m7, .ref m8, .ref m9, .ref m10, .ref m11, .ref m12, .ref m13], ai m1 cyI 21 (f3 fh uh th), ai m2 cyI 21 (f3 fg ug tg), ai m3 cyI 21 (f3 ff uf tf), ai m4 cyI 21 (f3 fk uk tk), ai m5 cyI 3 (t3 vs us ts), ai m6 cyI 3 (t3 vb ub tb), ai m7 cyI 3 (t3 vd ud td), ai m8 cyI 3 (nF ct), ai m9 cyI 36 (q12 kd), ai m10 cyI 36 (q12 vl), ai m11 cyI 7 fr, ai m12 cyI 3 fp, ai m13 cyI 3 bp] H := by rw [hHe]; exact hP
  have hS : va_S A s.heap H locs := by rw [hHe, hLe]; exact hS
  suffices hgo : W p l e (rm 1) s m args below meth c H locs 0 0 Q (F0 m 0 ls []) by rw [hHe, hLe] at hgo; exact hgo
  refine lv_iload_n hx hb dX4_coast_0 rfl (lv_at hl 1 rfl) ?_
  refine lv_iconst (v := 3) hx hb dX4_coast_1 (by decide) ?_
  refine lv_bipush (v := 7) hx hb dX4_coast_2 (by decide) ?_
  refine ra_cS (As := [.int x, .int 3, .int 7]) (rest := []) ⟨hx, hb, hml, hown, hts⟩ (c_X4_in l x 3 7 ) (va_cwS 3 hts gX4_coast_X4_in rfl rfl rfl (by decide +kernel) ⟨Nat.le_of_ble_eq_true rfl, Nat.le_of_ble_eq_true rfl⟩) hN rfl hl.1 rfl (Nat.le_of_ble_eq_true rfl) dX4_coast_4 ⟨Nat.le_of_ble_eq_true rfl, Nat.le_of_ble_eq_true rfl⟩ ?_
  refine lv_if_ne (tgt := 12) hx hb dX4_coast_7 (by decide) (fun c_7 => ?_) (fun c_7 => ?_)
  · ---- to 12
    have c_7 := bi_1 c_7
    obtain ⟨j, hj, rfl⟩ := i32_c37 (show okC x from c_7)
    refine lv_aload_n hx hb dX4_coast_12 rfl (lv_at hl 0 rfl) ?_
    refine lv_iload_n hx hb dX4_coast_13 rfl (lv_at hl 1 rfl) ?_
    refine ra_cV (q := (RX4, TX4, 16)) (ci := 4) (As := [.int (nI j)]) (rest := []) (wc := [ob m0 4 [.int (nI n), .int kn, .int fz, .ref m1, .ref m2, .ref m3, .ref m4, .ref m5, .ref m6, .ref m7, .ref m8, .ref m9, .ref m10, .ref m11, .ref m12, .ref m13], ai m1 cyI 21 (f3 fh uh th), ai m2 cyI 21 (f3 fg ug tg), ai m3 cyI 21 (f3 ff uf tf), ai m4 cyI 21 (f3 fk uk tk), ai m5 cyI 3 (t3 vs us ts), ai m6 cyI 3 (t3 vb ub tb), ai m7 cyI 3 (t3 vd ud td), ai m8 cyI 3 (nF ct), ai m9 cyI 36 (q12 kd), ai m10 cyI 36 (q12 vl), ai m11 cyI 7 fr, ai m12 cyI 3 fp, ai m13 cyI 3 bp]) (wr := []) ⟨hx, hb, hml, hown, hts⟩ (c_X4_begin l dC dI cyI cyA m0 m1 m2 m3 m4 m5 m6 m7 m8 m9 m10 m11 m12 m13 (nI n) kn fz fh fg ff fk uh ug uf uk th tg tf tk vs vb vd us ub ud ts tb td ct kd vl fr fp bp (nI j)  H.size) (cwV 1 hts gX4_coast_X4_begin rfl rfl rfl (by decide +kernel) ⟨Nat.le_of_ble_eq_true rfl, Nat.le_of_ble_eq_true rfl⟩) hK hN hP hD hA hS [0, 1, 2, 3, 4, 5, 6, 7, 8, 9, 10, 11, 12, 13] [] rfl rfl (by decide) (by decide) (by decide) rfl rfl rfl hl.1 rfl (Nat.le_of_ble_eq_true rfl) dX4_coast_14 ⟨Nat.le_of_ble_eq_true rfl, Nat.le_of_ble_eq_true rfl⟩ (fun u_1 hw_c1 H locs hP hD hS => ?_)
    have hP : va_P (dC, dI) vwCl [ob m0 4 [.int (nI j), .int kn, .int fz, .ref m1, .ref m2, .ref m3, .ref m4, .ref m5, .ref m6, .ref m7, .ref m8, .ref m9, .ref m10, .ref m11, .ref m12, .ref m13], ai m1 cyI 21 (f3 zF uh th), ai m2 cyI 21 (f3 zF ug tg), ai m3 cyI 21 (f3 zF uf tf), ai m4 cyI 21 (f3 zF uk tk), ai m5 cyI 3 (t3 0 us ts), ai m6 cyI 3 (t3 0 ub tb), ai m7 cyI 3 (t3 0 ud td), ai m8 cyI 3 (nF ct), ai m9 cyI 36 (q12 kd), ai m10 cyI 36 (q12 vl), ai m11 cyI 7 mF, ai m12 cyI 3 fp, ai m13 cyI 3 bp] H := hP
    have hD : va_D A [ob m0 4 [.int (nI j), .int kn, .int fz, .ref m1, .ref m2, .ref m3, .ref m4, .ref m5, .ref m6, .ref m7, .ref m8, .ref m9, .ref m10, .ref m11, .ref m12, .ref m13], ai m1 cyI 21 (f3 zF uh th), ai m2 cyI 21 (f3 zF ug tg), ai m3 cyI 21 (f3 zF uf tf), ai m4 cyI 21 (f3 zF uk tk), ai m5 cyI 3 (t3 0 us ts), ai m6 cyI 3 (t3 0 ub tb), ai m7 cyI 3 (t3 0 ud td), ai m8 cyI 3 (nF ct), ai m9 cyI 36 (q12 kd), ai m10 cyI 36 (q12 vl), ai m11 cyI 7 mF, ai m12 cyI 3 fp, ai m13 cyI 3 bp] := hD
    refine lv_iload_n hx hb dX4_coast_17 rfl (lv_at hl 1 rfl) ?_
    rw [hQ]
    simp only [sel_t (show okC (nI j) from c_7), nI_cl (show j ≤ 20 by omega)]
    exact ra_iretW () hx hb hr hlocks rfl hK hP hD hS rfl dX4_coast_18
  · ---- on
    have c_7 := bi_0 c_7
    refine lv_iconst (v := (-1)) hx hb dX4_coast_10 (by decide) ?_
    rw [hQ]
    simp only [sel_f (show ¬ okC x from c_7)]
    exact ra_iretW () hx hb hr hlocks rfl hK hP hD hS rfl dX4_coast_11

set_option maxHeartbeats 4000000 in
set_option maxRecDepth 100000 in
theorem c_X4_set (l : Launch) (dC : Nat → ClassId) (dI : Nat → Nat → Nat) (cyI cyA : ClassId) (m0 m1 m2 m3 m4 m5 m6 m7 m8 m9 m10 m11 m12 m13 n : Nat) (kn fz : Int32) (fh fg ff fk uh ug uf uk th tg tf tk : FN) (vs vb vd us ub ud ts tb td : Int32) (ct : Nat → Nat) (kd vl : Nat → FN) (fr fp bp : FN) (x wt v : Int32) (hn : n ≤ 7) (hn1 : 1 ≤ n) (hct : ∀ w, w < 3 → ct w ≤ 12) (sz : Nat) : Met l yX4_set wsX4_set (rm 2) (kW dC dI cyI cyA [.ref m0, .int x, .int wt, .int v] sz [ob m0 4 [.int (nI n), .int kn, .int fz, .ref m1, .ref m2, .ref m3, .ref m4, .ref m5, .ref m6, .ref m7, .ref m8, .ref m9, .ref m10, .ref m11, .ref m12, .ref m13], ai m1 cyI 21 (f3 fh uh th), ai m2 cyI 21 (f3 fg ug tg), ai m3 cyI 21 (f3 ff uf tf), ai m4 cyI 21 (f3 fk uk tk), ai m5 cyI 3 (t3 vs us ts), ai m6 cyI 3 (t3 vb ub tb), ai m7 cyI 3 (t3 vd ud td), ai m8 cyI 3 (nF ct), ai m9 cyI 36 (q12 kd), ai m10 cyI 36 (q12 vl), ai m11 cyI 7 fr, ai m12 cyI 3 fp, ai m13 cyI 3 bp]) (qI dC dI cyI cyA (fun (r : Int32) (_ : Unit) => r = sel (okS n x wt v) (sel (wt = 0) (fh x.toNatClampNeg) (sel (wt = 1) (fg x.toNatClampNeg) (ff x.toNatClampNeg))) (-1)) (va_A [ob m0 4 [.int (nI n), .int kn, .int fz, .ref m1, .ref m2, .ref m3, .ref m4, .ref m5, .ref m6, .ref m7, .ref m8, .ref m9, .ref m10, .ref m11, .ref m12, .ref m13], ai m1 cyI 21 (f3 fh uh th), ai m2 cyI 21 (f3 fg ug tg), ai m3 cyI 21 (f3 ff uf tf), ai m4 cyI 21 (f3 fk uk tk), ai m5 cyI 3 (t3 vs us ts), ai m6 cyI 3 (t3 vb ub tb), ai m7 cyI 3 (t3 vd ud td), ai m8 cyI 3 (nF ct), ai m9 cyI 36 (q12 kd), ai m10 cyI 36 (q12 vl), ai m11 cyI 7 fr, ai m12 cyI 3 fp, ai m13 cyI 3 bp] sz) (fun _ => [ob m0 4 [.int (nI n), .int kn, .int fz, .ref m1, .ref m2, .ref m3, .ref m4, .ref m5, .ref m6, .ref m7, .ref m8, .ref m9, .ref m10, .ref m11, .ref m12, .ref m13], ai m1 cyI 21 (f3 (sel (okS n x wt v ∧ wt = 0) (upd fh x.toNatClampNeg v) fh) uh th), ai m2 cyI 21 (f3 (sel (okS n x wt v ∧ wt = 1) (upd fg x.toNatClampNeg v) fg) ug tg), ai m3 cyI 21 (f3 (sel (okS n x wt v ∧ wt = 2) (upd ff x.toNatClampNeg v) ff) uf tf), ai m4 cyI 21 (f3 fk uk tk), ai m5 cyI 3 (t3 vs us ts), ai m6 cyI 3 (t3 vb ub tb), ai m7 cyI 3 (t3 vd ud td), ai m8 cyI 3 (nF ct), ai m9 cyI 36 (q12 kd), ai m10 cyI 36 (q12 vl), ai m11 cyI 7 fr, ai m12 cyI 3 fp, ai m13 cyI 3 bp])) 0 0 (va_A [ob m0 4 [.int (nI n), .int kn, .int fz, .ref m1, .ref m2, .ref m3, .ref m4, .ref m5, .ref m6, .ref m7, .ref m8, .ref m9, .ref m10, .ref m11, .ref m12, .ref m13], ai m1 cyI 21 (f3 fh uh th), ai m2 cyI 21 (f3 fg ug tg), ai m3 cyI 21 (f3 ff uf tf), ai m4 cyI 21 (f3 fk uk tk), ai m5 cyI 3 (t3 vs us ts), ai m6 cyI 3 (t3 vb ub tb), ai m7 cyI 3 (t3 vd ud td), ai m8 cyI 3 (nF ct), ai m9 cyI 36 (q12 kd), ai m10 cyI 36 (q12 vl), ai m11 cyI 7 fr, ai m12 cyI 3 fp, ai m13 cyI 3 bp] sz) := by
  refine ra_metW (cc := cX4_set) (maxL := 5) (Qc := fun A => qI dC dI cyI cyA (fun (r : Int32) (_ : Unit) => r = sel (okS n x wt v) (sel (wt = 0) (fh x.toNatClampNeg) (sel (wt = 1) (fg x.toNatClampNeg) (ff x.toNatClampNeg))) (-1)) A (fun _ => [ob m0 4 [.int (nI n), .int kn, .int fz, .ref m1, .ref m2, .ref m3, .ref m4, .ref m5, .ref m6, .ref m7, .ref m8, .ref m9, .ref m10, .ref m11, .ref m12, .ref m13], ai m1 cyI 21 (f3 (sel (okS n x wt v ∧ wt = 0) (upd fh x.toNatClampNeg v) fh) uh th), ai m2 cyI 21 (f3 (sel (okS n x wt v ∧ wt = 1) (upd fg x.toNatClampNeg v) fg) ug tg), ai m3 cyI 21 (f3 (sel (okS n x wt v ∧ wt = 2) (upd ff x.toNatClampNeg v) ff) uf tf), ai m4 cyI 21 (f3 fk uk tk), ai m5 cyI 3 (t3 vs us ts), ai m6 cyI 3 (t3 vb ub tb), ai m7 cyI 3 (t3 vd ud td), ai m8 cyI 3 (nF ct), ai m9 cyI 36 (q12 kd), ai m10 cyI 36 (q12 vl), ai m11 cyI 7 fr, ai m12 cyI 3 fp, ai m13 cyI 3 bp])) (by decide) rfl (Nat.le_of_ble_eq_true rfl) ?_
  intro p e s m below meth c A args Q hQ hx hb hr hlocks hml hts hown hnm hK hN hP hD hA hS ls hl
  have hl : lv_has ls 5 [(0, .ref m0), (1, .int x), (2, .int wt), (3, .int v)] := hl
  have hown : s.vm.findClass RX4 = some m.cls := hown
  have hw_1 := hts (.fieldLink RX4 16 "DuneBenchModel" "height" "[I") (by decide +kernel)
  have hin_X4 : ∀ w ∈ u_ws RX4 TX4 16, w ∈ wsX4_set := by decide +kernel
  have hw_3 := hts (.fieldLink RX4 20 "DuneBenchModel" "grass" "[I") (by decide +kernel)
  have hw_4 := hts (.fieldLink RX4 23 "DuneBenchModel" "fence" "[I") (by decide +kernel)
  obtain ⟨H, hHe⟩ : ∃ H, H = s.heap := ⟨_, rfl⟩
  obtain ⟨locs, hLe⟩ : ∃ locs : List Loc, locs = [] := ⟨_, rfl⟩
  have hP : va_P (dC, dI) vwCl [ob m0 4 [.int (nI n), .int kn, .int fz, .ref m1, .ref m2, .ref m3, .ref m4, .ref m5, .ref m6, .ref m7, .ref m8, .ref m9, .ref m10, .ref m11, .ref m12, .ref m13], ai m1 cyI 21 (f3 fh uh th), ai m2 cyI 21 (f3 fg ug tg), ai m3 cyI 21 (f3 ff uf tf), ai m4 cyI 21 (f3 fk uk tk), ai m5 cyI 3 (t3 vs us ts), ai m6 cyI 3 (t3 vb ub tb), ai m7 cyI 3 (t3 vd ud td), ai m8 cyI 3 (nF ct), ai m9 cyI 36 (q12 kd), ai m10 cyI 36 (q12 vl), ai m11 cyI 7 fr, ai m12 cyI 3 fp, ai m13 cyI 3 bp] H := by rw [hHe]; exact hP
  have hS : va_S A s.heap H locs := by rw [hHe, hLe]; exact hS
  suffices hgo : W p l e (rm 2) s m args below meth c H locs 0 0 Q (F0 m 0 ls []) by rw [hHe, hLe] at hgo; exact hgo
  refine lv_aload_n hx hb dX4_set_0 rfl (lv_at hl 0 rfl) ?_
  refine lv_iload_n hx hb dX4_set_1 rfl (lv_at hl 1 rfl) ?_
  refine ra_cR (q := (RX4, TX4, 16)) (ci := 4) (As := [.int x]) (rest := []) (wc := [ob m0 4 [.int (nI n), .int kn, .int fz, .ref m1, .ref m2, .ref m3, .ref m4, .ref m5, .ref m6, .ref m7, .ref m8, .ref m9, .ref m10, .ref m11, .ref m12, .ref m13], ai m1 cyI 21 (f3 fh uh th), ai m2 cyI 21 (f3 fg ug tg), ai m3 cyI 21 (f3 ff uf tf), ai m4 cyI 21 (f3 fk uk tk), ai m5 cyI 3 (t3 vs us ts), ai m6 cyI 3 (t3 vb ub tb), ai m7 cyI 3 (t3 vd ud td), ai m8 cyI 3 (nF ct), ai m9 cyI 36 (q12 kd), ai m10 cyI 36 (q12 vl), ai m11 cyI 7 fr, ai m12 cyI 3 fp, ai m13 cyI 3 bp]) ⟨hx, hb, hml, hown, hts⟩ (c_X4_isCell l dC dI cyI cyA m0 m1 m2 m3 m4 m5 m6 m7 m8 m9 m10 m11 m12 m13 n kn fz fh fg ff fk uh ug uf uk th tg tf tk vs vb vd us ub ud ts tb td ct kd vl fr fp bp x (by omega) (by omega)) (cwV 1 hts gX4_set_X4_isCell rfl rfl rfl (by decide +kernel) ⟨Nat.le_of_ble_eq_true rfl, Nat.le_of_ble_eq_true rfl⟩) hK hN hP [0, 1, 2, 3, 4, 5, 6, 7, 8, 9, 10, 11, 12, 13] rfl rfl rfl rfl hl.1 rfl (Nat.le_of_ble_eq_true rfl) dX4_set_2 ⟨Nat.le_of_ble_eq_true rfl, Nat.le_of_ble_eq_true rfl⟩ ?_
  refine lv_if_eq (tgt := 46) hx hb dX4_set_5 (by decide) (fun c_5 => ?_) (fun c_5 => ?_)
  · ---- to 46
    have c_5 := bi_0 c_5
    refine lv_iconst (v := (-1)) hx hb dX4_set_46 (by decide) ?_
    rw [hQ]
    simp only [sel_f (show ¬ okS n x wt v from fun q => c_5 q.1), sel_f (show ¬ (okS n x wt v ∧ wt = 0) from fun q => (fun q => c_5 q.1) q.1), sel_f (show ¬ (okS n x wt v ∧ wt = 1) from fun q => (fun q => c_5 q.1) q.1), sel_f (show ¬ (okS n x wt v ∧ wt = 2) from fun q => (fun q => c_5 q.1) q.1)]
    exact ra_iretW () hx hb hr hlocks rfl hK hP hD hS rfl dX4_set_47
  · ---- on
    have c_5 := bi_1 c_5
    refine lv_iload_n hx hb dX4_set_8 rfl (lv_at hl 2 rfl) ?_
    refine lv_iconst (v := 0) hx hb dX4_set_9 (by decide) ?_
    refine lv_iconst (v := 2) hx hb dX4_set_10 (by decide) ?_
    refine ra_cS (As := [.int wt, .int 0, .int 2]) (rest := []) ⟨hx, hb, hml, hown, hts⟩ (c_X4_in l wt 0 2 ) (va_cwS 3 hts gX4_set_X4_in rfl rfl rfl (by decide +kernel) ⟨Nat.le_of_ble_eq_true rfl, Nat.le_of_ble_eq_true rfl⟩) hN rfl hl.1 rfl (Nat.le_of_ble_eq_true rfl) dX4_set_11 ⟨Nat.le_of_ble_eq_true rfl, Nat.le_of_ble_eq_true rfl⟩ ?_
    refine lv_if_eq (tgt := 46) hx hb dX4_set_14 (by decide) (fun c_14 => ?_) (fun c_14 => ?_)
    · ---- to 46
      have c_14 := bi_0 c_14
      refine lv_iconst (v := (-1)) hx hb dX4_set_46 (by decide) ?_
      rw [hQ]
      simp only [sel_f (show ¬ okS n x wt v from fun q => c_14 q.2.1), sel_f (show ¬ (okS n x wt v ∧ wt = 0) from fun q => (fun q => c_14 q.2.1) q.1), sel_f (show ¬ (okS n x wt v ∧ wt = 1) from fun q => (fun q => c_14 q.2.1) q.1), sel_f (show ¬ (okS n x wt v ∧ wt = 2) from fun q => (fun q => c_14 q.2.1) q.1)]
      exact ra_iretW () hx hb hr hlocks rfl hK hP hD hS rfl dX4_set_47
    · ---- on
      have c_14 := bi_1 c_14
      refine lv_iload_n hx hb dX4_set_17 rfl (lv_at hl 3 rfl) ?_
      refine lv_iconst (v := 0) hx hb dX4_set_18 (by decide) ?_
      refine lv_iload_n hx hb dX4_set_19 rfl (lv_at hl 2 rfl) ?_
      have J_40_1 : ∀ v_40_1 : Int32, v_40_1 = (mostV wt) → W p l e (rm 2) s m args below meth c H locs 0 0 Q (F0 m 40 ls [.int v_40_1, .int 0, .int v]) := by
        intro v_40_1 ev_40_1
        subst ev_40_1
        refine ra_cS (As := [.int v, .int 0, .int (mostV wt)]) (rest := []) ⟨hx, hb, hml, hown, hts⟩ (c_X4_in l v 0 (mostV wt) ) (va_cwS 3 hts gX4_set_X4_in rfl rfl rfl (by decide +kernel) ⟨Nat.le_of_ble_eq_true rfl, Nat.le_of_ble_eq_true rfl⟩) hN rfl hl.1 rfl (Nat.le_of_ble_eq_true rfl) dX4_set_40 ⟨Nat.le_of_ble_eq_true rfl, Nat.le_of_ble_eq_true rfl⟩ ?_
        refine lv_if_ne (tgt := 48) hx hb dX4_set_43 (by decide) (fun c_43 => ?_) (fun c_43 => ?_)
        · ---- to 48
          have c_43 := bi_1 c_43
          obtain ⟨j, hj, rfl⟩ := i32_natn c_5 hn
          rcases i32_split3 c_14 with rfl | rfl | rfl
          ·
            refine lv_iload_n hx hb dX4_set_48 rfl (lv_at hl 2 rfl) ?_
            refine lv_if_ne (tgt := 61) hx hb dX4_set_49 (by decide) (fun c_49 => ?_) (fun c_49 => ?_)
            · ---- to 61
              exact absurd c_49 (by decide)
            · ---- on
              refine lv_aload_n hx hb dX4_set_52 rfl (lv_at hl 0 rfl) ?_
              refine va_get (D := (dC, dI)) (ci := 4) (v := .ref m1) (C := RX4) (T := TX4) (N := 16) hx hb hts hin_X4 hown hK hP 0 rfl rfl 3 (by decide) hw_1 (fun _ h9 => h9) rfl dX4_set_53 ?_
              refine lv_iload_n hx hb dX4_set_56 rfl (lv_at hl 1 rfl) ?_
              refine ra_iald hx hb hK hP 1 rfl j rfl (by omega) (Nat.le_of_ble_eq_true rfl) dX4_set_57 ?_
              refine ra_top (fh j) (f3_r0 _ _ _ (by omega)) ?_
              refine lv_goto (tgt := 81) hx hb dX4_set_58 (by decide) ?_
              refine lv_istore (lv' := [(4, .int (fh j)), (0, .ref m0), (1, .int (nI j)), (2, .int 0), (3, .int v)]) hx hb dX4_set_81 hl (by decide) rfl (fun ls hl => ?_)
              refine lv_aload_n hx hb dX4_set_83 rfl (lv_at hl 1 rfl) ?_
              refine va_get (D := (dC, dI)) (ci := 4) (v := .ref m1) (C := RX4) (T := TX4) (N := 16) hx hb hts hin_X4 hown hK hP 0 rfl rfl 3 (by decide) hw_1 (fun _ h9 => h9) rfl dX4_set_84 ?_
              refine lv_iload_n hx hb dX4_set_87 rfl (lv_at hl 2 rfl) ?_
              refine lv_iload_n hx hb dX4_set_88 rfl (lv_at hl 3 rfl) ?_
              refine lv_if_ne (tgt := 96) hx hb dX4_set_89 (by decide) (fun c_89 => ?_) (fun c_89 => ?_)
              · ---- to 96
                exact absurd c_89 (by decide)
              · ---- on
                refine lv_iload_n hx hb dX4_set_92 rfl (lv_at hl 4 rfl) ?_
                refine lv_goto (tgt := 102) hx hb dX4_set_93 (by decide) ?_
                refine ra_iast hx hb hK hP hD hS 1 rfl j rfl (by omega) (Nat.le_of_ble_eq_true rfl) dX4_set_102 (fun H locs hP hD hS => ?_)
                rw [f3_w0 _ _ _ _ (by omega)] at hP hD
                have hP : va_P (dC, dI) vwCl [ob m0 4 [.int (nI n), .int kn, .int fz, .ref m1, .ref m2, .ref m3, .ref m4, .ref m5, .ref m6, .ref m7, .ref m8, .ref m9, .ref m10, .ref m11, .ref m12, .ref m13], ai m1 cyI 21 (f3 (upd fh j v) uh th), ai m2 cyI 21 (f3 fg ug tg), ai m3 cyI 21 (f3 ff uf tf), ai m4 cyI 21 (f3 fk uk tk), ai m5 cyI 3 (t3 vs us ts), ai m6 cyI 3 (t3 vb ub tb), ai m7 cyI 3 (t3 vd ud td), ai m8 cyI 3 (nF ct), ai m9 cyI 36 (q12 kd), ai m10 cyI 36 (q12 vl), ai m11 cyI 7 fr, ai m12 cyI 3 fp, ai m13 cyI 3 bp] H := hP
                have hD : va_D A [ob m0 4 [.int (nI n), .int kn, .int fz, .ref m1, .ref m2, .ref m3, .ref m4, .ref m5, .ref m6, .ref m7, .ref m8, .ref m9, .ref m10, .ref m11, .ref m12, .ref m13], ai m1 cyI 21 (f3 (upd fh j v) uh th), ai m2 cyI 21 (f3 fg ug tg), ai m3 cyI 21 (f3 ff uf tf), ai m4 cyI 21 (f3 fk uk tk), ai m5 cyI 3 (t3 vs us ts), ai m6 cyI 3 (t3 vb ub tb), ai m7 cyI 3 (t3 vd ud td), ai m8 cyI 3 (nF ct), ai m9 cyI 36 (q12 kd), ai m10 cyI 36 (q12 vl), ai m11 cyI 7 fr, ai m12 cyI 3 fp, ai m13 cyI 3 bp] := hD
                refine lv_aload_n hx hb dX4_set_103 rfl (lv_at hl 1 rfl) ?_
                refine va_get (D := (dC, dI)) (ci := 4) (v := .ref m2) (C := RX4) (T := TX4) (N := 16) hx hb hts hin_X4 hown hK hP 0 rfl rfl 4 (by decide) hw_3 (fun _ h9 => h9) rfl dX4_set_104 ?_
                refine lv_iload_n hx hb dX4_set_107 rfl (lv_at hl 2 rfl) ?_
                refine lv_iload_n hx hb dX4_set_108 rfl (lv_at hl 3 rfl) ?_
                refine lv_iconst (v := 1) hx hb dX4_set_109 (by decide) ?_
                refine lv_icmp_ne (tgt := 117) hx hb dX4_set_110 (by decide) (fun c_110 => ?_) (fun c_110 => ?_)
                · ---- to 117
                  refine lv_aload_n hx hb dX4_set_117 rfl (lv_at hl 1 rfl) ?_
                  refine va_get (D := (dC, dI)) (ci := 4) (v := .ref m2) (C := RX4) (T := TX4) (N := 16) hx hb hts hin_X4 hown hK hP 0 rfl rfl 4 (by decide) hw_3 (fun _ h9 => h9) rfl dX4_set_118 ?_
                  refine lv_iload_n hx hb dX4_set_121 rfl (lv_at hl 2 rfl) ?_
                  refine ra_iald hx hb hK hP 2 rfl j rfl (by omega) (Nat.le_of_ble_eq_true rfl) dX4_set_122 ?_
                  refine ra_top (fg j) (f3_r0 _ _ _ (by omega)) ?_
                  refine ra_iast hx hb hK hP hD hS 2 rfl j rfl (by omega) (Nat.le_of_ble_eq_true rfl) dX4_set_123 (fun H locs hP hD hS => ?_)
                  rw [f3_w0 _ _ _ _ (by omega), upd_self] at hP hD
                  have hP : va_P (dC, dI) vwCl [ob m0 4 [.int (nI n), .int kn, .int fz, .ref m1, .ref m2, .ref m3, .ref m4, .ref m5, .ref m6, .ref m7, .ref m8, .ref m9, .ref m10, .ref m11, .ref m12, .ref m13], ai m1 cyI 21 (f3 (upd fh j v) uh th), ai m2 cyI 21 (f3 fg ug tg), ai m3 cyI 21 (f3 ff uf tf), ai m4 cyI 21 (f3 fk uk tk), ai m5 cyI 3 (t3 vs us ts), ai m6 cyI 3 (t3 vb ub tb), ai m7 cyI 3 (t3 vd ud td), ai m8 cyI 3 (nF ct), ai m9 cyI 36 (q12 kd), ai m10 cyI 36 (q12 vl), ai m11 cyI 7 fr, ai m12 cyI 3 fp, ai m13 cyI 3 bp] H := hP
                  have hD : va_D A [ob m0 4 [.int (nI n), .int kn, .int fz, .ref m1, .ref m2, .ref m3, .ref m4, .ref m5, .ref m6, .ref m7, .ref m8, .ref m9, .ref m10, .ref m11, .ref m12, .ref m13], ai m1 cyI 21 (f3 (upd fh j v) uh th), ai m2 cyI 21 (f3 fg ug tg), ai m3 cyI 21 (f3 ff uf tf), ai m4 cyI 21 (f3 fk uk tk), ai m5 cyI 3 (t3 vs us ts), ai m6 cyI 3 (t3 vb ub tb), ai m7 cyI 3 (t3 vd ud td), ai m8 cyI 3 (nF ct), ai m9 cyI 36 (q12 kd), ai m10 cyI 36 (q12 vl), ai m11 cyI 7 fr, ai m12 cyI 3 fp, ai m13 cyI 3 bp] := hD
                  refine lv_aload_n hx hb dX4_set_124 rfl (lv_at hl 1 rfl) ?_
                  refine va_get (D := (dC, dI)) (ci := 4) (v := .ref m3) (C := RX4) (T := TX4) (N := 16) hx hb hts hin_X4 hown hK hP 0 rfl rfl 5 (by decide) hw_4 (fun _ h9 => h9) rfl dX4_set_125 ?_
                  refine lv_iload_n hx hb dX4_set_128 rfl (lv_at hl 2 rfl) ?_
                  refine lv_iload_n hx hb dX4_set_129 rfl (lv_at hl 3 rfl) ?_
                  refine lv_iconst (v := 2) hx hb dX4_set_130 (by decide) ?_
                  refine lv_icmp_ne (tgt := 138) hx hb dX4_set_131 (by decide) (fun c_131 => ?_) (fun c_131 => ?_)
                  · ---- to 138
                    refine lv_aload_n hx hb dX4_set_138 rfl (lv_at hl 1 rfl) ?_
                    refine va_get (D := (dC, dI)) (ci := 4) (v := .ref m3) (C := RX4) (T := TX4) (N := 16) hx hb hts hin_X4 hown hK hP 0 rfl rfl 5 (by decide) hw_4 (fun _ h9 => h9) rfl dX4_set_139 ?_
                    refine lv_iload_n hx hb dX4_set_142 rfl (lv_at hl 2 rfl) ?_
                    refine ra_iald hx hb hK hP 3 rfl j rfl (by omega) (Nat.le_of_ble_eq_true rfl) dX4_set_143 ?_
                    refine ra_top (ff j) (f3_r0 _ _ _ (by omega)) ?_
                    refine ra_iast hx hb hK hP hD hS 3 rfl j rfl (by omega) (Nat.le_of_ble_eq_true rfl) dX4_set_144 (fun H locs hP hD hS => ?_)
                    rw [f3_w0 _ _ _ _ (by omega), upd_self] at hP hD
                    have hP : va_P (dC, dI) vwCl [ob m0 4 [.int (nI n), .int kn, .int fz, .ref m1, .ref m2, .ref m3, .ref m4, .ref m5, .ref m6, .ref m7, .ref m8, .ref m9, .ref m10, .ref m11, .ref m12, .ref m13], ai m1 cyI 21 (f3 (upd fh j v) uh th), ai m2 cyI 21 (f3 fg ug tg), ai m3 cyI 21 (f3 ff uf tf), ai m4 cyI 21 (f3 fk uk tk), ai m5 cyI 3 (t3 vs us ts), ai m6 cyI 3 (t3 vb ub tb), ai m7 cyI 3 (t3 vd ud td), ai m8 cyI 3 (nF ct), ai m9 cyI 36 (q12 kd), ai m10 cyI 36 (q12 vl), ai m11 cyI 7 fr, ai m12 cyI 3 fp, ai m13 cyI 3 bp] H := hP
                    have hD : va_D A [ob m0 4 [.int (nI n), .int kn, .int fz, .ref m1, .ref m2, .ref m3, .ref m4, .ref m5, .ref m6, .ref m7, .ref m8, .ref m9, .ref m10, .ref m11, .ref m12, .ref m13], ai m1 cyI 21 (f3 (upd fh j v) uh th), ai m2 cyI 21 (f3 fg ug tg), ai m3 cyI 21 (f3 ff uf tf), ai m4 cyI 21 (f3 fk uk tk), ai m5 cyI 3 (t3 vs us ts), ai m6 cyI 3 (t3 vb ub tb), ai m7 cyI 3 (t3 vd ud td), ai m8 cyI 3 (nF ct), ai m9 cyI 36 (q12 kd), ai m10 cyI 36 (q12 vl), ai m11 cyI 7 fr, ai m12 cyI 3 fp, ai m13 cyI 3 bp] := hD
                    refine lv_iload hx hb dX4_set_145 (lv_at hl 0 rfl) ?_
                    rw [hQ]
                    have hok : okS n (nI j) 0 v := ⟨c_5, c_14, c_43⟩
                    simp only [eq_false (show ¬ (0 : Int32) = 1 by decide), eq_false (show ¬ (0 : Int32) = 2 by decide), eq_self, and_true, and_false, sel_T, sel_F, sel_t hok, nI_cl (show j ≤ 20 by omega)]
                    exact ra_iretW () hx hb hr hlocks rfl hK hP hD hS rfl dX4_set_147
                  · ---- on
                    exact absurd c_131 (by decide)
                · ---- on
                  exact absurd c_110 (by decide)
          ·
            refine lv_iload_n hx hb dX4_set_48 rfl (lv_at hl 2 rfl) ?_
            refine lv_if_ne (tgt := 61) hx hb dX4_set_49 (by decide) (fun c_49 => ?_) (fun c_49 => ?_)
            · ---- to 61
              refine lv_iload_n hx hb dX4_set_61 rfl (lv_at hl 2 rfl) ?_
              refine lv_iconst (v := 1) hx hb dX4_set_62 (by decide) ?_
              refine lv_icmp_ne (tgt := 75) hx hb dX4_set_63 (by decide) (fun c_63 => ?_) (fun c_63 => ?_)
              · ---- to 75
                exact absurd c_63 (by decide)
              · ---- on
                refine lv_aload_n hx hb dX4_set_66 rfl (lv_at hl 0 rfl) ?_
                refine va_get (D := (dC, dI)) (ci := 4) (v := .ref m2) (C := RX4) (T := TX4) (N := 16) hx hb hts hin_X4 hown hK hP 0 rfl rfl 4 (by decide) hw_3 (fun _ h9 => h9) rfl dX4_set_67 ?_
                refine lv_iload_n hx hb dX4_set_70 rfl (lv_at hl 1 rfl) ?_
                refine ra_iald hx hb hK hP 2 rfl j rfl (by omega) (Nat.le_of_ble_eq_true rfl) dX4_set_71 ?_
                refine ra_top (fg j) (f3_r0 _ _ _ (by omega)) ?_
                refine lv_goto (tgt := 81) hx hb dX4_set_72 (by decide) ?_
                refine lv_istore (lv' := [(4, .int (fg j)), (0, .ref m0), (1, .int (nI j)), (2, .int 1), (3, .int v)]) hx hb dX4_set_81 hl (by decide) rfl (fun ls hl => ?_)
                refine lv_aload_n hx hb dX4_set_83 rfl (lv_at hl 1 rfl) ?_
                refine va_get (D := (dC, dI)) (ci := 4) (v := .ref m1) (C := RX4) (T := TX4) (N := 16) hx hb hts hin_X4 hown hK hP 0 rfl rfl 3 (by decide) hw_1 (fun _ h9 => h9) rfl dX4_set_84 ?_
                refine lv_iload_n hx hb dX4_set_87 rfl (lv_at hl 2 rfl) ?_
                refine lv_iload_n hx hb dX4_set_88 rfl (lv_at hl 3 rfl) ?_
                refine lv_if_ne (tgt := 96) hx hb dX4_set_89 (by decide) (fun c_89 => ?_) (fun c_89 => ?_)
                · ---- to 96
                  refine lv_aload_n hx hb dX4_set_96 rfl (lv_at hl 1 rfl) ?_
                  refine va_get (D := (dC, dI)) (ci := 4) (v := .ref m1) (C := RX4) (T := TX4) (N := 16) hx hb hts hin_X4 hown hK hP 0 rfl rfl 3 (by decide) hw_1 (fun _ h9 => h9) rfl dX4_set_97 ?_
                  refine lv_iload_n hx hb dX4_set_100 rfl (lv_at hl 2 rfl) ?_
                  refine ra_iald hx hb hK hP 1 rfl j rfl (by omega) (Nat.le_of_ble_eq_true rfl) dX4_set_101 ?_
                  refine ra_top (fh j) (f3_r0 _ _ _ (by omega)) ?_
                  refine ra_iast hx hb hK hP hD hS 1 rfl j rfl (by omega) (Nat.le_of_ble_eq_true rfl) dX4_set_102 (fun H locs hP hD hS => ?_)
                  rw [f3_w0 _ _ _ _ (by omega), upd_self] at hP hD
                  have hP : va_P (dC, dI) vwCl [ob m0 4 [.int (nI n), .int kn, .int fz, .ref m1, .ref m2, .ref m3, .ref m4, .ref m5, .ref m6, .ref m7, .ref m8, .ref m9, .ref m10, .ref m11, .ref m12, .ref m13], ai m1 cyI 21 (f3 fh uh th), ai m2 cyI 21 (f3 fg ug tg), ai m3 cyI 21 (f3 ff uf tf), ai m4 cyI 21 (f3 fk uk tk), ai m5 cyI 3 (t3 vs us ts), ai m6 cyI 3 (t3 vb ub tb), ai m7 cyI 3 (t3 vd ud td), ai m8 cyI 3 (nF ct), ai m9 cyI 36 (q12 kd), ai m10 cyI 36 (q12 vl), ai m11 cyI 7 fr, ai m12 cyI 3 fp, ai m13 cyI 3 bp] H := hP
                  have hD : va_D A [ob m0 4 [.int (nI n), .int kn, .int fz, .ref m1, .ref m2, .ref m3, .ref m4, .ref m5, .ref m6, .ref m7, .ref m8, .ref m9, .ref m10, .ref m11, .ref m12, .ref m13], ai m1 cyI 21 (f3 fh uh th), ai m2 cyI 21 (f3 fg ug tg), ai m3 cyI 21 (f3 ff uf tf), ai m4 cyI 21 (f3 fk uk tk), ai m5 cyI 3 (t3 vs us ts), ai m6 cyI 3 (t3 vb ub tb), ai m7 cyI 3 (t3 vd ud td), ai m8 cyI 3 (nF ct), ai m9 cyI 36 (q12 kd), ai m10 cyI 36 (q12 vl), ai m11 cyI 7 fr, ai m12 cyI 3 fp, ai m13 cyI 3 bp] := hD
                  refine lv_aload_n hx hb dX4_set_103 rfl (lv_at hl 1 rfl) ?_
                  refine va_get (D := (dC, dI)) (ci := 4) (v := .ref m2) (C := RX4) (T := TX4) (N := 16) hx hb hts hin_X4 hown hK hP 0 rfl rfl 4 (by decide) hw_3 (fun _ h9 => h9) rfl dX4_set_104 ?_
                  refine lv_iload_n hx hb dX4_set_107 rfl (lv_at hl 2 rfl) ?_
                  refine lv_iload_n hx hb dX4_set_108 rfl (lv_at hl 3 rfl) ?_
                  refine lv_iconst (v := 1) hx hb dX4_set_109 (by decide) ?_
                  refine lv_icmp_ne (tgt := 117) hx hb dX4_set_110 (by decide) (fun c_110 => ?_) (fun c_110 => ?_)
                  · ---- to 117
                    exact absurd c_110 (by decide)
                  · ---- on
                    refine lv_iload_n hx hb dX4_set_113 rfl (lv_at hl 4 rfl) ?_
                    refine lv_goto (tgt := 123) hx hb dX4_set_114 (by decide) ?_
                    refine ra_iast hx hb hK hP hD hS 2 rfl j rfl (by omega) (Nat.le_of_ble_eq_true rfl) dX4_set_123 (fun H locs hP hD hS => ?_)
                    rw [f3_w0 _ _ _ _ (by omega)] at hP hD
                    have hP : va_P (dC, dI) vwCl [ob m0 4 [.int (nI n), .int kn, .int fz, .ref m1, .ref m2, .ref m3, .ref m4, .ref m5, .ref m6, .ref m7, .ref m8, .ref m9, .ref m10, .ref m11, .ref m12, .ref m13], ai m1 cyI 21 (f3 fh uh th), ai m2 cyI 21 (f3 (upd fg j v) ug tg), ai m3 cyI 21 (f3 ff uf tf), ai m4 cyI 21 (f3 fk uk tk), ai m5 cyI 3 (t3 vs us ts), ai m6 cyI 3 (t3 vb ub tb), ai m7 cyI 3 (t3 vd ud td), ai m8 cyI 3 (nF ct), ai m9 cyI 36 (q12 kd), ai m10 cyI 36 (q12 vl), ai m11 cyI 7 fr, ai m12 cyI 3 fp, ai m13 cyI 3 bp] H := hP
                    have hD : va_D A [ob m0 4 [.int (nI n), .int kn, .int fz, .ref m1, .ref m2, .ref m3, .ref m4, .ref m5, .ref m6, .ref m7, .ref m8, .ref m9, .ref m10, .ref m11, .ref m12, .ref m13], ai m1 cyI 21 (f3 fh uh th), ai m2 cyI 21 (f3 (upd fg j v) ug tg), ai m3 cyI 21 (f3 ff uf tf), ai m4 cyI 21 (f3 fk uk tk), ai m5 cyI 3 (t3 vs us ts), ai m6 cyI 3 (t3 vb ub tb), ai m7 cyI 3 (t3 vd ud td), ai m8 cyI 3 (nF ct), ai m9 cyI 36 (q12 kd), ai m10 cyI 36 (q12 vl), ai m11 cyI 7 fr, ai m12 cyI 3 fp, ai m13 cyI 3 bp] := hD
                    refine lv_aload_n hx hb dX4_set_124 rfl (lv_at hl 1 rfl) ?_
                    refine va_get (D := (dC, dI)) (ci := 4) (v := .ref m3) (C := RX4) (T := TX4) (N := 16) hx hb hts hin_X4 hown hK hP 0 rfl rfl 5 (by decide) hw_4 (fun _ h9 => h9) rfl dX4_set_125 ?_
                    refine lv_iload_n hx hb dX4_set_128 rfl (lv_at hl 2 rfl) ?_
                    refine lv_iload_n hx hb dX4_set_129 rfl (lv_at hl 3 rfl) ?_
                    refine lv_iconst (v := 2) hx hb dX4_set_130 (by decide) ?_
                    refine lv_icmp_ne (tgt := 138) hx hb dX4_set_131 (by decide) (fun c_131 => ?_) (fun c_131 => ?_)
                    · ---- to 138
                      refine lv_aload_n hx hb dX4_set_138 rfl (lv_at hl 1 rfl) ?_
                      refine va_get (D := (dC, dI)) (ci := 4) (v := .ref m3) (C := RX4) (T := TX4) (N := 16) hx hb hts hin_X4 hown hK hP 0 rfl rfl 5 (by decide) hw_4 (fun _ h9 => h9) rfl dX4_set_139 ?_
                      refine lv_iload_n hx hb dX4_set_142 rfl (lv_at hl 2 rfl) ?_
                      refine ra_iald hx hb hK hP 3 rfl j rfl (by omega) (Nat.le_of_ble_eq_true rfl) dX4_set_143 ?_
                      refine ra_top (ff j) (f3_r0 _ _ _ (by omega)) ?_
                      refine ra_iast hx hb hK hP hD hS 3 rfl j rfl (by omega) (Nat.le_of_ble_eq_true rfl) dX4_set_144 (fun H locs hP hD hS => ?_)
                      rw [f3_w0 _ _ _ _ (by omega), upd_self] at hP hD
                      have hP : va_P (dC, dI) vwCl [ob m0 4 [.int (nI n), .int kn, .int fz, .ref m1, .ref m2, .ref m3, .ref m4, .ref m5, .ref m6, .ref m7, .ref m8, .ref m9, .ref m10, .ref m11, .ref m12, .ref m13], ai m1 cyI 21 (f3 fh uh th), ai m2 cyI 21 (f3 (upd fg j v) ug tg), ai m3 cyI 21 (f3 ff uf tf), ai m4 cyI 21 (f3 fk uk tk), ai m5 cyI 3 (t3 vs us ts), ai m6 cyI 3 (t3 vb ub tb), ai m7 cyI 3 (t3 vd ud td), ai m8 cyI 3 (nF ct), ai m9 cyI 36 (q12 kd), ai m10 cyI 36 (q12 vl), ai m11 cyI 7 fr, ai m12 cyI 3 fp, ai m13 cyI 3 bp] H := hP
                      have hD : va_D A [ob m0 4 [.int (nI n), .int kn, .int fz, .ref m1, .ref m2, .ref m3, .ref m4, .ref m5, .ref m6, .ref m7, .ref m8, .ref m9, .ref m10, .ref m11, .ref m12, .ref m13], ai m1 cyI 21 (f3 fh uh th), ai m2 cyI 21 (f3 (upd fg j v) ug tg), ai m3 cyI 21 (f3 ff uf tf), ai m4 cyI 21 (f3 fk uk tk), ai m5 cyI 3 (t3 vs us ts), ai m6 cyI 3 (t3 vb ub tb), ai m7 cyI 3 (t3 vd ud td), ai m8 cyI 3 (nF ct), ai m9 cyI 36 (q12 kd), ai m10 cyI 36 (q12 vl), ai m11 cyI 7 fr, ai m12 cyI 3 fp, ai m13 cyI 3 bp] := hD
                      refine lv_iload hx hb dX4_set_145 (lv_at hl 0 rfl) ?_
                      rw [hQ]
                      have hok : okS n (nI j) 1 v := ⟨c_5, c_14, c_43⟩
                      simp only [eq_false (show ¬ (1 : Int32) = 0 by decide), eq_false (show ¬ (1 : Int32) = 2 by decide), eq_self, and_true, and_false, sel_T, sel_F, sel_t hok, nI_cl (show j ≤ 20 by omega)]
                      exact ra_iretW () hx hb hr hlocks rfl hK hP hD hS rfl dX4_set_147
                    · ---- on
                      exact absurd c_131 (by decide)
                · ---- on
                  exact absurd c_89 (by decide)
            · ---- on
              exact absurd c_49 (by decide)
          ·
            refine lv_iload_n hx hb dX4_set_48 rfl (lv_at hl 2 rfl) ?_
            refine lv_if_ne (tgt := 61) hx hb dX4_set_49 (by decide) (fun c_49 => ?_) (fun c_49 => ?_)
            · ---- to 61
              refine lv_iload_n hx hb dX4_set_61 rfl (lv_at hl 2 rfl) ?_
              refine lv_iconst (v := 1) hx hb dX4_set_62 (by decide) ?_
              refine lv_icmp_ne (tgt := 75) hx hb dX4_set_63 (by decide) (fun c_63 => ?_) (fun c_63 => ?_)
              · ---- to 75
                refine lv_aload_n hx hb dX4_set_75 rfl (lv_at hl 0 rfl) ?_
                refine va_get (D := (dC, dI)) (ci := 4) (v := .ref m3) (C := RX4) (T := TX4) (N := 16) hx hb hts hin_X4 hown hK hP 0 rfl rfl 5 (by decide) hw_4 (fun _ h9 => h9) rfl dX4_set_76 ?_
                refine lv_iload_n hx hb dX4_set_79 rfl (lv_at hl 1 rfl) ?_
                refine ra_iald hx hb hK hP 3 rfl j rfl (by omega) (Nat.le_of_ble_eq_true rfl) dX4_set_80 ?_
                refine ra_top (ff j) (f3_r0 _ _ _ (by omega)) ?_
                refine lv_istore (lv' := [(4, .int (ff j)), (0, .ref m0), (1, .int (nI j)), (2, .int 2), (3, .int v)]) hx hb dX4_set_81 hl (by decide) rfl (fun ls hl => ?_)
                refine lv_aload_n hx hb dX4_set_83 rfl (lv_at hl 1 rfl) ?_
                refine va_get (D := (dC, dI)) (ci := 4) (v := .ref m1) (C := RX4) (T := TX4) (N := 16) hx hb hts hin_X4 hown hK hP 0 rfl rfl 3 (by decide) hw_1 (fun _ h9 => h9) rfl dX4_set_84 ?_
                refine lv_iload_n hx hb dX4_set_87 rfl (lv_at hl 2 rfl) ?_
                refine lv_iload_n hx hb dX4_set_88 rfl (lv_at hl 3 rfl) ?_
                refine lv_if_ne (tgt := 96) hx hb dX4_set_89 (by decide) (fun c_89 => ?_) (fun c_89 => ?_)
                · ---- to 96
                  refine lv_aload_n hx hb dX4_set_96 rfl (lv_at hl 1 rfl) ?_
                  refine va_get (D := (dC, dI)) (ci := 4) (v := .ref m1) (C := RX4) (T := TX4) (N := 16) hx hb hts hin_X4 hown hK hP 0 rfl rfl 3 (by decide) hw_1 (fun _ h9 => h9) rfl dX4_set_97 ?_
                  refine lv_iload_n hx hb dX4_set_100 rfl (lv_at hl 2 rfl) ?_
                  refine ra_iald hx hb hK hP 1 rfl j rfl (by omega) (Nat.le_of_ble_eq_true rfl) dX4_set_101 ?_
                  refine ra_top (fh j) (f3_r0 _ _ _ (by omega)) ?_
                  refine ra_iast hx hb hK hP hD hS 1 rfl j rfl (by omega) (Nat.le_of_ble_eq_true rfl) dX4_set_102 (fun H locs hP hD hS => ?_)
                  rw [f3_w0 _ _ _ _ (by omega), upd_self] at hP hD
                  have hP : va_P (dC, dI) vwCl [ob m0 4 [.int (nI n), .int kn, .int fz, .ref m1, .ref m2, .ref m3, .ref m4, .ref m5, .ref m6, .ref m7, .ref m8, .ref m9, .ref m10, .ref m11, .ref m12, .ref m13], ai m1 cyI 21 (f3 fh uh th), ai m2 cyI 21 (f3 fg ug tg), ai m3 cyI 21 (f3 ff uf tf), ai m4 cyI 21 (f3 fk uk tk), ai m5 cyI 3 (t3 vs us ts), ai m6 cyI 3 (t3 vb ub tb), ai m7 cyI 3 (t3 vd ud td), ai m8 cyI 3 (nF ct), ai m9 cyI 36 (q12 kd), ai m10 cyI 36 (q12 vl), ai m11 cyI 7 fr, ai m12 cyI 3 fp, ai m13 cyI 3 bp] H := hP
                  have hD : va_D A [ob m0 4 [.int (nI n), .int kn, .int fz, .ref m1, .ref m2, .ref m3, .ref m4, .ref m5, .ref m6, .ref m7, .ref m8, .ref m9, .ref m10, .ref m11, .ref m12, .ref m13], ai m1 cyI 21 (f3 fh uh th), ai m2 cyI 21 (f3 fg ug tg), ai m3 cyI 21 (f3 ff uf tf), ai m4 cyI 21 (f3 fk uk tk), ai m5 cyI 3 (t3 vs us ts), ai m6 cyI 3 (t3 vb ub tb), ai m7 cyI 3 (t3 vd ud td), ai m8 cyI 3 (nF ct), ai m9 cyI 36 (q12 kd), ai m10 cyI 36 (q12 vl), ai m11 cyI 7 fr, ai m12 cyI 3 fp, ai m13 cyI 3 bp] := hD
                  refine lv_aload_n hx hb dX4_set_103 rfl (lv_at hl 1 rfl) ?_
                  refine va_get (D := (dC, dI)) (ci := 4) (v := .ref m2) (C := RX4) (T := TX4) (N := 16) hx hb hts hin_X4 hown hK hP 0 rfl rfl 4 (by decide) hw_3 (fun _ h9 => h9) rfl dX4_set_104 ?_
                  refine lv_iload_n hx hb dX4_set_107 rfl (lv_at hl 2 rfl) ?_
                  refine lv_iload_n hx hb dX4_set_108 rfl (lv_at hl 3 rfl) ?_
                  refine lv_iconst (v := 1) hx hb dX4_set_109 (by decide) ?_
                  refine lv_icmp_ne (tgt := 117) hx hb dX4_set_110 (by decide) (fun c_110 => ?_) (fun c_110 => ?_)
                  · ---- to 117
                    refine lv_aload_n hx hb dX4_set_117 rfl (lv_at hl 1 rfl) ?_
                    refine va_get (D := (dC, dI)) (ci := 4) (v := .ref m2) (C := RX4) (T := TX4) (N := 16) hx hb hts hin_X4 hown hK hP 0 rfl rfl 4 (by decide) hw_3 (fun _ h9 => h9) rfl dX4_set_118 ?_
                    refine lv_iload_n hx hb dX4_set_121 rfl (lv_at hl 2 rfl) ?_
                    refine ra_iald hx hb hK hP 2 rfl j rfl (by omega) (Nat.le_of_ble_eq_true rfl) dX4_set_122 ?_
                    refine ra_top (fg j) (f3_r0 _ _ _ (by omega)) ?_
                    refine ra_iast hx hb hK hP hD hS 2 rfl j rfl (by omega) (Nat.le_of_ble_eq_true rfl) dX4_set_123 (fun H locs hP hD hS => ?_)
                    rw [f3_w0 _ _ _ _ (by omega), upd_self] at hP hD
                    have hP : va_P (dC, dI) vwCl [ob m0 4 [.int (nI n), .int kn, .int fz, .ref m1, .ref m2, .ref m3, .ref m4, .ref m5, .ref m6, .ref m7, .ref m8, .ref m9, .ref m10, .ref m11, .ref m12, .ref m13], ai m1 cyI 21 (f3 fh uh th), ai m2 cyI 21 (f3 fg ug tg), ai m3 cyI 21 (f3 ff uf tf), ai m4 cyI 21 (f3 fk uk tk), ai m5 cyI 3 (t3 vs us ts), ai m6 cyI 3 (t3 vb ub tb), ai m7 cyI 3 (t3 vd ud td), ai m8 cyI 3 (nF ct), ai m9 cyI 36 (q12 kd), ai m10 cyI 36 (q12 vl), ai m11 cyI 7 fr, ai m12 cyI 3 fp, ai m13 cyI 3 bp] H := hP
                    have hD : va_D A [ob m0 4 [.int (nI n), .int kn, .int fz, .ref m1, .ref m2, .ref m3, .ref m4, .ref m5, .ref m6, .ref m7, .ref m8, .ref m9, .ref m10, .ref m11, .ref m12, .ref m13], ai m1 cyI 21 (f3 fh uh th), ai m2 cyI 21 (f3 fg ug tg), ai m3 cyI 21 (f3 ff uf tf), ai m4 cyI 21 (f3 fk uk tk), ai m5 cyI 3 (t3 vs us ts), ai m6 cyI 3 (t3 vb ub tb), ai m7 cyI 3 (t3 vd ud td), ai m8 cyI 3 (nF ct), ai m9 cyI 36 (q12 kd), ai m10 cyI 36 (q12 vl), ai m11 cyI 7 fr, ai m12 cyI 3 fp, ai m13 cyI 3 bp] := hD
                    refine lv_aload_n hx hb dX4_set_124 rfl (lv_at hl 1 rfl) ?_
                    refine va_get (D := (dC, dI)) (ci := 4) (v := .ref m3) (C := RX4) (T := TX4) (N := 16) hx hb hts hin_X4 hown hK hP 0 rfl rfl 5 (by decide) hw_4 (fun _ h9 => h9) rfl dX4_set_125 ?_
                    refine lv_iload_n hx hb dX4_set_128 rfl (lv_at hl 2 rfl) ?_
                    refine lv_iload_n hx hb dX4_set_129 rfl (lv_at hl 3 rfl) ?_
                    refine lv_iconst (v := 2) hx hb dX4_set_130 (by decide) ?_
                    refine lv_icmp_ne (tgt := 138) hx hb dX4_set_131 (by decide) (fun c_131 => ?_) (fun c_131 => ?_)
                    · ---- to 138
                      exact absurd c_131 (by decide)
                    · ---- on
                      refine lv_iload_n hx hb dX4_set_134 rfl (lv_at hl 4 rfl) ?_
                      refine lv_goto (tgt := 144) hx hb dX4_set_135 (by decide) ?_
                      refine ra_iast hx hb hK hP hD hS 3 rfl j rfl (by omega) (Nat.le_of_ble_eq_true rfl) dX4_set_144 (fun H locs hP hD hS => ?_)
                      rw [f3_w0 _ _ _ _ (by omega)] at hP hD
                      have hP : va_P (dC, dI) vwCl [ob m0 4 [.int (nI n), .int kn, .int fz, .ref m1, .ref m2, .ref m3, .ref m4, .ref m5, .ref m6, .ref m7, .ref m8, .ref m9, .ref m10, .ref m11, .ref m12, .ref m13], ai m1 cyI 21 (f3 fh uh th), ai m2 cyI 21 (f3 fg ug tg), ai m3 cyI 21 (f3 (upd ff j v) uf tf), ai m4 cyI 21 (f3 fk uk tk), ai m5 cyI 3 (t3 vs us ts), ai m6 cyI 3 (t3 vb ub tb), ai m7 cyI 3 (t3 vd ud td), ai m8 cyI 3 (nF ct), ai m9 cyI 36 (q12 kd), ai m10 cyI 36 (q12 vl), ai m11 cyI 7 fr, ai m12 cyI 3 fp, ai m13 cyI 3 bp] H := hP
                      have hD : va_D A [ob m0 4 [.int (nI n), .int kn, .int fz, .ref m1, .ref m2, .ref m3, .ref m4, .ref m5, .ref m6, .ref m7, .ref m8, .ref m9, .ref m10, .ref m11, .ref m12, .ref m13], ai m1 cyI 21 (f3 fh uh th), ai m2 cyI 21 (f3 fg ug tg), ai m3 cyI 21 (f3 (upd ff j v) uf tf), ai m4 cyI 21 (f3 fk uk tk), ai m5 cyI 3 (t3 vs us ts), ai m6 cyI 3 (t3 vb ub tb), ai m7 cyI 3 (t3 vd ud td), ai m8 cyI 3 (nF ct), ai m9 cyI 36 (q12 kd), ai m10 cyI 36 (q12 vl), ai m11 cyI 7 fr, ai m12 cyI 3 fp, ai m13 cyI 3 bp] := hD
                      refine lv_iload hx hb dX4_set_145 (lv_at hl 0 rfl) ?_
                      rw [hQ]
                      have hok : okS n (nI j) 2 v := ⟨c_5, c_14, c_43⟩
                      simp only [eq_false (show ¬ (2 : Int32) = 0 by decide), eq_false (show ¬ (2 : Int32) = 1 by decide), eq_self, and_true, and_false, sel_T, sel_F, sel_t hok, nI_cl (show j ≤ 20 by omega)]
                      exact ra_iretW () hx hb hr hlocks rfl hK hP hD hS rfl dX4_set_147
                  · ---- on
                    exact absurd c_110 (by decide)
                · ---- on
                  exact absurd c_89 (by decide)
              · ---- on
                exact absurd c_63 (by decide)
            · ---- on
              exact absurd c_49 (by decide)
        · ---- on
          have c_43 := bi_0 c_43
          refine lv_iconst (v := (-1)) hx hb dX4_set_46 (by decide) ?_
          rw [hQ]
          simp only [sel_f (show ¬ okS n x wt v from fun q => c_43 q.2.2), sel_f (show ¬ (okS n x wt v ∧ wt = 0) from fun q => (fun q => c_43 q.2.2) q.1), sel_f (show ¬ (okS n x wt v ∧ wt = 1) from fun q => (fun q => c_43 q.2.2) q.1), sel_f (show ¬ (okS n x wt v ∧ wt = 2) from fun q => (fun q => c_43 q.2.2) q.1)]
          exact ra_iretW () hx hb hr hlocks rfl hK hP hD hS rfl dX4_set_47
      refine lv_if_ne (tgt := 28) hx hb dX4_set_20 (by decide) (fun c_20 => ?_) (fun c_20 => ?_)
      · ---- to 28
        refine lv_iload_n hx hb dX4_set_28 rfl (lv_at hl 2 rfl) ?_
        refine lv_iconst (v := 1) hx hb dX4_set_29 (by decide) ?_
        refine lv_icmp_ne (tgt := 38) hx hb dX4_set_30 (by decide) (fun c_30 => ?_) (fun c_30 => ?_)
        · ---- to 38
          refine lv_bipush (v := 20) hx hb dX4_set_38 (by decide) ?_
          exact J_40_1 _ (by unfold mostV; rw [if_neg c_20, if_neg c_30])
        · ---- on
          refine lv_bipush (v := 9) hx hb dX4_set_33 (by decide) ?_
          refine lv_goto (tgt := 40) hx hb dX4_set_35 (by decide) ?_
          exact J_40_1 _ (by unfold mostV; rw [if_neg c_20, if_pos c_30])
      · ---- on
        refine lv_bipush (v := 99) hx hb dX4_set_23 (by decide) ?_
        refine lv_goto (tgt := 40) hx hb dX4_set_25 (by decide) ?_
        exact J_40_1 _ (by unfold mostV; rw [if_pos c_20])

set_option maxHeartbeats 4000000 in
set_option maxRecDepth 100000 in
theorem c_X4_of (l : Launch) (dC : Nat → ClassId) (dI : Nat → Nat → Nat) (cyI cyA : ClassId) (m0 m1 m2 m3 m4 m5 m6 m7 m8 m9 m10 m11 m12 m13 n : Nat) (kn fz : Int32) (fh fg ff fk uh ug uf uk th tg tf tk : FN) (vs vb vd us ub ud ts tb td : Int32) (ct : Nat → Nat) (kd vl : Nat → FN) (fr fp bp : FN) (x wt : Int32) (hn : n ≤ 7) (hn1 : 1 ≤ n) (hct : ∀ w, w < 3 → ct w ≤ 12) (sz : Nat) : Met l yX4_of wsX4_of (rm 2) (kW dC dI cyI cyA [.ref m0, .int x, .int wt] sz [ob m0 4 [.int (nI n), .int kn, .int fz, .ref m1, .ref m2, .ref m3, .ref m4, .ref m5, .ref m6, .ref m7, .ref m8, .ref m9, .ref m10, .ref m11, .ref m12, .ref m13], ai m1 cyI 21 (f3 fh uh th), ai m2 cyI 21 (f3 fg ug tg), ai m3 cyI 21 (f3 ff uf tf), ai m4 cyI 21 (f3 fk uk tk), ai m5 cyI 3 (t3 vs us ts), ai m6 cyI 3 (t3 vb ub tb), ai m7 cyI 3 (t3 vd ud td), ai m8 cyI 3 (nF ct), ai m9 cyI 36 (q12 kd), ai m10 cyI 36 (q12 vl), ai m11 cyI 7 fr, ai m12 cyI 3 fp, ai m13 cyI 3 bp]) (qI dC dI cyI cyA (fun (r : Int32) (_ : Unit) => r = sel (inC n x ∧ 0 ≤ wt ∧ wt ≤ 3) (sel (wt = 0) (fh x.toNatClampNeg) (sel (wt = 1) (fg x.toNatClampNeg) (sel (wt = 2) (ff x.toNatClampNeg) (fk x.toNatClampNeg)))) (-1)) (va_A [ob m0 4 [.int (nI n), .int kn, .int fz, .ref m1, .ref m2, .ref m3, .ref m4, .ref m5, .ref m6, .ref m7, .ref m8, .ref m9, .ref m10, .ref m11, .ref m12, .ref m13], ai m1 cyI 21 (f3 fh uh th), ai m2 cyI 21 (f3 fg ug tg), ai m3 cyI 21 (f3 ff uf tf), ai m4 cyI 21 (f3 fk uk tk), ai m5 cyI 3 (t3 vs us ts), ai m6 cyI 3 (t3 vb ub tb), ai m7 cyI 3 (t3 vd ud td), ai m8 cyI 3 (nF ct), ai m9 cyI 36 (q12 kd), ai m10 cyI 36 (q12 vl), ai m11 cyI 7 fr, ai m12 cyI 3 fp, ai m13 cyI 3 bp] sz) (fun _ => [ob m0 4 [.int (nI n), .int kn, .int fz, .ref m1, .ref m2, .ref m3, .ref m4, .ref m5, .ref m6, .ref m7, .ref m8, .ref m9, .ref m10, .ref m11, .ref m12, .ref m13], ai m1 cyI 21 (f3 fh uh th), ai m2 cyI 21 (f3 fg ug tg), ai m3 cyI 21 (f3 ff uf tf), ai m4 cyI 21 (f3 fk uk tk), ai m5 cyI 3 (t3 vs us ts), ai m6 cyI 3 (t3 vb ub tb), ai m7 cyI 3 (t3 vd ud td), ai m8 cyI 3 (nF ct), ai m9 cyI 36 (q12 kd), ai m10 cyI 36 (q12 vl), ai m11 cyI 7 fr, ai m12 cyI 3 fp, ai m13 cyI 3 bp])) 0 0 (va_A [ob m0 4 [.int (nI n), .int kn, .int fz, .ref m1, .ref m2, .ref m3, .ref m4, .ref m5, .ref m6, .ref m7, .ref m8, .ref m9, .ref m10, .ref m11, .ref m12, .ref m13], ai m1 cyI 21 (f3 fh uh th), ai m2 cyI 21 (f3 fg ug tg), ai m3 cyI 21 (f3 ff uf tf), ai m4 cyI 21 (f3 fk uk tk), ai m5 cyI 3 (t3 vs us ts), ai m6 cyI 3 (t3 vb ub tb), ai m7 cyI 3 (t3 vd ud td), ai m8 cyI 3 (nF ct), ai m9 cyI 36 (q12 kd), ai m10 cyI 36 (q12 vl), ai m11 cyI 7 fr, ai m12 cyI 3 fp, ai m13 cyI 3 bp] sz) := by
  refine ra_metW (cc := cX4_of) (maxL := 3) (Qc := fun A => qI dC dI cyI cyA (fun (r : Int32) (_ : Unit) => r = sel (inC n x ∧ 0 ≤ wt ∧ wt ≤ 3) (sel (wt = 0) (fh x.toNatClampNeg) (sel (wt = 1) (fg x.toNatClampNeg) (sel (wt = 2) (ff x.toNatClampNeg) (fk x.toNatClampNeg)))) (-1)) A (fun _ => [ob m0 4 [.int (nI n), .int kn, .int fz, .ref m1, .ref m2, .ref m3, .ref m4, .ref m5, .ref m6, .ref m7, .ref m8, .ref m9, .ref m10, .ref m11, .ref m12, .ref m13], ai m1 cyI 21 (f3 fh uh th), ai m2 cyI 21 (f3 fg ug tg), ai m3 cyI 21 (f3 ff uf tf), ai m4 cyI 21 (f3 fk uk tk), ai m5 cyI 3 (t3 vs us ts), ai m6 cyI 3 (t3 vb ub tb), ai m7 cyI 3 (t3 vd ud td), ai m8 cyI 3 (nF ct), ai m9 cyI 36 (q12 kd), ai m10 cyI 36 (q12 vl), ai m11 cyI 7 fr, ai m12 cyI 3 fp, ai m13 cyI 3 bp])) (by decide) rfl (Nat.le_of_ble_eq_true rfl) ?_
  intro p e s m below meth c A args Q hQ hx hb hr hlocks hml hts hown hnm hK hN hP hD hA hS ls hl
  have hl : lv_has ls 3 [(0, .ref m0), (1, .int x), (2, .int wt)] := hl
  have hown : s.vm.findClass RX4 = some m.cls := hown
  have hw_1 := hts (.fieldLink RX4 16 "DuneBenchModel" "height" "[I") (by decide +kernel)
  have hin_X4 : ∀ w ∈ u_ws RX4 TX4 16, w ∈ wsX4_of := by decide +kernel
  have hw_3 := hts (.fieldLink RX4 20 "DuneBenchModel" "grass" "[I") (by decide +kernel)
  have hw_4 := hts (.fieldLink RX4 23 "DuneBenchModel" "fence" "[I") (by decide +kernel)
  have hw_5 := hts (.fieldLink RX4 26 "DuneBenchModel" "gained" "[I") (by decide +kernel)
  obtain ⟨H, hHe⟩ : ∃ H, H = s.heap := ⟨_, rfl⟩
  obtain ⟨locs, hLe⟩ : ∃ locs : List Loc, locs = [] := ⟨_, rfl⟩
  have hP : va_P (dC, dI) vwCl [ob m0 4 [.int (nI n), .int kn, .int fz, .ref m1, .ref m2, .ref m3, .ref m4, .ref m5, .ref m6, .ref m7, .ref m8, .ref m9, .ref m10, .ref m11, .ref m12, .ref m13], ai m1 cyI 21 (f3 fh uh th), ai m2 cyI 21 (f3 fg ug tg), ai m3 cyI 21 (f3 ff uf tf), ai m4 cyI 21 (f3 fk uk tk), ai m5 cyI 3 (t3 vs us ts), ai m6 cyI 3 (t3 vb ub tb), ai m7 cyI 3 (t3 vd ud td), ai m8 cyI 3 (nF ct), ai m9 cyI 36 (q12 kd), ai m10 cyI 36 (q12 vl), ai m11 cyI 7 fr, ai m12 cyI 3 fp, ai m13 cyI 3 bp] H := by rw [hHe]; exact hP
  have hS : va_S A s.heap H locs := by rw [hHe, hLe]; exact hS
  suffices hgo : W p l e (rm 2) s m args below meth c H locs 0 0 Q (F0 m 0 ls []) by rw [hHe, hLe] at hgo; exact hgo
  refine lv_aload_n hx hb dX4_of_0 rfl (lv_at hl 0 rfl) ?_
  refine lv_iload_n hx hb dX4_of_1 rfl (lv_at hl 1 rfl) ?_
  refine ra_cR (q := (RX4, TX4, 16)) (ci := 4) (As := [.int x]) (rest := []) (wc := [ob m0 4 [.int (nI n), .int kn, .int fz, .ref m1, .ref m2, .ref m3, .ref m4, .ref m5, .ref m6, .ref m7, .ref m8, .ref m9, .ref m10, .ref m11, .ref m12, .ref m13], ai m1 cyI 21 (f3 fh uh th), ai m2 cyI 21 (f3 fg ug tg), ai m3 cyI 21 (f3 ff uf tf), ai m4 cyI 21 (f3 fk uk tk), ai m5 cyI 3 (t3 vs us ts), ai m6 cyI 3 (t3 vb ub tb), ai m7 cyI 3 (t3 vd ud td), ai m8 cyI 3 (nF ct), ai m9 cyI 36 (q12 kd), ai m10 cyI 36 (q12 vl), ai m11 cyI 7 fr, ai m12 cyI 3 fp, ai m13 cyI 3 bp]) ⟨hx, hb, hml, hown, hts⟩ (c_X4_isCell l dC dI cyI cyA m0 m1 m2 m3 m4 m5 m6 m7 m8 m9 m10 m11 m12 m13 n kn fz fh fg ff fk uh ug uf uk th tg tf tk vs vb vd us ub ud ts tb td ct kd vl fr fp bp x (by omega) (by omega)) (cwV 1 hts gX4_of_X4_isCell rfl rfl rfl (by decide +kernel) ⟨Nat.le_of_ble_eq_true rfl, Nat.le_of_ble_eq_true rfl⟩) hK hN hP [0, 1, 2, 3, 4, 5, 6, 7, 8, 9, 10, 11, 12, 13] rfl rfl rfl rfl hl.1 rfl (Nat.le_of_ble_eq_true rfl) dX4_of_2 ⟨Nat.le_of_ble_eq_true rfl, Nat.le_of_ble_eq_true rfl⟩ ?_
  refine lv_if_eq (tgt := 17) hx hb dX4_of_5 (by decide) (fun c_5 => ?_) (fun c_5 => ?_)
  · ---- to 17
    have c_5 := bi_0 c_5
    refine lv_iconst (v := (-1)) hx hb dX4_of_17 (by decide) ?_
    rw [hQ]
    simp only [sel_f (show ¬ (inC n x ∧ 0 ≤ wt ∧ wt ≤ 3) from fun q => c_5 q.1)]
    exact ra_iretW () hx hb hr hlocks rfl hK hP hD hS rfl dX4_of_18
  · ---- on
    have c_5 := bi_1 c_5
    refine lv_iload_n hx hb dX4_of_8 rfl (lv_at hl 2 rfl) ?_
    refine lv_iconst (v := 0) hx hb dX4_of_9 (by decide) ?_
    refine lv_iconst (v := 3) hx hb dX4_of_10 (by decide) ?_
    refine ra_cS (As := [.int wt, .int 0, .int 3]) (rest := []) ⟨hx, hb, hml, hown, hts⟩ (c_X4_in l wt 0 3 ) (va_cwS 3 hts gX4_of_X4_in rfl rfl rfl (by decide +kernel) ⟨Nat.le_of_ble_eq_true rfl, Nat.le_of_ble_eq_true rfl⟩) hN rfl hl.1 rfl (Nat.le_of_ble_eq_true rfl) dX4_of_11 ⟨Nat.le_of_ble_eq_true rfl, Nat.le_of_ble_eq_true rfl⟩ ?_
    refine lv_if_ne (tgt := 19) hx hb dX4_of_14 (by decide) (fun c_14 => ?_) (fun c_14 => ?_)
    · ---- to 19
      have c_14 := bi_1 c_14
      obtain ⟨j, hj, rfl⟩ := i32_natn c_5 hn
      rcases i32_split4 c_14 with rfl | rfl | rfl | rfl
      ·
        refine lv_iload_n hx hb dX4_of_19 rfl (lv_at hl 2 rfl) ?_
        refine lv_if_ne (tgt := 32) hx hb dX4_of_20 (by decide) (fun c_20 => ?_) (fun c_20 => ?_)
        · ---- to 32
          exact absurd c_20 (by decide)
        · ---- on
          refine lv_aload_n hx hb dX4_of_23 rfl (lv_at hl 0 rfl) ?_
          refine va_get (D := (dC, dI)) (ci := 4) (v := .ref m1) (C := RX4) (T := TX4) (N := 16) hx hb hts hin_X4 hown hK hP 0 rfl rfl 3 (by decide) hw_1 (fun _ h9 => h9) rfl dX4_of_24 ?_
          refine lv_iload_n hx hb dX4_of_27 rfl (lv_at hl 1 rfl) ?_
          refine ra_iald hx hb hK hP 1 rfl j rfl (by omega) (Nat.le_of_ble_eq_true rfl) dX4_of_28 ?_
          refine ra_top (fh j) (f3_r0 _ _ _ (by omega)) ?_
          refine lv_goto (tgt := 66) hx hb dX4_of_29 (by decide) ?_
          rw [hQ]
          have hok : inC n (nI j) ∧ (0 : Int32) ≤ 0 ∧ (0 : Int32) ≤ 3 := ⟨c_5, c_14⟩
          rw [sel_t hok]
          simp only [eq_false (show ¬ (0 : Int32) = 1 by decide), eq_false (show ¬ (0 : Int32) = 2 by decide), eq_self, sel_T, sel_F, nI_cl (show j ≤ 20 by omega)]
          exact ra_iretW () hx hb hr hlocks rfl hK hP hD hS rfl dX4_of_66
      ·
        refine lv_iload_n hx hb dX4_of_19 rfl (lv_at hl 2 rfl) ?_
        refine lv_if_ne (tgt := 32) hx hb dX4_of_20 (by decide) (fun c_20 => ?_) (fun c_20 => ?_)
        · ---- to 32
          refine lv_iload_n hx hb dX4_of_32 rfl (lv_at hl 2 rfl) ?_
          refine lv_iconst (v := 1) hx hb dX4_of_33 (by decide) ?_
          refine lv_icmp_ne (tgt := 46) hx hb dX4_of_34 (by decide) (fun c_34 => ?_) (fun c_34 => ?_)
          · ---- to 46
            exact absurd c_34 (by decide)
          · ---- on
            refine lv_aload_n hx hb dX4_of_37 rfl (lv_at hl 0 rfl) ?_
            refine va_get (D := (dC, dI)) (ci := 4) (v := .ref m2) (C := RX4) (T := TX4) (N := 16) hx hb hts hin_X4 hown hK hP 0 rfl rfl 4 (by decide) hw_3 (fun _ h9 => h9) rfl dX4_of_38 ?_
            refine lv_iload_n hx hb dX4_of_41 rfl (lv_at hl 1 rfl) ?_
            refine ra_iald hx hb hK hP 2 rfl j rfl (by omega) (Nat.le_of_ble_eq_true rfl) dX4_of_42 ?_
            refine ra_top (fg j) (f3_r0 _ _ _ (by omega)) ?_
            refine lv_goto (tgt := 66) hx hb dX4_of_43 (by decide) ?_
            rw [hQ]
            have hok : inC n (nI j) ∧ (0 : Int32) ≤ 1 ∧ (1 : Int32) ≤ 3 := ⟨c_5, c_14⟩
            rw [sel_t hok]
            simp only [eq_false (show ¬ (1 : Int32) = 0 by decide), eq_false (show ¬ (1 : Int32) = 2 by decide), eq_self, sel_T, sel_F, nI_cl (show j ≤ 20 by omega)]
            exact ra_iretW () hx hb hr hlocks rfl hK hP hD hS rfl dX4_of_66
        · ---- on
          exact absurd c_20 (by decide)
      ·
        refine lv_iload_n hx hb dX4_of_19 rfl (lv_at hl 2 rfl) ?_
        refine lv_if_ne (tgt := 32) hx hb dX4_of_20 (by decide) (fun c_20 => ?_) (fun c_20 => ?_)
        · ---- to 32
          refine lv_iload_n hx hb dX4_of_32 rfl (lv_at hl 2 rfl) ?_
          refine lv_iconst (v := 1) hx hb dX4_of_33 (by decide) ?_
          refine lv_icmp_ne (tgt := 46) hx hb dX4_of_34 (by decide) (fun c_34 => ?_) (fun c_34 => ?_)
          · ---- to 46
            refine lv_iload_n hx hb dX4_of_46 rfl (lv_at hl 2 rfl) ?_
            refine lv_iconst (v := 2) hx hb dX4_of_47 (by decide) ?_
            refine lv_icmp_ne (tgt := 60) hx hb dX4_of_48 (by decide) (fun c_48 => ?_) (fun c_48 => ?_)
            · ---- to 60
              exact absurd c_48 (by decide)
            · ---- on
              refine lv_aload_n hx hb dX4_of_51 rfl (lv_at hl 0 rfl) ?_
              refine va_get (D := (dC, dI)) (ci := 4) (v := .ref m3) (C := RX4) (T := TX4) (N := 16) hx hb hts hin_X4 hown hK hP 0 rfl rfl 5 (by decide) hw_4 (fun _ h9 => h9) rfl dX4_of_52 ?_
              refine lv_iload_n hx hb dX4_of_55 rfl (lv_at hl 1 rfl) ?_
              refine ra_iald hx hb hK hP 3 rfl j rfl (by omega) (Nat.le_of_ble_eq_true rfl) dX4_of_56 ?_
              refine ra_top (ff j) (f3_r0 _ _ _ (by omega)) ?_
              refine lv_goto (tgt := 66) hx hb dX4_of_57 (by decide) ?_
              rw [hQ]
              have hok : inC n (nI j) ∧ (0 : Int32) ≤ 2 ∧ (2 : Int32) ≤ 3 := ⟨c_5, c_14⟩
              rw [sel_t hok]
              simp only [eq_false (show ¬ (2 : Int32) = 0 by decide), eq_false (show ¬ (2 : Int32) = 1 by decide), eq_self, sel_T, sel_F, nI_cl (show j ≤ 20 by omega)]
              exact ra_iretW () hx hb hr hlocks rfl hK hP hD hS rfl dX4_of_66
          · ---- on
            exact absurd c_34 (by decide)
        · ---- on
          exact absurd c_20 (by decide)
      ·
        refine lv_iload_n hx hb dX4_of_19 rfl (lv_at hl 2 rfl) ?_
        refine lv_if_ne (tgt := 32) hx hb dX4_of_20 (by decide) (fun c_20 => ?_) (fun c_20 => ?_)
        · ---- to 32
          refine lv_iload_n hx hb dX4_of_32 rfl (lv_at hl 2 rfl) ?_
          refine lv_iconst (v := 1) hx hb dX4_of_33 (by decide) ?_
          refine lv_icmp_ne (tgt := 46) hx hb dX4_of_34 (by decide) (fun c_34 => ?_) (fun c_34 => ?_)
          · ---- to 46
            refine lv_iload_n hx hb dX4_of_46 rfl (lv_at hl 2 rfl) ?_
            refine lv_iconst (v := 2) hx hb dX4_of_47 (by decide) ?_
            refine lv_icmp_ne (tgt := 60) hx hb dX4_of_48 (by decide) (fun c_48 => ?_) (fun c_48 => ?_)
            · ---- to 60
              refine lv_aload_n hx hb dX4_of_60 rfl (lv_at hl 0 rfl) ?_
              refine va_get (D := (dC, dI)) (ci := 4) (v := .ref m4) (C := RX4) (T := TX4) (N := 16) hx hb hts hin_X4 hown hK hP 0 rfl rfl 6 (by decide) hw_5 (fun _ h9 => h9) rfl dX4_of_61 ?_
              refine lv_iload_n hx hb dX4_of_64 rfl (lv_at hl 1 rfl) ?_
              refine ra_iald hx hb hK hP 4 rfl j rfl (by omega) (Nat.le_of_ble_eq_true rfl) dX4_of_65 ?_
              refine ra_top (fk j) (f3_r0 _ _ _ (by omega)) ?_
              rw [hQ]
              have hok : inC n (nI j) ∧ (0 : Int32) ≤ 3 ∧ (3 : Int32) ≤ 3 := ⟨c_5, c_14⟩
              rw [sel_t hok]
              simp only [eq_false (show ¬ (3 : Int32) = 0 by decide), eq_false (show ¬ (3 : Int32) = 1 by decide), eq_false (show ¬ (3 : Int32) = 2 by decide), eq_self, sel_T, sel_F, nI_cl (show j ≤ 20 by omega)]
              exact ra_iretW () hx hb hr hlocks rfl hK hP hD hS rfl dX4_of_66
            · ---- on
              exact absurd c_48 (by decide)
          · ---- on
            exact absurd c_34 (by decide)
        · ---- on
          exact absurd c_20 (by decide)
    · ---- on
      have c_14 := bi_0 c_14
      refine lv_iconst (v := (-1)) hx hb dX4_of_17 (by decide) ?_
      rw [hQ]
      simp only [sel_f (show ¬ (inC n x ∧ 0 ≤ wt ∧ wt ≤ 3) from fun q => c_14 q.2)]
      exact ra_iretW () hx hb hr hlocks rfl hK hP hD hS rfl dX4_of_18

set_option maxHeartbeats 4000000 in
set_option maxRecDepth 100000 in
theorem c_X4_wind (l : Launch) (dC : Nat → ClassId) (dI : Nat → Nat → Nat) (cyI cyA : ClassId) (m0 m1 m2 m3 m4 m5 m6 m7 m8 m9 m10 m11 m12 m13 n : Nat) (kn fz : Int32) (fh fg ff fk uh ug uf uk th tg tf tk : FN) (vs vb vd us ub ud ts tb td : Int32) (ct : Nat → Nat) (kd vl : Nat → FN) (fr fp bp : FN) (x : Int32) (hn : n ≤ 7) (hn1 : 1 ≤ n) (hct : ∀ w, w < 3 → ct w ≤ 12) (sz : Nat) : Met l yX4_wind wsX4_wind (rm 2) (kW dC dI cyI cyA [.ref m0, .int x] sz [ob m0 4 [.int (nI n), .int kn, .int fz, .ref m1, .ref m2, .ref m3, .ref m4, .ref m5, .ref m6, .ref m7, .ref m8, .ref m9, .ref m10, .ref m11, .ref m12, .ref m13], ai m1 cyI 21 (f3 fh uh th), ai m2 cyI 21 (f3 fg ug tg), ai m3 cyI 21 (f3 ff uf tf), ai m4 cyI 21 (f3 fk uk tk), ai m5 cyI 3 (t3 vs us ts), ai m6 cyI 3 (t3 vb ub tb), ai m7 cyI 3 (t3 vd ud td), ai m8 cyI 3 (nF ct), ai m9 cyI 36 (q12 kd), ai m10 cyI 36 (q12 vl), ai m11 cyI 7 fr, ai m12 cyI 3 fp, ai m13 cyI 3 bp]) (qI dC dI cyI cyA (fun (r : Int32) (_ : Unit) => r = sel (1 ≤ x ∧ x ≤ 9) (blow phm psm n fh fg ff fk x).2.2.2 (-1)) (va_A [ob m0 4 [.int (nI n), .int kn, .int fz, .ref m1, .ref m2, .ref m3, .ref m4, .ref m5, .ref m6, .ref m7, .ref m8, .ref m9, .ref m10, .ref m11, .ref m12, .ref m13], ai m1 cyI 21 (f3 fh uh th), ai m2 cyI 21 (f3 fg ug tg), ai m3 cyI 21 (f3 ff uf tf), ai m4 cyI 21 (f3 fk uk tk), ai m5 cyI 3 (t3 vs us ts), ai m6 cyI 3 (t3 vb ub tb), ai m7 cyI 3 (t3 vd ud td), ai m8 cyI 3 (nF ct), ai m9 cyI 36 (q12 kd), ai m10 cyI 36 (q12 vl), ai m11 cyI 7 fr, ai m12 cyI 3 fp, ai m13 cyI 3 bp] sz) (fun _ => [ob m0 4 [.int (nI n), .int kn, .int fz, .ref m1, .ref m2, .ref m3, .ref m4, .ref m5, .ref m6, .ref m7, .ref m8, .ref m9, .ref m10, .ref m11, .ref m12, .ref m13], ai m1 cyI 21 (f3 (sel (1 ≤ x ∧ x ≤ 9) ((blow phm psm n fh fg ff fk x).1) fh) uh th), ai m2 cyI 21 (f3 fg ug tg), ai m3 cyI 21 (f3 (sel (1 ≤ x ∧ x ≤ 9) ((blow phm psm n fh fg ff fk x).2.1) ff) uf tf), ai m4 cyI 21 (f3 (sel (1 ≤ x ∧ x ≤ 9) ((blow phm psm n fh fg ff fk x).2.2.1) fk) uk tk), ai m5 cyI 3 (t3 vs us ts), ai m6 cyI 3 (t3 (sel (1 ≤ x ∧ x ≤ 9) (vb + (blow phm psm n fh fg ff fk x).2.2.2) vb) ub tb), ai m7 cyI 3 (t3 vd ud td), ai m8 cyI 3 (nF ct), ai m9 cyI 36 (q12 kd), ai m10 cyI 36 (q12 vl), ai m11 cyI 7 fr, ai m12 cyI 3 fp, ai m13 cyI 3 bp])) 0 0 (va_A [ob m0 4 [.int (nI n), .int kn, .int fz, .ref m1, .ref m2, .ref m3, .ref m4, .ref m5, .ref m6, .ref m7, .ref m8, .ref m9, .ref m10, .ref m11, .ref m12, .ref m13], ai m1 cyI 21 (f3 fh uh th), ai m2 cyI 21 (f3 fg ug tg), ai m3 cyI 21 (f3 ff uf tf), ai m4 cyI 21 (f3 fk uk tk), ai m5 cyI 3 (t3 vs us ts), ai m6 cyI 3 (t3 vb ub tb), ai m7 cyI 3 (t3 vd ud td), ai m8 cyI 3 (nF ct), ai m9 cyI 36 (q12 kd), ai m10 cyI 36 (q12 vl), ai m11 cyI 7 fr, ai m12 cyI 3 fp, ai m13 cyI 3 bp] sz) := by
  refine ra_metW (cc := cX4_wind) (maxL := 2) (Qc := fun A => qI dC dI cyI cyA (fun (r : Int32) (_ : Unit) => r = sel (1 ≤ x ∧ x ≤ 9) (blow phm psm n fh fg ff fk x).2.2.2 (-1)) A (fun _ => [ob m0 4 [.int (nI n), .int kn, .int fz, .ref m1, .ref m2, .ref m3, .ref m4, .ref m5, .ref m6, .ref m7, .ref m8, .ref m9, .ref m10, .ref m11, .ref m12, .ref m13], ai m1 cyI 21 (f3 (sel (1 ≤ x ∧ x ≤ 9) ((blow phm psm n fh fg ff fk x).1) fh) uh th), ai m2 cyI 21 (f3 fg ug tg), ai m3 cyI 21 (f3 (sel (1 ≤ x ∧ x ≤ 9) ((blow phm psm n fh fg ff fk x).2.1) ff) uf tf), ai m4 cyI 21 (f3 (sel (1 ≤ x ∧ x ≤ 9) ((blow phm psm n fh fg ff fk x).2.2.1) fk) uk tk), ai m5 cyI 3 (t3 vs us ts), ai m6 cyI 3 (t3 (sel (1 ≤ x ∧ x ≤ 9) (vb + (blow phm psm n fh fg ff fk x).2.2.2) vb) ub tb), ai m7 cyI 3 (t3 vd ud td), ai m8 cyI 3 (nF ct), ai m9 cyI 36 (q12 kd), ai m10 cyI 36 (q12 vl), ai m11 cyI 7 fr, ai m12 cyI 3 fp, ai m13 cyI 3 bp])) (by decide) rfl (Nat.le_of_ble_eq_true rfl) ?_
  intro p e s m below meth c A args Q hQ hx hb hr hlocks hml hts hown hnm hK hN hP hD hA hS ls hl
  have hl : lv_has ls 2 [(0, .ref m0), (1, .int x)] := hl
  have hown : s.vm.findClass RX4 = some m.cls := hown
  obtain ⟨H, hHe⟩ : ∃ H, H = s.heap := ⟨_, rfl⟩
  obtain ⟨locs, hLe⟩ : ∃ locs : List Loc, locs = [] := ⟨_, rfl⟩
  have hP : va_P (dC, dI) vwCl [ob m0 4 [.int (nI n), .int kn, .int fz, .ref m1, .ref m2, .ref m3, .ref m4, .ref m5, .ref m6, .ref m7, .ref m8, .ref m9, .ref m10, .ref m11, .ref m12, .ref m13], ai m1 cyI 21 (f3 fh uh th), ai m2 cyI 21 (f3 fg ug tg), ai m3 cyI 21 (f3 ff uf tf), ai m4 cyI 21 (f3 fk uk tk), ai m5 cyI 3 (t3 vs us ts), ai m6 cyI 3 (t3 vb ub tb), ai m7 cyI 3 (t3 vd ud td), ai m8 cyI 3 (nF ct), ai m9 cyI 36 (q12 kd), ai m10 cyI 36 (q12 vl), ai m11 cyI 7 fr, ai m12 cyI 3 fp, ai m13 cyI 3 bp] H := by rw [hHe]; exact hP
  have hS : va_S A s.heap H locs := by rw [hHe, hLe]; exact hS
  suffices hgo : W p l e (rm 2) s m args below meth c H locs 0 0 Q (F0 m 0 ls []) by rw [hHe, hLe] at hgo; exact hgo
  refine lv_iload_n hx hb dX4_wind_0 rfl (lv_at hl 1 rfl) ?_
  refine lv_iconst (v := 1) hx hb dX4_wind_1 (by decide) ?_
  refine lv_bipush (v := 9) hx hb dX4_wind_2 (by decide) ?_
  refine ra_cS (As := [.int x, .int 1, .int 9]) (rest := []) ⟨hx, hb, hml, hown, hts⟩ (c_X4_in l x 1 9 ) (va_cwS 3 hts gX4_wind_X4_in rfl rfl rfl (by decide +kernel) ⟨Nat.le_of_ble_eq_true rfl, Nat.le_of_ble_eq_true rfl⟩) hN rfl hl.1 rfl (Nat.le_of_ble_eq_true rfl) dX4_wind_4 ⟨Nat.le_of_ble_eq_true rfl, Nat.le_of_ble_eq_true rfl⟩ ?_
  refine lv_if_eq (tgt := 19) hx hb dX4_wind_7 (by decide) (fun c_7 => ?_) (fun c_7 => ?_)
  · ---- to 19
    have c_7 := bi_0 c_7
    refine lv_iconst (v := (-1)) hx hb dX4_wind_19 (by decide) ?_
    rw [hQ]
    simp only [sel_f (show ¬ (1 ≤ x ∧ x ≤ 9) from c_7)]
    exact ra_iretW () hx hb hr hlocks rfl hK hP hD hS rfl dX4_wind_20
  · ---- on
    have c_7 := bi_1 c_7
    refine lv_aload_n hx hb dX4_wind_10 rfl (lv_at hl 0 rfl) ?_
    refine lv_iconst (v := 0) hx hb dX4_wind_11 (by decide) ?_
    refine lv_iload_n hx hb dX4_wind_12 rfl (lv_at hl 1 rfl) ?_
    refine ra_cI (q := (RX4, TX4, 16)) (ci := 4) (As := [.int 0, .int x]) (rest := []) (wc := [ob m0 4 [.int (nI n), .int kn, .int fz, .ref m1, .ref m2, .ref m3, .ref m4, .ref m5, .ref m6, .ref m7, .ref m8, .ref m9, .ref m10, .ref m11, .ref m12, .ref m13], ai m1 cyI 21 (f3 fh uh th), ai m2 cyI 21 (f3 fg ug tg), ai m3 cyI 21 (f3 ff uf tf), ai m4 cyI 21 (f3 fk uk tk), ai m5 cyI 3 (t3 vs us ts), ai m6 cyI 3 (t3 vb ub tb), ai m7 cyI 3 (t3 vd ud td), ai m8 cyI 3 (nF ct), ai m9 cyI 36 (q12 kd), ai m10 cyI 36 (q12 vl), ai m11 cyI 7 fr, ai m12 cyI 3 fp, ai m13 cyI 3 bp]) (wr := []) ⟨hx, hb, hml, hown, hts⟩ (c_X4_blow0 l dC dI cyI cyA m0 m1 m2 m3 m4 m5 m6 m7 m8 m9 m10 m11 m12 m13 n kn fz fh fg ff fk uh ug uf uk th tg tf tk vs vb vd us ub ud ts tb td ct kd vl fr fp bp x (by omega) H.size) (cwV 2 hts gX4_wind_X4_blow rfl rfl rfl (by decide +kernel) ⟨Nat.le_of_ble_eq_true rfl, Nat.le_of_ble_eq_true rfl⟩) hK hN hP hD hA hS [0, 1, 2, 3, 4, 5, 6, 7, 8, 9, 10, 11, 12, 13] [] rfl rfl (by decide) (by decide) (by decide) rfl rfl rfl hl.1 rfl (Nat.le_of_ble_eq_true rfl) dX4_wind_13 ⟨Nat.le_of_ble_eq_true rfl, Nat.le_of_ble_eq_true rfl⟩ (fun r_1 u_1 hw_c1 H locs hP hD hS => ?_)
    subst hw_c1
    have hP : va_P (dC, dI) vwCl [ob m0 4 [.int (nI n), .int kn, .int fz, .ref m1, .ref m2, .ref m3, .ref m4, .ref m5, .ref m6, .ref m7, .ref m8, .ref m9, .ref m10, .ref m11, .ref m12, .ref m13], ai m1 cyI 21 (f3 ((blow phm psm n fh fg ff fk x).1) uh th), ai m2 cyI 21 (f3 fg ug tg), ai m3 cyI 21 (f3 ((blow phm psm n fh fg ff fk x).2.1) uf tf), ai m4 cyI 21 (f3 ((blow phm psm n fh fg ff fk x).2.2.1) uk tk), ai m5 cyI 3 (t3 vs us ts), ai m6 cyI 3 (t3 (vb + (blow phm psm n fh fg ff fk x).2.2.2) ub tb), ai m7 cyI 3 (t3 vd ud td), ai m8 cyI 3 (nF ct), ai m9 cyI 36 (q12 kd), ai m10 cyI 36 (q12 vl), ai m11 cyI 7 fr, ai m12 cyI 3 fp, ai m13 cyI 3 bp] H := hP
    have hD : va_D A [ob m0 4 [.int (nI n), .int kn, .int fz, .ref m1, .ref m2, .ref m3, .ref m4, .ref m5, .ref m6, .ref m7, .ref m8, .ref m9, .ref m10, .ref m11, .ref m12, .ref m13], ai m1 cyI 21 (f3 ((blow phm psm n fh fg ff fk x).1) uh th), ai m2 cyI 21 (f3 fg ug tg), ai m3 cyI 21 (f3 ((blow phm psm n fh fg ff fk x).2.1) uf tf), ai m4 cyI 21 (f3 ((blow phm psm n fh fg ff fk x).2.2.1) uk tk), ai m5 cyI 3 (t3 vs us ts), ai m6 cyI 3 (t3 (vb + (blow phm psm n fh fg ff fk x).2.2.2) ub tb), ai m7 cyI 3 (t3 vd ud td), ai m8 cyI 3 (nF ct), ai m9 cyI 36 (q12 kd), ai m10 cyI 36 (q12 vl), ai m11 cyI 7 fr, ai m12 cyI 3 fp, ai m13 cyI 3 bp] := hD
    refine lv_goto (tgt := 20) hx hb dX4_wind_16 (by decide) ?_
    rw [hQ]
    simp only [sel_t (show 1 ≤ x ∧ x ≤ 9 from c_7)]
    exact ra_iretW () hx hb hr hlocks rfl hK hP hD hS rfl dX4_wind_20

set_option maxHeartbeats 4000000 in
set_option maxRecDepth 100000 in
theorem c_X4_storm (l : Launch) (dC : Nat → ClassId) (dI : Nat → Nat → Nat) (cyI cyA : ClassId) (m0 m1 m2 m3 m4 m5 m6 m7 m8 m9 m10 m11 m12 m13 n : Nat) (kn fz : Int32) (fh fg ff fk uh ug uf uk th tg tf tk : FN) (vs vb vd us ub ud ts tb td : Int32) (ct : Nat → Nat) (kd vl : Nat → FN) (fr fp bp : FN) (x : Int32) (hn : n ≤ 7) (hn1 : 1 ≤ n) (hct : ∀ w, w < 3 → ct w ≤ 12) (sz : Nat) : Met l yX4_storm wsX4_storm (rm 1) (kW dC dI cyI cyA [.ref m0, .int x] sz [ob m0 4 [.int (nI n), .int kn, .int fz, .ref m1, .ref m2, .ref m3, .ref m4, .ref m5, .ref m6, .ref m7, .ref m8, .ref m9, .ref m10, .ref m11, .ref m12, .ref m13], ai m1 cyI 21 (f3 fh uh th), ai m2 cyI 21 (f3 fg ug tg), ai m3 cyI 21 (f3 ff uf tf), ai m4 cyI 21 (f3 fk uk tk), ai m5 cyI 3 (t3 vs us ts), ai m6 cyI 3 (t3 vb ub tb), ai m7 cyI 3 (t3 vd ud td), ai m8 cyI 3 (nF ct), ai m9 cyI 36 (q12 kd), ai m10 cyI 36 (q12 vl), ai m11 cyI 7 fr, ai m12 cyI 3 fp, ai m13 cyI 3 bp]) (qI dC dI cyI cyA (fun (r : Int32) (_ : Unit) => r = sel (1 ≤ x ∧ x ≤ 99) (srg x n 0 fh fg ff vs vd).1 (-1)) (va_A [ob m0 4 [.int (nI n), .int kn, .int fz, .ref m1, .ref m2, .ref m3, .ref m4, .ref m5, .ref m6, .ref m7, .ref m8, .ref m9, .ref m10, .ref m11, .ref m12, .ref m13], ai m1 cyI 21 (f3 fh uh th), ai m2 cyI 21 (f3 fg ug tg), ai m3 cyI 21 (f3 ff uf tf), ai m4 cyI 21 (f3 fk uk tk), ai m5 cyI 3 (t3 vs us ts), ai m6 cyI 3 (t3 vb ub tb), ai m7 cyI 3 (t3 vd ud td), ai m8 cyI 3 (nF ct), ai m9 cyI 36 (q12 kd), ai m10 cyI 36 (q12 vl), ai m11 cyI 7 fr, ai m12 cyI 3 fp, ai m13 cyI 3 bp] sz) (fun _ => [ob m0 4 [.int (nI n), .int kn, .int fz, .ref m1, .ref m2, .ref m3, .ref m4, .ref m5, .ref m6, .ref m7, .ref m8, .ref m9, .ref m10, .ref m11, .ref m12, .ref m13], ai m1 cyI 21 (f3 (sel (1 ≤ x ∧ x ≤ 99) ((srg x n 0 fh fg ff vs vd).2.1) fh) uh th), ai m2 cyI 21 (f3 (sel (1 ≤ x ∧ x ≤ 99) ((srg x n 0 fh fg ff vs vd).2.2.1) fg) ug tg), ai m3 cyI 21 (f3 (sel (1 ≤ x ∧ x ≤ 99) ((srg x n 0 fh fg ff vs vd).2.2.2.1) ff) uf tf), ai m4 cyI 21 (f3 fk uk tk), ai m5 cyI 3 (t3 (sel (1 ≤ x ∧ x ≤ 99) ((srg x n 0 fh fg ff vs vd).2.2.2.2.1) vs) us ts), ai m6 cyI 3 (t3 vb ub tb), ai m7 cyI 3 (t3 (sel (1 ≤ x ∧ x ≤ 99) ((srg x n 0 fh fg ff vs vd).2.2.2.2.2) vd) ud td), ai m8 cyI 3 (nF ct), ai m9 cyI 36 (q12 kd), ai m10 cyI 36 (q12 vl), ai m11 cyI 7 fr, ai m12 cyI 3 fp, ai m13 cyI 3 bp])) 0 0 (va_A [ob m0 4 [.int (nI n), .int kn, .int fz, .ref m1, .ref m2, .ref m3, .ref m4, .ref m5, .ref m6, .ref m7, .ref m8, .ref m9, .ref m10, .ref m11, .ref m12, .ref m13], ai m1 cyI 21 (f3 fh uh th), ai m2 cyI 21 (f3 fg ug tg), ai m3 cyI 21 (f3 ff uf tf), ai m4 cyI 21 (f3 fk uk tk), ai m5 cyI 3 (t3 vs us ts), ai m6 cyI 3 (t3 vb ub tb), ai m7 cyI 3 (t3 vd ud td), ai m8 cyI 3 (nF ct), ai m9 cyI 36 (q12 kd), ai m10 cyI 36 (q12 vl), ai m11 cyI 7 fr, ai m12 cyI 3 fp, ai m13 cyI 3 bp] sz) := by
  refine ra_metW (cc := cX4_storm) (maxL := 2) (Qc := fun A => qI dC dI cyI cyA (fun (r : Int32) (_ : Unit) => r = sel (1 ≤ x ∧ x ≤ 99) (srg x n 0 fh fg ff vs vd).1 (-1)) A (fun _ => [ob m0 4 [.int (nI n), .int kn, .int fz, .ref m1, .ref m2, .ref m3, .ref m4, .ref m5, .ref m6, .ref m7, .ref m8, .ref m9, .ref m10, .ref m11, .ref m12, .ref m13], ai m1 cyI 21 (f3 (sel (1 ≤ x ∧ x ≤ 99) ((srg x n 0 fh fg ff vs vd).2.1) fh) uh th), ai m2 cyI 21 (f3 (sel (1 ≤ x ∧ x ≤ 99) ((srg x n 0 fh fg ff vs vd).2.2.1) fg) ug tg), ai m3 cyI 21 (f3 (sel (1 ≤ x ∧ x ≤ 99) ((srg x n 0 fh fg ff vs vd).2.2.2.1) ff) uf tf), ai m4 cyI 21 (f3 fk uk tk), ai m5 cyI 3 (t3 (sel (1 ≤ x ∧ x ≤ 99) ((srg x n 0 fh fg ff vs vd).2.2.2.2.1) vs) us ts), ai m6 cyI 3 (t3 vb ub tb), ai m7 cyI 3 (t3 (sel (1 ≤ x ∧ x ≤ 99) ((srg x n 0 fh fg ff vs vd).2.2.2.2.2) vd) ud td), ai m8 cyI 3 (nF ct), ai m9 cyI 36 (q12 kd), ai m10 cyI 36 (q12 vl), ai m11 cyI 7 fr, ai m12 cyI 3 fp, ai m13 cyI 3 bp])) (by decide) rfl (Nat.le_of_ble_eq_true rfl) ?_
  intro p e s m below meth c A args Q hQ hx hb hr hlocks hml hts hown hnm hK hN hP hD hA hS ls hl
  have hl : lv_has ls 2 [(0, .ref m0), (1, .int x)] := hl
  have hown : s.vm.findClass RX4 = some m.cls := hown
  obtain ⟨H, hHe⟩ : ∃ H, H = s.heap := ⟨_, rfl⟩
  obtain ⟨locs, hLe⟩ : ∃ locs : List Loc, locs = [] := ⟨_, rfl⟩
  have hP : va_P (dC, dI) vwCl [ob m0 4 [.int (nI n), .int kn, .int fz, .ref m1, .ref m2, .ref m3, .ref m4, .ref m5, .ref m6, .ref m7, .ref m8, .ref m9, .ref m10, .ref m11, .ref m12, .ref m13], ai m1 cyI 21 (f3 fh uh th), ai m2 cyI 21 (f3 fg ug tg), ai m3 cyI 21 (f3 ff uf tf), ai m4 cyI 21 (f3 fk uk tk), ai m5 cyI 3 (t3 vs us ts), ai m6 cyI 3 (t3 vb ub tb), ai m7 cyI 3 (t3 vd ud td), ai m8 cyI 3 (nF ct), ai m9 cyI 36 (q12 kd), ai m10 cyI 36 (q12 vl), ai m11 cyI 7 fr, ai m12 cyI 3 fp, ai m13 cyI 3 bp] H := by rw [hHe]; exact hP
  have hS : va_S A s.heap H locs := by rw [hHe, hLe]; exact hS
  suffices hgo : W p l e (rm 1) s m args below meth c H locs 0 0 Q (F0 m 0 ls []) by rw [hHe, hLe] at hgo; exact hgo
  refine lv_iload_n hx hb dX4_storm_0 rfl (lv_at hl 1 rfl) ?_
  refine lv_iconst (v := 1) hx hb dX4_storm_1 (by decide) ?_
  refine lv_bipush (v := 99) hx hb dX4_storm_2 (by decide) ?_
  refine ra_cS (As := [.int x, .int 1, .int 99]) (rest := []) ⟨hx, hb, hml, hown, hts⟩ (c_X4_in l x 1 99 ) (va_cwS 3 hts gX4_storm_X4_in rfl rfl rfl (by decide +kernel) ⟨Nat.le_of_ble_eq_true rfl, Nat.le_of_ble_eq_true rfl⟩) hN rfl hl.1 rfl (Nat.le_of_ble_eq_true rfl) dX4_storm_4 ⟨Nat.le_of_ble_eq_true rfl, Nat.le_of_ble_eq_true rfl⟩ ?_
  refine lv_if_eq (tgt := 19) hx hb dX4_storm_7 (by decide) (fun c_7 => ?_) (fun c_7 => ?_)
  · ---- to 19
    have c_7 := bi_0 c_7
    refine lv_iconst (v := (-1)) hx hb dX4_storm_19 (by decide) ?_
    rw [hQ]
    simp only [sel_f (show ¬ (1 ≤ x ∧ x ≤ 99) from c_7)]
    exact ra_iretW () hx hb hr hlocks rfl hK hP hD hS rfl dX4_storm_20
  · ---- on
    have c_7 := bi_1 c_7
    refine lv_aload_n hx hb dX4_storm_10 rfl (lv_at hl 0 rfl) ?_
    refine lv_iconst (v := 0) hx hb dX4_storm_11 (by decide) ?_
    refine lv_iload_n hx hb dX4_storm_12 rfl (lv_at hl 1 rfl) ?_
    refine ra_cI (q := (RX4, TX4, 16)) (ci := 4) (As := [.int 0, .int x]) (rest := []) (wc := [ob m0 4 [.int (nI n), .int kn, .int fz, .ref m1, .ref m2, .ref m3, .ref m4, .ref m5, .ref m6, .ref m7, .ref m8, .ref m9, .ref m10, .ref m11, .ref m12, .ref m13], ai m1 cyI 21 (f3 fh uh th), ai m2 cyI 21 (f3 fg ug tg), ai m3 cyI 21 (f3 ff uf tf), ai m4 cyI 21 (f3 fk uk tk), ai m5 cyI 3 (t3 vs us ts), ai m6 cyI 3 (t3 vb ub tb), ai m7 cyI 3 (t3 vd ud td), ai m8 cyI 3 (nF ct), ai m9 cyI 36 (q12 kd), ai m10 cyI 36 (q12 vl), ai m11 cyI 7 fr, ai m12 cyI 3 fp, ai m13 cyI 3 bp]) (wr := []) ⟨hx, hb, hml, hown, hts⟩ (c_X4_flood0 l dC dI cyI cyA m0 m1 m2 m3 m4 m5 m6 m7 m8 m9 m10 m11 m12 m13 n kn fz fh fg ff fk uh ug uf uk th tg tf tk vs vb vd us ub ud ts tb td ct kd vl fr fp bp x (by omega) H.size) (cwV 2 hts gX4_storm_X4_flood rfl rfl rfl (by decide +kernel) ⟨Nat.le_of_ble_eq_true rfl, Nat.le_of_ble_eq_true rfl⟩) hK hN hP hD hA hS [0, 1, 2, 3, 4, 5, 6, 7, 8, 9, 10, 11, 12, 13] [] rfl rfl (by decide) (by decide) (by decide) rfl rfl rfl hl.1 rfl (Nat.le_of_ble_eq_true rfl) dX4_storm_13 ⟨Nat.le_of_ble_eq_true rfl, Nat.le_of_ble_eq_true rfl⟩ (fun r_1 u_1 hw_c1 H locs hP hD hS => ?_)
    subst hw_c1
    have hP : va_P (dC, dI) vwCl [ob m0 4 [.int (nI n), .int kn, .int fz, .ref m1, .ref m2, .ref m3, .ref m4, .ref m5, .ref m6, .ref m7, .ref m8, .ref m9, .ref m10, .ref m11, .ref m12, .ref m13], ai m1 cyI 21 (f3 ((srg x n 0 fh fg ff vs vd).2.1) uh th), ai m2 cyI 21 (f3 ((srg x n 0 fh fg ff vs vd).2.2.1) ug tg), ai m3 cyI 21 (f3 ((srg x n 0 fh fg ff vs vd).2.2.2.1) uf tf), ai m4 cyI 21 (f3 fk uk tk), ai m5 cyI 3 (t3 ((srg x n 0 fh fg ff vs vd).2.2.2.2.1) us ts), ai m6 cyI 3 (t3 vb ub tb), ai m7 cyI 3 (t3 ((srg x n 0 fh fg ff vs vd).2.2.2.2.2) ud td), ai m8 cyI 3 (nF ct), ai m9 cyI 36 (q12 kd), ai m10 cyI 36 (q12 vl), ai m11 cyI 7 fr, ai m12 cyI 3 fp, ai m13 cyI 3 bp] H := hP
    have hD : va_D A [ob m0 4 [.int (nI n), .int kn, .int fz, .ref m1, .ref m2, .ref m3, .ref m4, .ref m5, .ref m6, .ref m7, .ref m8, .ref m9, .ref m10, .ref m11, .ref m12, .ref m13], ai m1 cyI 21 (f3 ((srg x n 0 fh fg ff vs vd).2.1) uh th), ai m2 cyI 21 (f3 ((srg x n 0 fh fg ff vs vd).2.2.1) ug tg), ai m3 cyI 21 (f3 ((srg x n 0 fh fg ff vs vd).2.2.2.1) uf tf), ai m4 cyI 21 (f3 fk uk tk), ai m5 cyI 3 (t3 ((srg x n 0 fh fg ff vs vd).2.2.2.2.1) us ts), ai m6 cyI 3 (t3 vb ub tb), ai m7 cyI 3 (t3 ((srg x n 0 fh fg ff vs vd).2.2.2.2.2) ud td), ai m8 cyI 3 (nF ct), ai m9 cyI 36 (q12 kd), ai m10 cyI 36 (q12 vl), ai m11 cyI 7 fr, ai m12 cyI 3 fp, ai m13 cyI 3 bp] := hD
    refine lv_goto (tgt := 20) hx hb dX4_storm_16 (by decide) ?_
    rw [hQ]
    simp only [sel_t (show 1 ≤ x ∧ x ≤ 99 from c_7)]
    exact ra_iretW () hx hb hr hlocks rfl hK hP hD hS rfl dX4_storm_20

set_option maxHeartbeats 4000000 in
set_option maxRecDepth 100000 in
theorem c_X4_end (l : Launch) (dC : Nat → ClassId) (dI : Nat → Nat → Nat) (cyI cyA : ClassId) (m0 m1 m2 m3 m4 m5 m6 m7 m8 m9 m10 m11 m12 m13 n : Nat) (kn fz : Int32) (fh fg ff fk uh ug uf uk th tg tf tk : FN) (vs vb vd us ub ud ts tb td : Int32) (ct : Nat → Nat) (kd vl : Nat → FN) (fr fp bp : FN) (hn : n ≤ 7) (hn1 : 1 ≤ n) (hct : ∀ w, w < 3 → ct w ≤ 12) (sz : Nat) : Met l yX4_end wsX4_end (rm 2) (kW dC dI cyI cyA [.ref m0] sz [ob m0 4 [.int (nI n), .int kn, .int fz, .ref m1, .ref m2, .ref m3, .ref m4, .ref m5, .ref m6, .ref m7, .ref m8, .ref m9, .ref m10, .ref m11, .ref m12, .ref m13], ai m1 cyI 21 (f3 fh uh th), ai m2 cyI 21 (f3 fg ug tg), ai m3 cyI 21 (f3 ff uf tf), ai m4 cyI 21 (f3 fk uk tk), ai m5 cyI 3 (t3 vs us ts), ai m6 cyI 3 (t3 vb ub tb), ai m7 cyI 3 (t3 vd ud td), ai m8 cyI 3 (nF ct), ai m9 cyI 36 (q12 kd), ai m10 cyI 36 (q12 vl), ai m11 cyI 7 fr, ai m12 cyI 3 fp, ai m13 cyI 3 bp]) (qI dC dI cyI cyA (fun (r : Int32) (_ : Unit) => r = (yE num n 0 fg fk 0).1) (va_A [ob m0 4 [.int (nI n), .int kn, .int fz, .ref m1, .ref m2, .ref m3, .ref m4, .ref m5, .ref m6, .ref m7, .ref m8, .ref m9, .ref m10, .ref m11, .ref m12, .ref m13], ai m1 cyI 21 (f3 fh uh th), ai m2 cyI 21 (f3 fg ug tg), ai m3 cyI 21 (f3 ff uf tf), ai m4 cyI 21 (f3 fk uk tk), ai m5 cyI 3 (t3 vs us ts), ai m6 cyI 3 (t3 vb ub tb), ai m7 cyI 3 (t3 vd ud td), ai m8 cyI 3 (nF ct), ai m9 cyI 36 (q12 kd), ai m10 cyI 36 (q12 vl), ai m11 cyI 7 fr, ai m12 cyI 3 fp, ai m13 cyI 3 bp] sz) (fun _ => [ob m0 4 [.int (nI n), .int kn, .int fz, .ref m1, .ref m2, .ref m3, .ref m4, .ref m5, .ref m6, .ref m7, .ref m8, .ref m9, .ref m10, .ref m11, .ref m12, .ref m13], ai m1 cyI 21 (f3 fh uh th), ai m2 cyI 21 (f3 ((yE num n 0 fg fk 0).2.1) ug tg), ai m3 cyI 21 (f3 ff uf tf), ai m4 cyI 21 (f3 ((yE num n 0 fg fk 0).2.2) uk tk), ai m5 cyI 3 (t3 vs us ts), ai m6 cyI 3 (t3 vb ub tb), ai m7 cyI 3 (t3 vd ud td), ai m8 cyI 3 (nF ct), ai m9 cyI 36 (q12 kd), ai m10 cyI 36 (q12 vl), ai m11 cyI 7 fr, ai m12 cyI 3 fp, ai m13 cyI 3 bp])) 0 0 (va_A [ob m0 4 [.int (nI n), .int kn, .int fz, .ref m1, .ref m2, .ref m3, .ref m4, .ref m5, .ref m6, .ref m7, .ref m8, .ref m9, .ref m10, .ref m11, .ref m12, .ref m13], ai m1 cyI 21 (f3 fh uh th), ai m2 cyI 21 (f3 fg ug tg), ai m3 cyI 21 (f3 ff uf tf), ai m4 cyI 21 (f3 fk uk tk), ai m5 cyI 3 (t3 vs us ts), ai m6 cyI 3 (t3 vb ub tb), ai m7 cyI 3 (t3 vd ud td), ai m8 cyI 3 (nF ct), ai m9 cyI 36 (q12 kd), ai m10 cyI 36 (q12 vl), ai m11 cyI 7 fr, ai m12 cyI 3 fp, ai m13 cyI 3 bp] sz) := by
  refine ra_metW (cc := cX4_end) (maxL := 1) (Qc := fun A => qI dC dI cyI cyA (fun (r : Int32) (_ : Unit) => r = (yE num n 0 fg fk 0).1) A (fun _ => [ob m0 4 [.int (nI n), .int kn, .int fz, .ref m1, .ref m2, .ref m3, .ref m4, .ref m5, .ref m6, .ref m7, .ref m8, .ref m9, .ref m10, .ref m11, .ref m12, .ref m13], ai m1 cyI 21 (f3 fh uh th), ai m2 cyI 21 (f3 ((yE num n 0 fg fk 0).2.1) ug tg), ai m3 cyI 21 (f3 ff uf tf), ai m4 cyI 21 (f3 ((yE num n 0 fg fk 0).2.2) uk tk), ai m5 cyI 3 (t3 vs us ts), ai m6 cyI 3 (t3 vb ub tb), ai m7 cyI 3 (t3 vd ud td), ai m8 cyI 3 (nF ct), ai m9 cyI 36 (q12 kd), ai m10 cyI 36 (q12 vl), ai m11 cyI 7 fr, ai m12 cyI 3 fp, ai m13 cyI 3 bp])) (by decide) rfl (Nat.le_of_ble_eq_true rfl) ?_
  intro p e s m below meth c A args Q hQ hx hb hr hlocks hml hts hown hnm hK hN hP hD hA hS ls hl
  have hl : lv_has ls 1 [(0, .ref m0)] := hl
  have hown : s.vm.findClass RX4 = some m.cls := hown
  obtain ⟨H, hHe⟩ : ∃ H, H = s.heap := ⟨_, rfl⟩
  obtain ⟨locs, hLe⟩ : ∃ locs : List Loc, locs = [] := ⟨_, rfl⟩
  have hP : va_P (dC, dI) vwCl [ob m0 4 [.int (nI n), .int kn, .int fz, .ref m1, .ref m2, .ref m3, .ref m4, .ref m5, .ref m6, .ref m7, .ref m8, .ref m9, .ref m10, .ref m11, .ref m12, .ref m13], ai m1 cyI 21 (f3 fh uh th), ai m2 cyI 21 (f3 fg ug tg), ai m3 cyI 21 (f3 ff uf tf), ai m4 cyI 21 (f3 fk uk tk), ai m5 cyI 3 (t3 vs us ts), ai m6 cyI 3 (t3 vb ub tb), ai m7 cyI 3 (t3 vd ud td), ai m8 cyI 3 (nF ct), ai m9 cyI 36 (q12 kd), ai m10 cyI 36 (q12 vl), ai m11 cyI 7 fr, ai m12 cyI 3 fp, ai m13 cyI 3 bp] H := by rw [hHe]; exact hP
  have hS : va_S A s.heap H locs := by rw [hHe, hLe]; exact hS
  suffices hgo : W p l e (rm 2) s m args below meth c H locs 0 0 Q (F0 m 0 ls []) by rw [hHe, hLe] at hgo; exact hgo
  refine lv_aload_n hx hb dX4_end_0 rfl (lv_at hl 0 rfl) ?_
  refine lv_iconst (v := 0) hx hb dX4_end_1 (by decide) ?_
  refine ra_cI (q := (RX4, TX4, 16)) (ci := 4) (As := [.int 0]) (rest := []) (wc := [ob m0 4 [.int (nI n), .int kn, .int fz, .ref m1, .ref m2, .ref m3, .ref m4, .ref m5, .ref m6, .ref m7, .ref m8, .ref m9, .ref m10, .ref m11, .ref m12, .ref m13], ai m1 cyI 21 (f3 fh uh th), ai m2 cyI 21 (f3 fg ug tg), ai m3 cyI 21 (f3 ff uf tf), ai m4 cyI 21 (f3 fk uk tk), ai m5 cyI 3 (t3 vs us ts), ai m6 cyI 3 (t3 vb ub tb), ai m7 cyI 3 (t3 vd ud td), ai m8 cyI 3 (nF ct), ai m9 cyI 36 (q12 kd), ai m10 cyI 36 (q12 vl), ai m11 cyI 7 fr, ai m12 cyI 3 fp, ai m13 cyI 3 bp]) (wr := []) ⟨hx, hb, hml, hown, hts⟩ (c_X4_endYear0 l dC dI cyI cyA m0 m1 m2 m3 m4 m5 m6 m7 m8 m9 m10 m11 m12 m13 n kn fz fh fg ff fk uh ug uf uk th tg tf tk vs vb vd us ub ud ts tb td ct kd vl fr fp bp (by omega) H.size) (cwV 1 hts gX4_end_X4_endYear rfl rfl rfl (by decide +kernel) ⟨Nat.le_of_ble_eq_true rfl, Nat.le_of_ble_eq_true rfl⟩) hK hN hP hD hA hS [0, 1, 2, 3, 4, 5, 6, 7, 8, 9, 10, 11, 12, 13] [] rfl rfl (by decide) (by decide) (by decide) rfl rfl rfl hl.1 rfl (Nat.le_of_ble_eq_true rfl) dX4_end_2 ⟨Nat.le_of_ble_eq_true rfl, Nat.le_of_ble_eq_true rfl⟩ (fun r_1 u_1 hw_c1 H locs hP hD hS => ?_)
  subst hw_c1
  have hP : va_P (dC, dI) vwCl [ob m0 4 [.int (nI n), .int kn, .int fz, .ref m1, .ref m2, .ref m3, .ref m4, .ref m5, .ref m6, .ref m7, .ref m8, .ref m9, .ref m10, .ref m11, .ref m12, .ref m13], ai m1 cyI 21 (f3 fh uh th), ai m2 cyI 21 (f3 ((yE num n 0 fg fk 0).2.1) ug tg), ai m3 cyI 21 (f3 ff uf tf), ai m4 cyI 21 (f3 ((yE num n 0 fg fk 0).2.2) uk tk), ai m5 cyI 3 (t3 vs us ts), ai m6 cyI 3 (t3 vb ub tb), ai m7 cyI 3 (t3 vd ud td), ai m8 cyI 3 (nF ct), ai m9 cyI 36 (q12 kd), ai m10 cyI 36 (q12 vl), ai m11 cyI 7 fr, ai m12 cyI 3 fp, ai m13 cyI 3 bp] H := hP
  have hD : va_D A [ob m0 4 [.int (nI n), .int kn, .int fz, .ref m1, .ref m2, .ref m3, .ref m4, .ref m5, .ref m6, .ref m7, .ref m8, .ref m9, .ref m10, .ref m11, .ref m12, .ref m13], ai m1 cyI 21 (f3 fh uh th), ai m2 cyI 21 (f3 ((yE num n 0 fg fk 0).2.1) ug tg), ai m3 cyI 21 (f3 ff uf tf), ai m4 cyI 21 (f3 ((yE num n 0 fg fk 0).2.2) uk tk), ai m5 cyI 3 (t3 vs us ts), ai m6 cyI 3 (t3 vb ub tb), ai m7 cyI 3 (t3 vd ud td), ai m8 cyI 3 (nF ct), ai m9 cyI 36 (q12 kd), ai m10 cyI 36 (q12 vl), ai m11 cyI 7 fr, ai m12 cyI 3 fp, ai m13 cyI 3 bp] := hD
  rw [hQ]
  exact ra_iretW () hx hb hr hlocks rfl hK hP hD hS rfl dX4_end_5

set_option maxHeartbeats 4000000 in
set_option maxRecDepth 100000 in
theorem c_X4_nourish (l : Launch) (dC : Nat → ClassId) (dI : Nat → Nat → Nat) (cyI cyA : ClassId) (m0 m1 m2 m3 m4 m5 m6 m7 m8 m9 m10 m11 m12 m13 n : Nat) (kn fz : Int32) (fh fg ff fk uh ug uf uk th tg tf tk : FN) (vs vb vd us ub ud ts tb td : Int32) (ct : Nat → Nat) (kd vl : Nat → FN) (fr fp bp : FN) (x : Int32) (hn : n ≤ 7) (hn1 : 1 ≤ n) (hct : ∀ w, w < 3 → ct w ≤ 12) (sz : Nat) : Met l yX4_nourish wsX4_nourish (rm 1) (kW dC dI cyI cyA [.ref m0, .int x] sz [ob m0 4 [.int (nI n), .int kn, .int fz, .ref m1, .ref m2, .ref m3, .ref m4, .ref m5, .ref m6, .ref m7, .ref m8, .ref m9, .ref m10, .ref m11, .ref m12, .ref m13], ai m1 cyI 21 (f3 fh uh th), ai m2 cyI 21 (f3 fg ug tg), ai m3 cyI 21 (f3 ff uf tf), ai m4 cyI 21 (f3 fk uk tk), ai m5 cyI 3 (t3 vs us ts), ai m6 cyI 3 (t3 vb ub tb), ai m7 cyI 3 (t3 vd ud td), ai m8 cyI 3 (nF ct), ai m9 cyI 36 (q12 kd), ai m10 cyI 36 (q12 vl), ai m11 cyI 7 fr, ai m12 cyI 3 fp, ai m13 cyI 3 bp]) (qI dC dI cyI cyA (fun (r : Int32) (_ : Unit) => r = sel (1 ≤ x ∧ x ≤ 99) (jmin x (99 - fh 0)) (-1)) (va_A [ob m0 4 [.int (nI n), .int kn, .int fz, .ref m1, .ref m2, .ref m3, .ref m4, .ref m5, .ref m6, .ref m7, .ref m8, .ref m9, .ref m10, .ref m11, .ref m12, .ref m13], ai m1 cyI 21 (f3 fh uh th), ai m2 cyI 21 (f3 fg ug tg), ai m3 cyI 21 (f3 ff uf tf), ai m4 cyI 21 (f3 fk uk tk), ai m5 cyI 3 (t3 vs us ts), ai m6 cyI 3 (t3 vb ub tb), ai m7 cyI 3 (t3 vd ud td), ai m8 cyI 3 (nF ct), ai m9 cyI 36 (q12 kd), ai m10 cyI 36 (q12 vl), ai m11 cyI 7 fr, ai m12 cyI 3 fp, ai m13 cyI 3 bp] sz) (fun _ => [ob m0 4 [.int (nI n), .int kn, .int fz, .ref m1, .ref m2, .ref m3, .ref m4, .ref m5, .ref m6, .ref m7, .ref m8, .ref m9, .ref m10, .ref m11, .ref m12, .ref m13], ai m1 cyI 21 (f3 (sel (1 ≤ x ∧ x ≤ 99) (upd fh 0 (fh 0 + jmin x (99 - fh 0))) fh) uh th), ai m2 cyI 21 (f3 fg ug tg), ai m3 cyI 21 (f3 ff uf tf), ai m4 cyI 21 (f3 fk uk tk), ai m5 cyI 3 (t3 vs us ts), ai m6 cyI 3 (t3 vb ub tb), ai m7 cyI 3 (t3 vd ud td), ai m8 cyI 3 (nF ct), ai m9 cyI 36 (q12 kd), ai m10 cyI 36 (q12 vl), ai m11 cyI 7 fr, ai m12 cyI 3 fp, ai m13 cyI 3 bp])) 0 0 (va_A [ob m0 4 [.int (nI n), .int kn, .int fz, .ref m1, .ref m2, .ref m3, .ref m4, .ref m5, .ref m6, .ref m7, .ref m8, .ref m9, .ref m10, .ref m11, .ref m12, .ref m13], ai m1 cyI 21 (f3 fh uh th), ai m2 cyI 21 (f3 fg ug tg), ai m3 cyI 21 (f3 ff uf tf), ai m4 cyI 21 (f3 fk uk tk), ai m5 cyI 3 (t3 vs us ts), ai m6 cyI 3 (t3 vb ub tb), ai m7 cyI 3 (t3 vd ud td), ai m8 cyI 3 (nF ct), ai m9 cyI 36 (q12 kd), ai m10 cyI 36 (q12 vl), ai m11 cyI 7 fr, ai m12 cyI 3 fp, ai m13 cyI 3 bp] sz) := by
  refine ra_metW (cc := cX4_nourish) (maxL := 3) (Qc := fun A => qI dC dI cyI cyA (fun (r : Int32) (_ : Unit) => r = sel (1 ≤ x ∧ x ≤ 99) (jmin x (99 - fh 0)) (-1)) A (fun _ => [ob m0 4 [.int (nI n), .int kn, .int fz, .ref m1, .ref m2, .ref m3, .ref m4, .ref m5, .ref m6, .ref m7, .ref m8, .ref m9, .ref m10, .ref m11, .ref m12, .ref m13], ai m1 cyI 21 (f3 (sel (1 ≤ x ∧ x ≤ 99) (upd fh 0 (fh 0 + jmin x (99 - fh 0))) fh) uh th), ai m2 cyI 21 (f3 fg ug tg), ai m3 cyI 21 (f3 ff uf tf), ai m4 cyI 21 (f3 fk uk tk), ai m5 cyI 3 (t3 vs us ts), ai m6 cyI 3 (t3 vb ub tb), ai m7 cyI 3 (t3 vd ud td), ai m8 cyI 3 (nF ct), ai m9 cyI 36 (q12 kd), ai m10 cyI 36 (q12 vl), ai m11 cyI 7 fr, ai m12 cyI 3 fp, ai m13 cyI 3 bp])) (by decide) rfl (Nat.le_of_ble_eq_true rfl) ?_
  intro p e s m below meth c A args Q hQ hx hb hr hlocks hml hts hown hnm hK hN hP hD hA hS ls hl
  have hl : lv_has ls 3 [(0, .ref m0), (1, .int x)] := hl
  have hown : s.vm.findClass RX4 = some m.cls := hown
  have hw_1 := hts (.fieldLink RX4 16 "DuneBenchModel" "height" "[I") (by decide +kernel)
  have hin_X4 : ∀ w ∈ u_ws RX4 TX4 16, w ∈ wsX4_nourish := by decide +kernel
  obtain ⟨H, hHe⟩ : ∃ H, H = s.heap := ⟨_, rfl⟩
  obtain ⟨locs, hLe⟩ : ∃ locs : List Loc, locs = [] := ⟨_, rfl⟩
  have hP : va_P (dC, dI) vwCl [ob m0 4 [.int (nI n), .int kn, .int fz, .ref m1, .ref m2, .ref m3, .ref m4, .ref m5, .ref m6, .ref m7, .ref m8, .ref m9, .ref m10, .ref m11, .ref m12, .ref m13], ai m1 cyI 21 (f3 fh uh th), ai m2 cyI 21 (f3 fg ug tg), ai m3 cyI 21 (f3 ff uf tf), ai m4 cyI 21 (f3 fk uk tk), ai m5 cyI 3 (t3 vs us ts), ai m6 cyI 3 (t3 vb ub tb), ai m7 cyI 3 (t3 vd ud td), ai m8 cyI 3 (nF ct), ai m9 cyI 36 (q12 kd), ai m10 cyI 36 (q12 vl), ai m11 cyI 7 fr, ai m12 cyI 3 fp, ai m13 cyI 3 bp] H := by rw [hHe]; exact hP
  have hS : va_S A s.heap H locs := by rw [hHe, hLe]; exact hS
  suffices hgo : W p l e (rm 1) s m args below meth c H locs 0 0 Q (F0 m 0 ls []) by rw [hHe, hLe] at hgo; exact hgo
  refine lv_iload_n hx hb dX4_nourish_0 rfl (lv_at hl 1 rfl) ?_
  refine lv_iconst (v := 1) hx hb dX4_nourish_1 (by decide) ?_
  refine lv_bipush (v := 99) hx hb dX4_nourish_2 (by decide) ?_
  refine ra_cS (As := [.int x, .int 1, .int 99]) (rest := []) ⟨hx, hb, hml, hown, hts⟩ (c_X4_in l x 1 99 ) (va_cwS 3 hts gX4_nourish_X4_in rfl rfl rfl (by decide +kernel) ⟨Nat.le_of_ble_eq_true rfl, Nat.le_of_ble_eq_true rfl⟩) hN rfl hl.1 rfl (Nat.le_of_ble_eq_true rfl) dX4_nourish_4 ⟨Nat.le_of_ble_eq_true rfl, Nat.le_of_ble_eq_true rfl⟩ ?_
  refine lv_if_ne (tgt := 12) hx hb dX4_nourish_7 (by decide) (fun c_7 => ?_) (fun c_7 => ?_)
  · ---- to 12
    have c_7 := bi_1 c_7
    refine lv_iload_n hx hb dX4_nourish_12 rfl (lv_at hl 1 rfl) ?_
    refine lv_bipush (v := 99) hx hb dX4_nourish_13 (by decide) ?_
    refine lv_aload_n hx hb dX4_nourish_15 rfl (lv_at hl 0 rfl) ?_
    refine va_get (D := (dC, dI)) (ci := 4) (v := .ref m1) (C := RX4) (T := TX4) (N := 16) hx hb hts hin_X4 hown hK hP 0 rfl rfl 3 (by decide) hw_1 (fun _ h9 => h9) rfl dX4_nourish_16 ?_
    refine lv_iconst (v := 0) hx hb dX4_nourish_19 (by decide) ?_
    refine ra_iald hx hb hK hP 1 rfl 0 rfl (by omega) (Nat.le_of_ble_eq_true rfl) dX4_nourish_20 ?_
    refine ra_top (fh 0) (f3_r0 _ _ _ (by omega)) ?_
    refine lv_isub hx hb dX4_nourish_21 ?_
    have J_38_1 : ∀ v_38_1 : Int32, v_38_1 = (jmin x (99 - fh 0)) → W p l e (rm 1) s m args below meth c H locs 0 0 Q (F0 m 38 ls [.int v_38_1]) := by
      intro v_38_1 ev_38_1
      subst ev_38_1
      refine lv_istore_n (lv' := [(2, .int (jmin x (99 - fh 0))), (0, .ref m0), (1, .int x)]) hx hb dX4_nourish_38 rfl hl (by decide) rfl (fun ls hl => ?_)
      refine lv_aload_n hx hb dX4_nourish_39 rfl (lv_at hl 1 rfl) ?_
      refine va_get (D := (dC, dI)) (ci := 4) (v := .ref m1) (C := RX4) (T := TX4) (N := 16) hx hb hts hin_X4 hown hK hP 0 rfl rfl 3 (by decide) hw_1 (fun _ h9 => h9) rfl dX4_nourish_40 ?_
      refine lv_iconst (v := 0) hx hb dX4_nourish_43 (by decide) ?_
      refine lv_dup2_11 hx hb dX4_nourish_44 rfl rfl ?_
      refine ra_iald hx hb hK hP 1 rfl 0 rfl (by omega) (Nat.le_of_ble_eq_true rfl) dX4_nourish_45 ?_
      refine ra_top (fh 0) (f3_r0 _ _ _ (by omega)) ?_
      refine lv_iload_n hx hb dX4_nourish_46 rfl (lv_at hl 0 rfl) ?_
      refine lv_iadd hx hb dX4_nourish_47 ?_
      refine ra_iast hx hb hK hP hD hS 1 rfl 0 rfl (by omega) (Nat.le_of_ble_eq_true rfl) dX4_nourish_48 (fun H locs hP hD hS => ?_)
      rw [f3_w0 _ _ _ _ (by omega)] at hP hD
      have hP : va_P (dC, dI) vwCl [ob m0 4 [.int (nI n), .int kn, .int fz, .ref m1, .ref m2, .ref m3, .ref m4, .ref m5, .ref m6, .ref m7, .ref m8, .ref m9, .ref m10, .ref m11, .ref m12, .ref m13], ai m1 cyI 21 (f3 (upd fh 0 ((fh 0) + (jmin x (99 - fh 0)))) uh th), ai m2 cyI 21 (f3 fg ug tg), ai m3 cyI 21 (f3 ff uf tf), ai m4 cyI 21 (f3 fk uk tk), ai m5 cyI 3 (t3 vs us ts), ai m6 cyI 3 (t3 vb ub tb), ai m7 cyI 3 (t3 vd ud td), ai m8 cyI 3 (nF ct), ai m9 cyI 36 (q12 kd), ai m10 cyI 36 (q12 vl), ai m11 cyI 7 fr, ai m12 cyI 3 fp, ai m13 cyI 3 bp] H := hP
      have hD : va_D A [ob m0 4 [.int (nI n), .int kn, .int fz, .ref m1, .ref m2, .ref m3, .ref m4, .ref m5, .ref m6, .ref m7, .ref m8, .ref m9, .ref m10, .ref m11, .ref m12, .ref m13], ai m1 cyI 21 (f3 (upd fh 0 ((fh 0) + (jmin x (99 - fh 0)))) uh th), ai m2 cyI 21 (f3 fg ug tg), ai m3 cyI 21 (f3 ff uf tf), ai m4 cyI 21 (f3 fk uk tk), ai m5 cyI 3 (t3 vs us ts), ai m6 cyI 3 (t3 vb ub tb), ai m7 cyI 3 (t3 vd ud td), ai m8 cyI 3 (nF ct), ai m9 cyI 36 (q12 kd), ai m10 cyI 36 (q12 vl), ai m11 cyI 7 fr, ai m12 cyI 3 fp, ai m13 cyI 3 bp] := hD
      refine lv_iload_n hx hb dX4_nourish_49 rfl (lv_at hl 0 rfl) ?_
      rw [hQ]
      simp only [sel_t c_7]
      exact ra_iretW () hx hb hr hlocks rfl hK hP hD hS rfl dX4_nourish_50
    refine lv_icmp_ge (tgt := 29) hx hb dX4_nourish_22 (by decide) (fun c_22 => ?_) (fun c_22 => ?_)
    · ---- to 29
      refine lv_bipush (v := 99) hx hb dX4_nourish_29 (by decide) ?_
      refine lv_aload_n hx hb dX4_nourish_31 rfl (lv_at hl 0 rfl) ?_
      refine va_get (D := (dC, dI)) (ci := 4) (v := .ref m1) (C := RX4) (T := TX4) (N := 16) hx hb hts hin_X4 hown hK hP 0 rfl rfl 3 (by decide) hw_1 (fun _ h9 => h9) rfl dX4_nourish_32 ?_
      refine lv_iconst (v := 0) hx hb dX4_nourish_35 (by decide) ?_
      refine ra_iald hx hb hK hP 1 rfl 0 rfl (by omega) (Nat.le_of_ble_eq_true rfl) dX4_nourish_36 ?_
      refine ra_top (fh 0) (f3_r0 _ _ _ (by omega)) ?_
      refine lv_isub hx hb dX4_nourish_37 ?_
      exact J_38_1 _ (jm_f c_22)
    · ---- on
      refine lv_iload_n hx hb dX4_nourish_25 rfl (lv_at hl 1 rfl) ?_
      refine lv_goto (tgt := 38) hx hb dX4_nourish_26 (by decide) ?_
      exact J_38_1 _ (jm_t (Int32.not_le.mp c_22))
  · ---- on
    have c_7 := bi_0 c_7
    refine lv_iconst (v := (-1)) hx hb dX4_nourish_10 (by decide) ?_
    rw [hQ]
    simp only [sel_f c_7]
    exact ra_iretW () hx hb hr hlocks rfl hK hP hD hS rfl dX4_nourish_11

set_option maxHeartbeats 4000000 in
set_option maxRecDepth 100000 in
theorem c_X4_event (l : Launch) (dC : Nat → ClassId) (dI : Nat → Nat → Nat) (cyI cyA : ClassId) (m0 m1 m2 m3 m4 m5 m6 m7 m8 m9 m10 m11 m12 m13 n : Nat) (kn fz : Int32) (fh fg ff fk uh ug uf uk th tg tf tk : FN) (vs vb vd us ub ud ts tb td : Int32) (ct : Nat → Nat) (kd vl : Nat → FN) (fr fp bp : FN) (x k v : Int32) (hn : n ≤ 7) (hn1 : 1 ≤ n) (hct : ∀ w, w < 3 → ct w ≤ 12) (sz : Nat) : Met l yX4_event wsX4_event (rm 2) (kW dC dI cyI cyA [.ref m0, .int x, .int k, .int v] sz [ob m0 4 [.int (nI n), .int kn, .int fz, .ref m1, .ref m2, .ref m3, .ref m4, .ref m5, .ref m6, .ref m7, .ref m8, .ref m9, .ref m10, .ref m11, .ref m12, .ref m13], ai m1 cyI 21 (f3 fh uh th), ai m2 cyI 21 (f3 fg ug tg), ai m3 cyI 21 (f3 ff uf tf), ai m4 cyI 21 (f3 fk uk tk), ai m5 cyI 3 (t3 vs us ts), ai m6 cyI 3 (t3 vb ub tb), ai m7 cyI 3 (t3 vd ud td), ai m8 cyI 3 (nF ct), ai m9 cyI 36 (q12 kd), ai m10 cyI 36 (q12 vl), ai m11 cyI 7 fr, ai m12 cyI 3 fp, ai m13 cyI 3 bp]) (qI dC dI cyI cyA (fun (r : Int32) (_ : Unit) => r = sel (okE x k v) (sel (ct x.toNatClampNeg < 12) (nI (ct x.toNatClampNeg + 1)) (-2)) (-1)) (va_A [ob m0 4 [.int (nI n), .int kn, .int fz, .ref m1, .ref m2, .ref m3, .ref m4, .ref m5, .ref m6, .ref m7, .ref m8, .ref m9, .ref m10, .ref m11, .ref m12, .ref m13], ai m1 cyI 21 (f3 fh uh th), ai m2 cyI 21 (f3 fg ug tg), ai m3 cyI 21 (f3 ff uf tf), ai m4 cyI 21 (f3 fk uk tk), ai m5 cyI 3 (t3 vs us ts), ai m6 cyI 3 (t3 vb ub tb), ai m7 cyI 3 (t3 vd ud td), ai m8 cyI 3 (nF ct), ai m9 cyI 36 (q12 kd), ai m10 cyI 36 (q12 vl), ai m11 cyI 7 fr, ai m12 cyI 3 fp, ai m13 cyI 3 bp] sz) (fun _ => [ob m0 4 [.int (nI n), .int kn, .int fz, .ref m1, .ref m2, .ref m3, .ref m4, .ref m5, .ref m6, .ref m7, .ref m8, .ref m9, .ref m10, .ref m11, .ref m12, .ref m13], ai m1 cyI 21 (f3 fh uh th), ai m2 cyI 21 (f3 fg ug tg), ai m3 cyI 21 (f3 ff uf tf), ai m4 cyI 21 (f3 fk uk tk), ai m5 cyI 3 (t3 vs us ts), ai m6 cyI 3 (t3 vb ub tb), ai m7 cyI 3 (t3 vd ud td), ai m8 cyI 3 (nF (sel (okE x k v ∧ ct x.toNatClampNeg < 12) (va_up ct x.toNatClampNeg (ct x.toNatClampNeg + 1)) ct)), ai m9 cyI 36 (q12 (sel (okE x k v ∧ ct x.toNatClampNeg < 12) (va_up kd x.toNatClampNeg (upd (kd x.toNatClampNeg) (ct x.toNatClampNeg) k)) kd)), ai m10 cyI 36 (q12 (sel (okE x k v ∧ ct x.toNatClampNeg < 12) (va_up vl x.toNatClampNeg (upd (vl x.toNatClampNeg) (ct x.toNatClampNeg) v)) vl)), ai m11 cyI 7 fr, ai m12 cyI 3 fp, ai m13 cyI 3 bp])) 0 0 (va_A [ob m0 4 [.int (nI n), .int kn, .int fz, .ref m1, .ref m2, .ref m3, .ref m4, .ref m5, .ref m6, .ref m7, .ref m8, .ref m9, .ref m10, .ref m11, .ref m12, .ref m13], ai m1 cyI 21 (f3 fh uh th), ai m2 cyI 21 (f3 fg ug tg), ai m3 cyI 21 (f3 ff uf tf), ai m4 cyI 21 (f3 fk uk tk), ai m5 cyI 3 (t3 vs us ts), ai m6 cyI 3 (t3 vb ub tb), ai m7 cyI 3 (t3 vd ud td), ai m8 cyI 3 (nF ct), ai m9 cyI 36 (q12 kd), ai m10 cyI 36 (q12 vl), ai m11 cyI 7 fr, ai m12 cyI 3 fp, ai m13 cyI 3 bp] sz) := by
  refine ra_metW (cc := cX4_event) (maxL := 4) (Qc := fun A => qI dC dI cyI cyA (fun (r : Int32) (_ : Unit) => r = sel (okE x k v) (sel (ct x.toNatClampNeg < 12) (nI (ct x.toNatClampNeg + 1)) (-2)) (-1)) A (fun _ => [ob m0 4 [.int (nI n), .int kn, .int fz, .ref m1, .ref m2, .ref m3, .ref m4, .ref m5, .ref m6, .ref m7, .ref m8, .ref m9, .ref m10, .ref m11, .ref m12, .ref m13], ai m1 cyI 21 (f3 fh uh th), ai m2 cyI 21 (f3 fg ug tg), ai m3 cyI 21 (f3 ff uf tf), ai m4 cyI 21 (f3 fk uk tk), ai m5 cyI 3 (t3 vs us ts), ai m6 cyI 3 (t3 vb ub tb), ai m7 cyI 3 (t3 vd ud td), ai m8 cyI 3 (nF (sel (okE x k v ∧ ct x.toNatClampNeg < 12) (va_up ct x.toNatClampNeg (ct x.toNatClampNeg + 1)) ct)), ai m9 cyI 36 (q12 (sel (okE x k v ∧ ct x.toNatClampNeg < 12) (va_up kd x.toNatClampNeg (upd (kd x.toNatClampNeg) (ct x.toNatClampNeg) k)) kd)), ai m10 cyI 36 (q12 (sel (okE x k v ∧ ct x.toNatClampNeg < 12) (va_up vl x.toNatClampNeg (upd (vl x.toNatClampNeg) (ct x.toNatClampNeg) v)) vl)), ai m11 cyI 7 fr, ai m12 cyI 3 fp, ai m13 cyI 3 bp])) (by decide) rfl (Nat.le_of_ble_eq_true rfl) ?_
  intro p e s m below meth c A args Q hQ hx hb hr hlocks hml hts hown hnm hK hN hP hD hA hS ls hl
  have hl : lv_has ls 4 [(0, .ref m0), (1, .int x), (2, .int k), (3, .int v)] := hl
  have hown : s.vm.findClass RX4 = some m.cls := hown
  have hw_1 := hts (.fieldLink RX4 38 "DuneBenchModel" "events" "[I") (by decide +kernel)
  have hin_X4 : ∀ w ∈ u_ws RX4 TX4 16, w ∈ wsX4_event := by decide +kernel
  have hw_3 := hts (.fieldLink RX4 41 "DuneBenchModel" "kindOf" "[I") (by decide +kernel)
  have hw_4 := hts (.fieldLink RX4 44 "DuneBenchModel" "valueOf" "[I") (by decide +kernel)
  obtain ⟨H, hHe⟩ : ∃ H, H = s.heap := ⟨_, rfl⟩
  obtain ⟨locs, hLe⟩ : ∃ locs : List Loc, locs = [] := ⟨_, rfl⟩
  have hP : va_P (dC, dI) vwCl [ob m0 4 [.int (nI n), .int kn, .int fz, .ref m1, .ref m2, .ref m3, .ref m4, .ref m5, .ref m6, .ref m7, .ref m8, .ref m9, .ref m10, .ref m11, .ref m12, .ref m13], ai m1 cyI 21 (f3 fh uh th), ai m2 cyI 21 (f3 fg ug tg), ai m3 cyI 21 (f3 ff uf tf), ai m4 cyI 21 (f3 fk uk tk), ai m5 cyI 3 (t3 vs us ts), ai m6 cyI 3 (t3 vb ub tb), ai m7 cyI 3 (t3 vd ud td), ai m8 cyI 3 (nF ct), ai m9 cyI 36 (q12 kd), ai m10 cyI 36 (q12 vl), ai m11 cyI 7 fr, ai m12 cyI 3 fp, ai m13 cyI 3 bp] H := by rw [hHe]; exact hP
  have hS : va_S A s.heap H locs := by rw [hHe, hLe]; exact hS
  suffices hgo : W p l e (rm 2) s m args below meth c H locs 0 0 Q (F0 m 0 ls []) by rw [hHe, hLe] at hgo; exact hgo
  refine lv_iload_n hx hb dX4_event_0 rfl (lv_at hl 1 rfl) ?_
  refine ra_cS (As := [.int x]) (rest := []) ⟨hx, hb, hml, hown, hts⟩ (c_X4_isWeather l x ) (va_cwS 1 hts gX4_event_X4_isWeather rfl rfl rfl (by decide +kernel) ⟨Nat.le_of_ble_eq_true rfl, Nat.le_of_ble_eq_true rfl⟩) hN rfl hl.1 rfl (Nat.le_of_ble_eq_true rfl) dX4_event_1 ⟨Nat.le_of_ble_eq_true rfl, Nat.le_of_ble_eq_true rfl⟩ ?_
  refine lv_if_eq (tgt := 40) hx hb dX4_event_4 (by decide) (fun c_4 => ?_) (fun c_4 => ?_)
  · ---- to 40
    have c_4 := bi_0 c_4
    refine lv_iconst (v := (-1)) hx hb dX4_event_40 (by decide) ?_
    rw [hQ]
    have hno : ¬ okE x k v := fun q => c_4 q.1
    simp only [sel_f hno, sel_f (show ¬ (okE x k v ∧ ct x.toNatClampNeg < 12) from fun q => hno q.1)]
    exact ra_iretW () hx hb hr hlocks rfl hK hP hD hS rfl dX4_event_41
  · ---- on
    have c_4 := bi_1 c_4
    refine lv_iload_n hx hb dX4_event_7 rfl (lv_at hl 2 rfl) ?_
    refine lv_iconst (v := 0) hx hb dX4_event_8 (by decide) ?_
    refine lv_iconst (v := 2) hx hb dX4_event_9 (by decide) ?_
    refine ra_cS (As := [.int k, .int 0, .int 2]) (rest := []) ⟨hx, hb, hml, hown, hts⟩ (c_X4_in l k 0 2 ) (va_cwS 3 hts gX4_event_X4_in rfl rfl rfl (by decide +kernel) ⟨Nat.le_of_ble_eq_true rfl, Nat.le_of_ble_eq_true rfl⟩) hN rfl hl.1 rfl (Nat.le_of_ble_eq_true rfl) dX4_event_10 ⟨Nat.le_of_ble_eq_true rfl, Nat.le_of_ble_eq_true rfl⟩ ?_
    refine lv_if_eq (tgt := 40) hx hb dX4_event_13 (by decide) (fun c_13 => ?_) (fun c_13 => ?_)
    · ---- to 40
      have c_13 := bi_0 c_13
      refine lv_iconst (v := (-1)) hx hb dX4_event_40 (by decide) ?_
      rw [hQ]
      have hno : ¬ okE x k v := fun q => ev_n c_13 q.2
      simp only [sel_f hno, sel_f (show ¬ (okE x k v ∧ ct x.toNatClampNeg < 12) from fun q => hno q.1)]
      exact ra_iretW () hx hb hr hlocks rfl hK hP hD hS rfl dX4_event_41
    · ---- on
      have c_13 := bi_1 c_13
      refine lv_iload_n hx hb dX4_event_16 rfl (lv_at hl 2 rfl) ?_
      refine lv_iconst (v := 2) hx hb dX4_event_17 (by decide) ?_
      refine lv_icmp_ge (tgt := 42) hx hb dX4_event_18 (by decide) (fun c_18 => ?_) (fun c_18 => ?_)
      · ---- to 42
        have hev : isEv k v := ev_a c_13 c_18
        obtain ⟨w, hw, rfl⟩ := i32_nat3 c_4
        have hcw := hct w hw
        have hok : okE (nI w) k v := ⟨c_4, hev⟩
        refine lv_aload_n hx hb dX4_event_42 rfl (lv_at hl 0 rfl) ?_
        refine va_get (D := (dC, dI)) (ci := 4) (v := .ref m8) (C := RX4) (T := TX4) (N := 16) hx hb hts hin_X4 hown hK hP 0 rfl rfl 10 (by decide) hw_1 (fun _ h9 => h9) rfl dX4_event_43 ?_
        refine lv_iload_n hx hb dX4_event_46 rfl (lv_at hl 1 rfl) ?_
        refine ra_iald hx hb hK hP 8 rfl w rfl (by omega) (Nat.le_of_ble_eq_true rfl) dX4_event_47 ?_
        refine ra_top (nI (ct w)) rfl ?_
        refine lv_bipush (v := 12) hx hb dX4_event_48 (by decide) ?_
        refine lv_icmp_ne (tgt := 56) hx hb dX4_event_50 (by decide) (fun c_50 => ?_) (fun c_50 => ?_)
        · ---- to 56
          have n_50 := (nq_eq_n (ct w) 12 (by omega) (by omega)).mp c_50
          refine lv_aload_n hx hb dX4_event_56 rfl (lv_at hl 0 rfl) ?_
          refine va_get (D := (dC, dI)) (ci := 4) (v := .ref m9) (C := RX4) (T := TX4) (N := 16) hx hb hts hin_X4 hown hK hP 0 rfl rfl 11 (by decide) hw_3 (fun _ h9 => h9) rfl dX4_event_57 ?_
          refine lv_bipush (v := 12) hx hb dX4_event_60 (by decide) ?_
          refine lv_iload_n hx hb dX4_event_62 rfl (lv_at hl 1 rfl) ?_
          refine lv_imul hx hb dX4_event_63 ?_
          refine ra_top (nI (12 * w)) (pk_mul 12 w) ?_
          refine lv_aload_n hx hb dX4_event_64 rfl (lv_at hl 0 rfl) ?_
          refine va_get (D := (dC, dI)) (ci := 4) (v := .ref m8) (C := RX4) (T := TX4) (N := 16) hx hb hts hin_X4 hown hK hP 0 rfl rfl 10 (by decide) hw_1 (fun _ h9 => h9) rfl dX4_event_65 ?_
          refine lv_iload_n hx hb dX4_event_68 rfl (lv_at hl 1 rfl) ?_
          refine ra_iald hx hb hK hP 8 rfl w rfl (by omega) (Nat.le_of_ble_eq_true rfl) dX4_event_69 ?_
          refine ra_top (nI (ct w)) rfl ?_
          refine lv_iadd hx hb dX4_event_70 ?_
          refine ra_top (nI (12 * w + (ct w))) (nI_add (12 * w) (ct w)) ?_
          refine lv_iload_n hx hb dX4_event_71 rfl (lv_at hl 2 rfl) ?_
          refine ra_iast hx hb hK hP hD hS 9 rfl (12 * w + (ct w)) rfl (by omega) (Nat.le_of_ble_eq_true rfl) dX4_event_72 (fun H locs hP hD hS => ?_)
          rw [q12_w _ _ (by omega)] at hP hD
          have hP : va_P (dC, dI) vwCl [ob m0 4 [.int (nI n), .int kn, .int fz, .ref m1, .ref m2, .ref m3, .ref m4, .ref m5, .ref m6, .ref m7, .ref m8, .ref m9, .ref m10, .ref m11, .ref m12, .ref m13], ai m1 cyI 21 (f3 fh uh th), ai m2 cyI 21 (f3 fg ug tg), ai m3 cyI 21 (f3 ff uf tf), ai m4 cyI 21 (f3 fk uk tk), ai m5 cyI 3 (t3 vs us ts), ai m6 cyI 3 (t3 vb ub tb), ai m7 cyI 3 (t3 vd ud td), ai m8 cyI 3 (nF ct), ai m9 cyI 36 (q12 (va_up kd w (upd (kd w) (ct w) k))), ai m10 cyI 36 (q12 vl), ai m11 cyI 7 fr, ai m12 cyI 3 fp, ai m13 cyI 3 bp] H := hP
          have hD : va_D A [ob m0 4 [.int (nI n), .int kn, .int fz, .ref m1, .ref m2, .ref m3, .ref m4, .ref m5, .ref m6, .ref m7, .ref m8, .ref m9, .ref m10, .ref m11, .ref m12, .ref m13], ai m1 cyI 21 (f3 fh uh th), ai m2 cyI 21 (f3 fg ug tg), ai m3 cyI 21 (f3 ff uf tf), ai m4 cyI 21 (f3 fk uk tk), ai m5 cyI 3 (t3 vs us ts), ai m6 cyI 3 (t3 vb ub tb), ai m7 cyI 3 (t3 vd ud td), ai m8 cyI 3 (nF ct), ai m9 cyI 36 (q12 (va_up kd w (upd (kd w) (ct w) k))), ai m10 cyI 36 (q12 vl), ai m11 cyI 7 fr, ai m12 cyI 3 fp, ai m13 cyI 3 bp] := hD
          refine lv_aload_n hx hb dX4_event_73 rfl (lv_at hl 0 rfl) ?_
          refine va_get (D := (dC, dI)) (ci := 4) (v := .ref m10) (C := RX4) (T := TX4) (N := 16) hx hb hts hin_X4 hown hK hP 0 rfl rfl 12 (by decide) hw_4 (fun _ h9 => h9) rfl dX4_event_74 ?_
          refine lv_bipush (v := 12) hx hb dX4_event_77 (by decide) ?_
          refine lv_iload_n hx hb dX4_event_79 rfl (lv_at hl 1 rfl) ?_
          refine lv_imul hx hb dX4_event_80 ?_
          refine ra_top (nI (12 * w)) (pk_mul 12 w) ?_
          refine lv_aload_n hx hb dX4_event_81 rfl (lv_at hl 0 rfl) ?_
          refine va_get (D := (dC, dI)) (ci := 4) (v := .ref m8) (C := RX4) (T := TX4) (N := 16) hx hb hts hin_X4 hown hK hP 0 rfl rfl 10 (by decide) hw_1 (fun _ h9 => h9) rfl dX4_event_82 ?_
          refine lv_iload_n hx hb dX4_event_85 rfl (lv_at hl 1 rfl) ?_
          refine ra_iald hx hb hK hP 8 rfl w rfl (by omega) (Nat.le_of_ble_eq_true rfl) dX4_event_86 ?_
          refine ra_top (nI (ct w)) rfl ?_
          refine lv_iadd hx hb dX4_event_87 ?_
          refine ra_top (nI (12 * w + (ct w))) (nI_add (12 * w) (ct w)) ?_
          refine lv_iload_n hx hb dX4_event_88 rfl (lv_at hl 3 rfl) ?_
          refine ra_iast hx hb hK hP hD hS 10 rfl (12 * w + (ct w)) rfl (by omega) (Nat.le_of_ble_eq_true rfl) dX4_event_89 (fun H locs hP hD hS => ?_)
          rw [q12_w _ _ (by omega)] at hP hD
          have hP : va_P (dC, dI) vwCl [ob m0 4 [.int (nI n), .int kn, .int fz, .ref m1, .ref m2, .ref m3, .ref m4, .ref m5, .ref m6, .ref m7, .ref m8, .ref m9, .ref m10, .ref m11, .ref m12, .ref m13], ai m1 cyI 21 (f3 fh uh th), ai m2 cyI 21 (f3 fg ug tg), ai m3 cyI 21 (f3 ff uf tf), ai m4 cyI 21 (f3 fk uk tk), ai m5 cyI 3 (t3 vs us ts), ai m6 cyI 3 (t3 vb ub tb), ai m7 cyI 3 (t3 vd ud td), ai m8 cyI 3 (nF ct), ai m9 cyI 36 (q12 (va_up kd w (upd (kd w) (ct w) k))), ai m10 cyI 36 (q12 (va_up vl w (upd (vl w) (ct w) v))), ai m11 cyI 7 fr, ai m12 cyI 3 fp, ai m13 cyI 3 bp] H := hP
          have hD : va_D A [ob m0 4 [.int (nI n), .int kn, .int fz, .ref m1, .ref m2, .ref m3, .ref m4, .ref m5, .ref m6, .ref m7, .ref m8, .ref m9, .ref m10, .ref m11, .ref m12, .ref m13], ai m1 cyI 21 (f3 fh uh th), ai m2 cyI 21 (f3 fg ug tg), ai m3 cyI 21 (f3 ff uf tf), ai m4 cyI 21 (f3 fk uk tk), ai m5 cyI 3 (t3 vs us ts), ai m6 cyI 3 (t3 vb ub tb), ai m7 cyI 3 (t3 vd ud td), ai m8 cyI 3 (nF ct), ai m9 cyI 36 (q12 (va_up kd w (upd (kd w) (ct w) k))), ai m10 cyI 36 (q12 (va_up vl w (upd (vl w) (ct w) v))), ai m11 cyI 7 fr, ai m12 cyI 3 fp, ai m13 cyI 3 bp] := hD
          refine lv_aload_n hx hb dX4_event_90 rfl (lv_at hl 0 rfl) ?_
          refine va_get (D := (dC, dI)) (ci := 4) (v := .ref m8) (C := RX4) (T := TX4) (N := 16) hx hb hts hin_X4 hown hK hP 0 rfl rfl 10 (by decide) hw_1 (fun _ h9 => h9) rfl dX4_event_91 ?_
          refine lv_iload_n hx hb dX4_event_94 rfl (lv_at hl 1 rfl) ?_
          refine lv_dup2_11 hx hb dX4_event_95 rfl rfl ?_
          refine ra_iald hx hb hK hP 8 rfl w rfl (by omega) (Nat.le_of_ble_eq_true rfl) dX4_event_96 ?_
          refine ra_top (nI (ct w)) rfl ?_
          refine lv_iconst (v := 1) hx hb dX4_event_97 (by decide) ?_
          refine lv_iadd hx hb dX4_event_98 ?_
          refine ra_top (nI (ct w + 1)) (nI_add (ct w) 1) ?_
          refine ra_iast hx hb hK hP hD hS 8 rfl w rfl (by omega) (Nat.le_of_ble_eq_true rfl) dX4_event_99 (fun H locs hP hD hS => ?_)
          rw [show upd (nF ct) w (nI (ct w + 1)) = nF (va_up ct w (ct w + 1)) from nF_wr ct w (ct w + 1)] at hP hD
          have hP : va_P (dC, dI) vwCl [ob m0 4 [.int (nI n), .int kn, .int fz, .ref m1, .ref m2, .ref m3, .ref m4, .ref m5, .ref m6, .ref m7, .ref m8, .ref m9, .ref m10, .ref m11, .ref m12, .ref m13], ai m1 cyI 21 (f3 fh uh th), ai m2 cyI 21 (f3 fg ug tg), ai m3 cyI 21 (f3 ff uf tf), ai m4 cyI 21 (f3 fk uk tk), ai m5 cyI 3 (t3 vs us ts), ai m6 cyI 3 (t3 vb ub tb), ai m7 cyI 3 (t3 vd ud td), ai m8 cyI 3 (nF (va_up ct w (ct w + 1))), ai m9 cyI 36 (q12 (va_up kd w (upd (kd w) (ct w) k))), ai m10 cyI 36 (q12 (va_up vl w (upd (vl w) (ct w) v))), ai m11 cyI 7 fr, ai m12 cyI 3 fp, ai m13 cyI 3 bp] H := hP
          have hD : va_D A [ob m0 4 [.int (nI n), .int kn, .int fz, .ref m1, .ref m2, .ref m3, .ref m4, .ref m5, .ref m6, .ref m7, .ref m8, .ref m9, .ref m10, .ref m11, .ref m12, .ref m13], ai m1 cyI 21 (f3 fh uh th), ai m2 cyI 21 (f3 fg ug tg), ai m3 cyI 21 (f3 ff uf tf), ai m4 cyI 21 (f3 fk uk tk), ai m5 cyI 3 (t3 vs us ts), ai m6 cyI 3 (t3 vb ub tb), ai m7 cyI 3 (t3 vd ud td), ai m8 cyI 3 (nF (va_up ct w (ct w + 1))), ai m9 cyI 36 (q12 (va_up kd w (upd (kd w) (ct w) k))), ai m10 cyI 36 (q12 (va_up vl w (upd (vl w) (ct w) v))), ai m11 cyI 7 fr, ai m12 cyI 3 fp, ai m13 cyI 3 bp] := hD
          refine lv_aload_n hx hb dX4_event_100 rfl (lv_at hl 0 rfl) ?_
          refine va_get (D := (dC, dI)) (ci := 4) (v := .ref m8) (C := RX4) (T := TX4) (N := 16) hx hb hts hin_X4 hown hK hP 0 rfl rfl 10 (by decide) hw_1 (fun _ h9 => h9) rfl dX4_event_101 ?_
          refine lv_iload_n hx hb dX4_event_104 rfl (lv_at hl 1 rfl) ?_
          refine ra_iald hx hb hK hP 8 rfl w rfl (by omega) (Nat.le_of_ble_eq_true rfl) dX4_event_105 ?_
          refine ra_top (nI (ct w + 1)) (by show nI (va_up ct w (ct w + 1) w) = _; unfold va_up; rw [if_pos rfl]) ?_
          rw [hQ]
          simp only [sel_t hok, nI_cl (show w ≤ 20 by omega), hok, true_and, sel_T]
          simp only [sel_t (show ct w < 12 by omega)]
          exact ra_iretW () hx hb hr hlocks rfl hK hP hD hS rfl dX4_event_106
        · ---- on
          have n_50 := (nq_eq (ct w) 12 (by omega) (by omega)).mp c_50
          refine lv_bipush (v := (-2)) hx hb dX4_event_53 (by decide) ?_
          rw [hQ]
          simp only [sel_t hok, nI_cl (show w ≤ 20 by omega), hok, true_and, sel_T]
          simp only [sel_f (show ¬ ct w < 12 by omega)]
          exact ra_iretW () hx hb hr hlocks rfl hK hP hD hS rfl dX4_event_55
      · ---- on
        refine lv_iload_n hx hb dX4_event_21 rfl (lv_at hl 3 rfl) ?_
        refine lv_iconst (v := 1) hx hb dX4_event_22 (by decide) ?_
        refine lv_iload_n hx hb dX4_event_23 rfl (lv_at hl 2 rfl) ?_
        have J_34_1 : ∀ v_34_1 : Int32, v_34_1 = (if k = 0 then 9 else 99) → W p l e (rm 2) s m args below meth c H locs 0 0 Q (F0 m 34 ls [.int v_34_1, .int 1, .int v]) := by
          intro v_34_1 ev_34_1
          subst ev_34_1
          refine ra_cS (As := [.int v, .int 1, .int (if k = 0 then 9 else 99)]) (rest := []) ⟨hx, hb, hml, hown, hts⟩ (c_X4_in l v 1 (if k = 0 then 9 else 99) ) (va_cwS 3 hts gX4_event_X4_in rfl rfl rfl (by decide +kernel) ⟨Nat.le_of_ble_eq_true rfl, Nat.le_of_ble_eq_true rfl⟩) hN rfl hl.1 rfl (Nat.le_of_ble_eq_true rfl) dX4_event_34 ⟨Nat.le_of_ble_eq_true rfl, Nat.le_of_ble_eq_true rfl⟩ ?_
          refine lv_if_ne (tgt := 42) hx hb dX4_event_37 (by decide) (fun c_37 => ?_) (fun c_37 => ?_)
          · ---- to 42
            have c_37 := bi_1 c_37
            have hev : isEv k v := ev_b c_13 c_18 c_37
            obtain ⟨w, hw, rfl⟩ := i32_nat3 c_4
            have hcw := hct w hw
            have hok : okE (nI w) k v := ⟨c_4, hev⟩
            refine lv_aload_n hx hb dX4_event_42 rfl (lv_at hl 0 rfl) ?_
            refine va_get (D := (dC, dI)) (ci := 4) (v := .ref m8) (C := RX4) (T := TX4) (N := 16) hx hb hts hin_X4 hown hK hP 0 rfl rfl 10 (by decide) hw_1 (fun _ h9 => h9) rfl dX4_event_43 ?_
            refine lv_iload_n hx hb dX4_event_46 rfl (lv_at hl 1 rfl) ?_
            refine ra_iald hx hb hK hP 8 rfl w rfl (by omega) (Nat.le_of_ble_eq_true rfl) dX4_event_47 ?_
            refine ra_top (nI (ct w)) rfl ?_
            refine lv_bipush (v := 12) hx hb dX4_event_48 (by decide) ?_
            refine lv_icmp_ne (tgt := 56) hx hb dX4_event_50 (by decide) (fun c_50 => ?_) (fun c_50 => ?_)
            · ---- to 56
              have n_50 := (nq_eq_n (ct w) 12 (by omega) (by omega)).mp c_50
              refine lv_aload_n hx hb dX4_event_56 rfl (lv_at hl 0 rfl) ?_
              refine va_get (D := (dC, dI)) (ci := 4) (v := .ref m9) (C := RX4) (T := TX4) (N := 16) hx hb hts hin_X4 hown hK hP 0 rfl rfl 11 (by decide) hw_3 (fun _ h9 => h9) rfl dX4_event_57 ?_
              refine lv_bipush (v := 12) hx hb dX4_event_60 (by decide) ?_
              refine lv_iload_n hx hb dX4_event_62 rfl (lv_at hl 1 rfl) ?_
              refine lv_imul hx hb dX4_event_63 ?_
              refine ra_top (nI (12 * w)) (pk_mul 12 w) ?_
              refine lv_aload_n hx hb dX4_event_64 rfl (lv_at hl 0 rfl) ?_
              refine va_get (D := (dC, dI)) (ci := 4) (v := .ref m8) (C := RX4) (T := TX4) (N := 16) hx hb hts hin_X4 hown hK hP 0 rfl rfl 10 (by decide) hw_1 (fun _ h9 => h9) rfl dX4_event_65 ?_
              refine lv_iload_n hx hb dX4_event_68 rfl (lv_at hl 1 rfl) ?_
              refine ra_iald hx hb hK hP 8 rfl w rfl (by omega) (Nat.le_of_ble_eq_true rfl) dX4_event_69 ?_
              refine ra_top (nI (ct w)) rfl ?_
              refine lv_iadd hx hb dX4_event_70 ?_
              refine ra_top (nI (12 * w + (ct w))) (nI_add (12 * w) (ct w)) ?_
              refine lv_iload_n hx hb dX4_event_71 rfl (lv_at hl 2 rfl) ?_
              refine ra_iast hx hb hK hP hD hS 9 rfl (12 * w + (ct w)) rfl (by omega) (Nat.le_of_ble_eq_true rfl) dX4_event_72 (fun H locs hP hD hS => ?_)
              rw [q12_w _ _ (by omega)] at hP hD
              have hP : va_P (dC, dI) vwCl [ob m0 4 [.int (nI n), .int kn, .int fz, .ref m1, .ref m2, .ref m3, .ref m4, .ref m5, .ref m6, .ref m7, .ref m8, .ref m9, .ref m10, .ref m11, .ref m12, .ref m13], ai m1 cyI 21 (f3 fh uh th), ai m2 cyI 21 (f3 fg ug tg), ai m3 cyI 21 (f3 ff uf tf), ai m4 cyI 21 (f3 fk uk tk), ai m5 cyI 3 (t3 vs us ts), ai m6 cyI 3 (t3 vb ub tb), ai m7 cyI 3 (t3 vd ud td), ai m8 cyI 3 (nF ct), ai m9 cyI 36 (q12 (va_up kd w (upd (kd w) (ct w) k))), ai m10 cyI 36 (q12 vl), ai m11 cyI 7 fr, ai m12 cyI 3 fp, ai m13 cyI 3 bp] H := hP
              have hD : va_D A [ob m0 4 [.int (nI n), .int kn, .int fz, .ref m1, .ref m2, .ref m3, .ref m4, .ref m5, .ref m6, .ref m7, .ref m8, .ref m9, .ref m10, .ref m11, .ref m12, .ref m13], ai m1 cyI 21 (f3 fh uh th), ai m2 cyI 21 (f3 fg ug tg), ai m3 cyI 21 (f3 ff uf tf), ai m4 cyI 21 (f3 fk uk tk), ai m5 cyI 3 (t3 vs us ts), ai m6 cyI 3 (t3 vb ub tb), ai m7 cyI 3 (t3 vd ud td), ai m8 cyI 3 (nF ct), ai m9 cyI 36 (q12 (va_up kd w (upd (kd w) (ct w) k))), ai m10 cyI 36 (q12 vl), ai m11 cyI 7 fr, ai m12 cyI 3 fp, ai m13 cyI 3 bp] := hD
              refine lv_aload_n hx hb dX4_event_73 rfl (lv_at hl 0 rfl) ?_
              refine va_get (D := (dC, dI)) (ci := 4) (v := .ref m10) (C := RX4) (T := TX4) (N := 16) hx hb hts hin_X4 hown hK hP 0 rfl rfl 12 (by decide) hw_4 (fun _ h9 => h9) rfl dX4_event_74 ?_
              refine lv_bipush (v := 12) hx hb dX4_event_77 (by decide) ?_
              refine lv_iload_n hx hb dX4_event_79 rfl (lv_at hl 1 rfl) ?_
              refine lv_imul hx hb dX4_event_80 ?_
              refine ra_top (nI (12 * w)) (pk_mul 12 w) ?_
              refine lv_aload_n hx hb dX4_event_81 rfl (lv_at hl 0 rfl) ?_
              refine va_get (D := (dC, dI)) (ci := 4) (v := .ref m8) (C := RX4) (T := TX4) (N := 16) hx hb hts hin_X4 hown hK hP 0 rfl rfl 10 (by decide) hw_1 (fun _ h9 => h9) rfl dX4_event_82 ?_
              refine lv_iload_n hx hb dX4_event_85 rfl (lv_at hl 1 rfl) ?_
              refine ra_iald hx hb hK hP 8 rfl w rfl (by omega) (Nat.le_of_ble_eq_true rfl) dX4_event_86 ?_
              refine ra_top (nI (ct w)) rfl ?_
              refine lv_iadd hx hb dX4_event_87 ?_
              refine ra_top (nI (12 * w + (ct w))) (nI_add (12 * w) (ct w)) ?_
              refine lv_iload_n hx hb dX4_event_88 rfl (lv_at hl 3 rfl) ?_
              refine ra_iast hx hb hK hP hD hS 10 rfl (12 * w + (ct w)) rfl (by omega) (Nat.le_of_ble_eq_true rfl) dX4_event_89 (fun H locs hP hD hS => ?_)
              rw [q12_w _ _ (by omega)] at hP hD
              have hP : va_P (dC, dI) vwCl [ob m0 4 [.int (nI n), .int kn, .int fz, .ref m1, .ref m2, .ref m3, .ref m4, .ref m5, .ref m6, .ref m7, .ref m8, .ref m9, .ref m10, .ref m11, .ref m12, .ref m13], ai m1 cyI 21 (f3 fh uh th), ai m2 cyI 21 (f3 fg ug tg), ai m3 cyI 21 (f3 ff uf tf), ai m4 cyI 21 (f3 fk uk tk), ai m5 cyI 3 (t3 vs us ts), ai m6 cyI 3 (t3 vb ub tb), ai m7 cyI 3 (t3 vd ud td), ai m8 cyI 3 (nF ct), ai m9 cyI 36 (q12 (va_up kd w (upd (kd w) (ct w) k))), ai m10 cyI 36 (q12 (va_up vl w (upd (vl w) (ct w) v))), ai m11 cyI 7 fr, ai m12 cyI 3 fp, ai m13 cyI 3 bp] H := hP
              have hD : va_D A [ob m0 4 [.int (nI n), .int kn, .int fz, .ref m1, .ref m2, .ref m3, .ref m4, .ref m5, .ref m6, .ref m7, .ref m8, .ref m9, .ref m10, .ref m11, .ref m12, .ref m13], ai m1 cyI 21 (f3 fh uh th), ai m2 cyI 21 (f3 fg ug tg), ai m3 cyI 21 (f3 ff uf tf), ai m4 cyI 21 (f3 fk uk tk), ai m5 cyI 3 (t3 vs us ts), ai m6 cyI 3 (t3 vb ub tb), ai m7 cyI 3 (t3 vd ud td), ai m8 cyI 3 (nF ct), ai m9 cyI 36 (q12 (va_up kd w (upd (kd w) (ct w) k))), ai m10 cyI 36 (q12 (va_up vl w (upd (vl w) (ct w) v))), ai m11 cyI 7 fr, ai m12 cyI 3 fp, ai m13 cyI 3 bp] := hD
              refine lv_aload_n hx hb dX4_event_90 rfl (lv_at hl 0 rfl) ?_
              refine va_get (D := (dC, dI)) (ci := 4) (v := .ref m8) (C := RX4) (T := TX4) (N := 16) hx hb hts hin_X4 hown hK hP 0 rfl rfl 10 (by decide) hw_1 (fun _ h9 => h9) rfl dX4_event_91 ?_
              refine lv_iload_n hx hb dX4_event_94 rfl (lv_at hl 1 rfl) ?_
              refine lv_dup2_11 hx hb dX4_event_95 rfl rfl ?_
              refine ra_iald hx hb hK hP 8 rfl w rfl (by omega) (Nat.le_of_ble_eq_true rfl) dX4_event_96 ?_
              refine ra_top (nI (ct w)) rfl ?_
              refine lv_iconst (v := 1) hx hb dX4_event_97 (by decide) ?_
              refine lv_iadd hx hb dX4_event_98 ?_
              refine ra_top (nI (ct w + 1)) (nI_add (ct w) 1) ?_
              refine ra_iast hx hb hK hP hD hS 8 rfl w rfl (by omega) (Nat.le_of_ble_eq_true rfl) dX4_event_99 (fun H locs hP hD hS => ?_)
              rw [show upd (nF ct) w (nI (ct w + 1)) = nF (va_up ct w (ct w + 1)) from nF_wr ct w (ct w + 1)] at hP hD
              have hP : va_P (dC, dI) vwCl [ob m0 4 [.int (nI n), .int kn, .int fz, .ref m1, .ref m2, .ref m3, .ref m4, .ref m5, .ref m6, .ref m7, .ref m8, .ref m9, .ref m10, .ref m11, .ref m12, .ref m13], ai m1 cyI 21 (f3 fh uh th), ai m2 cyI 21 (f3 fg ug tg), ai m3 cyI 21 (f3 ff uf tf), ai m4 cyI 21 (f3 fk uk tk), ai m5 cyI 3 (t3 vs us ts), ai m6 cyI 3 (t3 vb ub tb), ai m7 cyI 3 (t3 vd ud td), ai m8 cyI 3 (nF (va_up ct w (ct w + 1))), ai m9 cyI 36 (q12 (va_up kd w (upd (kd w) (ct w) k))), ai m10 cyI 36 (q12 (va_up vl w (upd (vl w) (ct w) v))), ai m11 cyI 7 fr, ai m12 cyI 3 fp, ai m13 cyI 3 bp] H := hP
              have hD : va_D A [ob m0 4 [.int (nI n), .int kn, .int fz, .ref m1, .ref m2, .ref m3, .ref m4, .ref m5, .ref m6, .ref m7, .ref m8, .ref m9, .ref m10, .ref m11, .ref m12, .ref m13], ai m1 cyI 21 (f3 fh uh th), ai m2 cyI 21 (f3 fg ug tg), ai m3 cyI 21 (f3 ff uf tf), ai m4 cyI 21 (f3 fk uk tk), ai m5 cyI 3 (t3 vs us ts), ai m6 cyI 3 (t3 vb ub tb), ai m7 cyI 3 (t3 vd ud td), ai m8 cyI 3 (nF (va_up ct w (ct w + 1))), ai m9 cyI 36 (q12 (va_up kd w (upd (kd w) (ct w) k))), ai m10 cyI 36 (q12 (va_up vl w (upd (vl w) (ct w) v))), ai m11 cyI 7 fr, ai m12 cyI 3 fp, ai m13 cyI 3 bp] := hD
              refine lv_aload_n hx hb dX4_event_100 rfl (lv_at hl 0 rfl) ?_
              refine va_get (D := (dC, dI)) (ci := 4) (v := .ref m8) (C := RX4) (T := TX4) (N := 16) hx hb hts hin_X4 hown hK hP 0 rfl rfl 10 (by decide) hw_1 (fun _ h9 => h9) rfl dX4_event_101 ?_
              refine lv_iload_n hx hb dX4_event_104 rfl (lv_at hl 1 rfl) ?_
              refine ra_iald hx hb hK hP 8 rfl w rfl (by omega) (Nat.le_of_ble_eq_true rfl) dX4_event_105 ?_
              refine ra_top (nI (ct w + 1)) (by show nI (va_up ct w (ct w + 1) w) = _; unfold va_up; rw [if_pos rfl]) ?_
              rw [hQ]
              simp only [sel_t hok, nI_cl (show w ≤ 20 by omega), hok, true_and, sel_T]
              simp only [sel_t (show ct w < 12 by omega)]
              exact ra_iretW () hx hb hr hlocks rfl hK hP hD hS rfl dX4_event_106
            · ---- on
              have n_50 := (nq_eq (ct w) 12 (by omega) (by omega)).mp c_50
              refine lv_bipush (v := (-2)) hx hb dX4_event_53 (by decide) ?_
              rw [hQ]
              simp only [sel_t hok, nI_cl (show w ≤ 20 by omega), hok, true_and, sel_T]
              simp only [sel_f (show ¬ ct w < 12 by omega)]
              exact ra_iretW () hx hb hr hlocks rfl hK hP hD hS rfl dX4_event_55
          · ---- on
            have c_37 := bi_0 c_37
            refine lv_iconst (v := (-1)) hx hb dX4_event_40 (by decide) ?_
            rw [hQ]
            have hno : ¬ okE x k v := fun q => ev_m c_18 c_37 q.2
            simp only [sel_f hno, sel_f (show ¬ (okE x k v ∧ ct x.toNatClampNeg < 12) from fun q => hno q.1)]
            exact ra_iretW () hx hb hr hlocks rfl hK hP hD hS rfl dX4_event_41
        refine lv_if_ne (tgt := 32) hx hb dX4_event_24 (by decide) (fun c_24 => ?_) (fun c_24 => ?_)
        · ---- to 32
          refine lv_bipush (v := 99) hx hb dX4_event_32 (by decide) ?_
          exact J_34_1 _ (if_neg c_24).symm
        · ---- on
          refine lv_bipush (v := 9) hx hb dX4_event_27 (by decide) ?_
          refine lv_goto (tgt := 34) hx hb dX4_event_29 (by decide) ?_
          exact J_34_1 _ (if_pos c_24).symm

set_option maxHeartbeats 4000000 in
set_option maxRecDepth 100000 in
theorem c_X4_calm (l : Launch) (dC : Nat → ClassId) (dI : Nat → Nat → Nat) (cyI cyA : ClassId) (m0 m1 m2 m3 m4 m5 m6 m7 m8 m9 m10 m11 m12 m13 n : Nat) (kn fz : Int32) (fh fg ff fk uh ug uf uk th tg tf tk : FN) (vs vb vd us ub ud ts tb td : Int32) (ct : Nat → Nat) (kd vl : Nat → FN) (fr fp bp : FN) (x : Int32) (hn : n ≤ 7) (hn1 : 1 ≤ n) (hct : ∀ w, w < 3 → ct w ≤ 12) (sz : Nat) : Met l yX4_calm wsX4_calm (rm 2) (kW dC dI cyI cyA [.ref m0, .int x] sz [ob m0 4 [.int (nI n), .int kn, .int fz, .ref m1, .ref m2, .ref m3, .ref m4, .ref m5, .ref m6, .ref m7, .ref m8, .ref m9, .ref m10, .ref m11, .ref m12, .ref m13], ai m1 cyI 21 (f3 fh uh th), ai m2 cyI 21 (f3 fg ug tg), ai m3 cyI 21 (f3 ff uf tf), ai m4 cyI 21 (f3 fk uk tk), ai m5 cyI 3 (t3 vs us ts), ai m6 cyI 3 (t3 vb ub tb), ai m7 cyI 3 (t3 vd ud td), ai m8 cyI 3 (nF ct), ai m9 cyI 36 (q12 kd), ai m10 cyI 36 (q12 vl), ai m11 cyI 7 fr, ai m12 cyI 3 fp, ai m13 cyI 3 bp]) (qI dC dI cyI cyA (fun (r : Int32) (_ : Unit) => r = sel (0 ≤ x ∧ x ≤ 2) (nI (ct x.toNatClampNeg)) (-1)) (va_A [ob m0 4 [.int (nI n), .int kn, .int fz, .ref m1, .ref m2, .ref m3, .ref m4, .ref m5, .ref m6, .ref m7, .ref m8, .ref m9, .ref m10, .ref m11, .ref m12, .ref m13], ai m1 cyI 21 (f3 fh uh th), ai m2 cyI 21 (f3 fg ug tg), ai m3 cyI 21 (f3 ff uf tf), ai m4 cyI 21 (f3 fk uk tk), ai m5 cyI 3 (t3 vs us ts), ai m6 cyI 3 (t3 vb ub tb), ai m7 cyI 3 (t3 vd ud td), ai m8 cyI 3 (nF ct), ai m9 cyI 36 (q12 kd), ai m10 cyI 36 (q12 vl), ai m11 cyI 7 fr, ai m12 cyI 3 fp, ai m13 cyI 3 bp] sz) (fun _ => [ob m0 4 [.int (nI n), .int kn, .int fz, .ref m1, .ref m2, .ref m3, .ref m4, .ref m5, .ref m6, .ref m7, .ref m8, .ref m9, .ref m10, .ref m11, .ref m12, .ref m13], ai m1 cyI 21 (f3 fh uh th), ai m2 cyI 21 (f3 fg ug tg), ai m3 cyI 21 (f3 ff uf tf), ai m4 cyI 21 (f3 fk uk tk), ai m5 cyI 3 (t3 vs us ts), ai m6 cyI 3 (t3 vb ub tb), ai m7 cyI 3 (t3 vd ud td), ai m8 cyI 3 (nF (sel (0 ≤ x ∧ x ≤ 2) (va_up ct x.toNatClampNeg 0) ct)), ai m9 cyI 36 (q12 kd), ai m10 cyI 36 (q12 vl), ai m11 cyI 7 fr, ai m12 cyI 3 fp, ai m13 cyI 3 bp])) 0 0 (va_A [ob m0 4 [.int (nI n), .int kn, .int fz, .ref m1, .ref m2, .ref m3, .ref m4, .ref m5, .ref m6, .ref m7, .ref m8, .ref m9, .ref m10, .ref m11, .ref m12, .ref m13], ai m1 cyI 21 (f3 fh uh th), ai m2 cyI 21 (f3 fg ug tg), ai m3 cyI 21 (f3 ff uf tf), ai m4 cyI 21 (f3 fk uk tk), ai m5 cyI 3 (t3 vs us ts), ai m6 cyI 3 (t3 vb ub tb), ai m7 cyI 3 (t3 vd ud td), ai m8 cyI 3 (nF ct), ai m9 cyI 36 (q12 kd), ai m10 cyI 36 (q12 vl), ai m11 cyI 7 fr, ai m12 cyI 3 fp, ai m13 cyI 3 bp] sz) := by
  refine ra_metW (cc := cX4_calm) (maxL := 3) (Qc := fun A => qI dC dI cyI cyA (fun (r : Int32) (_ : Unit) => r = sel (0 ≤ x ∧ x ≤ 2) (nI (ct x.toNatClampNeg)) (-1)) A (fun _ => [ob m0 4 [.int (nI n), .int kn, .int fz, .ref m1, .ref m2, .ref m3, .ref m4, .ref m5, .ref m6, .ref m7, .ref m8, .ref m9, .ref m10, .ref m11, .ref m12, .ref m13], ai m1 cyI 21 (f3 fh uh th), ai m2 cyI 21 (f3 fg ug tg), ai m3 cyI 21 (f3 ff uf tf), ai m4 cyI 21 (f3 fk uk tk), ai m5 cyI 3 (t3 vs us ts), ai m6 cyI 3 (t3 vb ub tb), ai m7 cyI 3 (t3 vd ud td), ai m8 cyI 3 (nF (sel (0 ≤ x ∧ x ≤ 2) (va_up ct x.toNatClampNeg 0) ct)), ai m9 cyI 36 (q12 kd), ai m10 cyI 36 (q12 vl), ai m11 cyI 7 fr, ai m12 cyI 3 fp, ai m13 cyI 3 bp])) (by decide) rfl (Nat.le_of_ble_eq_true rfl) ?_
  intro p e s m below meth c A args Q hQ hx hb hr hlocks hml hts hown hnm hK hN hP hD hA hS ls hl
  have hl : lv_has ls 3 [(0, .ref m0), (1, .int x)] := hl
  have hown : s.vm.findClass RX4 = some m.cls := hown
  have hw_1 := hts (.fieldLink RX4 38 "DuneBenchModel" "events" "[I") (by decide +kernel)
  have hin_X4 : ∀ w ∈ u_ws RX4 TX4 16, w ∈ wsX4_calm := by decide +kernel
  obtain ⟨H, hHe⟩ : ∃ H, H = s.heap := ⟨_, rfl⟩
  obtain ⟨locs, hLe⟩ : ∃ locs : List Loc, locs = [] := ⟨_, rfl⟩
  have hP : va_P (dC, dI) vwCl [ob m0 4 [.int (nI n), .int kn, .int fz, .ref m1, .ref m2, .ref m3, .ref m4, .ref m5, .ref m6, .ref m7, .ref m8, .ref m9, .ref m10, .ref m11, .ref m12, .ref m13], ai m1 cyI 21 (f3 fh uh th), ai m2 cyI 21 (f3 fg ug tg), ai m3 cyI 21 (f3 ff uf tf), ai m4 cyI 21 (f3 fk uk tk), ai m5 cyI 3 (t3 vs us ts), ai m6 cyI 3 (t3 vb ub tb), ai m7 cyI 3 (t3 vd ud td), ai m8 cyI 3 (nF ct), ai m9 cyI 36 (q12 kd), ai m10 cyI 36 (q12 vl), ai m11 cyI 7 fr, ai m12 cyI 3 fp, ai m13 cyI 3 bp] H := by rw [hHe]; exact hP
  have hS : va_S A s.heap H locs := by rw [hHe, hLe]; exact hS
  suffices hgo : W p l e (rm 2) s m args below meth c H locs 0 0 Q (F0 m 0 ls []) by rw [hHe, hLe] at hgo; exact hgo
  refine lv_iload_n hx hb dX4_calm_0 rfl (lv_at hl 1 rfl) ?_
  refine ra_cS (As := [.int x]) (rest := []) ⟨hx, hb, hml, hown, hts⟩ (c_X4_isWeather l x ) (va_cwS 1 hts gX4_calm_X4_isWeather rfl rfl rfl (by decide +kernel) ⟨Nat.le_of_ble_eq_true rfl, Nat.le_of_ble_eq_true rfl⟩) hN rfl hl.1 rfl (Nat.le_of_ble_eq_true rfl) dX4_calm_1 ⟨Nat.le_of_ble_eq_true rfl, Nat.le_of_ble_eq_true rfl⟩ ?_
  refine lv_if_ne (tgt := 9) hx hb dX4_calm_4 (by decide) (fun c_4 => ?_) (fun c_4 => ?_)
  · ---- to 9
    have c_4 := bi_1 c_4
    obtain ⟨w, hw, rfl⟩ := i32_nat3 c_4
    have hcw := hct w hw
    refine lv_aload_n hx hb dX4_calm_9 rfl (lv_at hl 0 rfl) ?_
    refine va_get (D := (dC, dI)) (ci := 4) (v := .ref m8) (C := RX4) (T := TX4) (N := 16) hx hb hts hin_X4 hown hK hP 0 rfl rfl 10 (by decide) hw_1 (fun _ h9 => h9) rfl dX4_calm_10 ?_
    refine lv_iload_n hx hb dX4_calm_13 rfl (lv_at hl 1 rfl) ?_
    refine ra_iald hx hb hK hP 8 rfl w rfl (by omega) (Nat.le_of_ble_eq_true rfl) dX4_calm_14 ?_
    refine ra_top (nI (ct w)) rfl ?_
    refine lv_istore_n (lv' := [(2, .int (nI (ct w))), (0, .ref m0), (1, .int (nI w))]) hx hb dX4_calm_15 rfl hl (by decide) rfl (fun ls hl => ?_)
    refine lv_aload_n hx hb dX4_calm_16 rfl (lv_at hl 1 rfl) ?_
    refine va_get (D := (dC, dI)) (ci := 4) (v := .ref m8) (C := RX4) (T := TX4) (N := 16) hx hb hts hin_X4 hown hK hP 0 rfl rfl 10 (by decide) hw_1 (fun _ h9 => h9) rfl dX4_calm_17 ?_
    refine lv_iload_n hx hb dX4_calm_20 rfl (lv_at hl 2 rfl) ?_
    refine lv_iconst (v := 0) hx hb dX4_calm_21 (by decide) ?_
    refine ra_iast hx hb hK hP hD hS 8 rfl w rfl (by omega) (Nat.le_of_ble_eq_true rfl) dX4_calm_22 (fun H locs hP hD hS => ?_)
    rw [show upd (nF ct) w 0 = nF (va_up ct w 0) from nF_wr ct w 0] at hP hD
    have hP : va_P (dC, dI) vwCl [ob m0 4 [.int (nI n), .int kn, .int fz, .ref m1, .ref m2, .ref m3, .ref m4, .ref m5, .ref m6, .ref m7, .ref m8, .ref m9, .ref m10, .ref m11, .ref m12, .ref m13], ai m1 cyI 21 (f3 fh uh th), ai m2 cyI 21 (f3 fg ug tg), ai m3 cyI 21 (f3 ff uf tf), ai m4 cyI 21 (f3 fk uk tk), ai m5 cyI 3 (t3 vs us ts), ai m6 cyI 3 (t3 vb ub tb), ai m7 cyI 3 (t3 vd ud td), ai m8 cyI 3 (nF (va_up ct w 0)), ai m9 cyI 36 (q12 kd), ai m10 cyI 36 (q12 vl), ai m11 cyI 7 fr, ai m12 cyI 3 fp, ai m13 cyI 3 bp] H := hP
    have hD : va_D A [ob m0 4 [.int (nI n), .int kn, .int fz, .ref m1, .ref m2, .ref m3, .ref m4, .ref m5, .ref m6, .ref m7, .ref m8, .ref m9, .ref m10, .ref m11, .ref m12, .ref m13], ai m1 cyI 21 (f3 fh uh th), ai m2 cyI 21 (f3 fg ug tg), ai m3 cyI 21 (f3 ff uf tf), ai m4 cyI 21 (f3 fk uk tk), ai m5 cyI 3 (t3 vs us ts), ai m6 cyI 3 (t3 vb ub tb), ai m7 cyI 3 (t3 vd ud td), ai m8 cyI 3 (nF (va_up ct w 0)), ai m9 cyI 36 (q12 kd), ai m10 cyI 36 (q12 vl), ai m11 cyI 7 fr, ai m12 cyI 3 fp, ai m13 cyI 3 bp] := hD
    refine lv_iload_n hx hb dX4_calm_23 rfl (lv_at hl 0 rfl) ?_
    rw [hQ]
    simp only [sel_t c_4, nI_cl (show w ≤ 20 by omega)]
    exact ra_iretW () hx hb hr hlocks rfl hK hP hD hS rfl dX4_calm_24
  · ---- on
    have c_4 := bi_0 c_4
    refine lv_iconst (v := (-1)) hx hb dX4_calm_7 (by decide) ?_
    rw [hQ]
    simp only [sel_f c_4]
    exact ra_iretW () hx hb hr hlocks rfl hK hP hD hS rfl dX4_calm_8

set_option maxHeartbeats 4000000 in
set_option maxRecDepth 100000 in
theorem c_X4_size (l : Launch) (dC : Nat → ClassId) (dI : Nat → Nat → Nat) (cyI cyA : ClassId) (m0 m1 m2 m3 m4 m5 m6 m7 m8 m9 m10 m11 m12 m13 n : Nat) (kn fz : Int32) (fh fg ff fk uh ug uf uk th tg tf tk : FN) (vs vb vd us ub ud ts tb td : Int32) (ct : Nat → Nat) (kd vl : Nat → FN) (fr fp bp : FN) (x : Int32) (hn : n ≤ 7) (hn1 : 1 ≤ n) (hct : ∀ w, w < 3 → ct w ≤ 12) (sz : Nat) : Met l yX4_size wsX4_size (rm 1) (kW dC dI cyI cyA [.ref m0, .int x] sz [ob m0 4 [.int (nI n), .int kn, .int fz, .ref m1, .ref m2, .ref m3, .ref m4, .ref m5, .ref m6, .ref m7, .ref m8, .ref m9, .ref m10, .ref m11, .ref m12, .ref m13], ai m1 cyI 21 (f3 fh uh th), ai m2 cyI 21 (f3 fg ug tg), ai m3 cyI 21 (f3 ff uf tf), ai m4 cyI 21 (f3 fk uk tk), ai m5 cyI 3 (t3 vs us ts), ai m6 cyI 3 (t3 vb ub tb), ai m7 cyI 3 (t3 vd ud td), ai m8 cyI 3 (nF ct), ai m9 cyI 36 (q12 kd), ai m10 cyI 36 (q12 vl), ai m11 cyI 7 fr, ai m12 cyI 3 fp, ai m13 cyI 3 bp]) (qI dC dI cyI cyA (fun (r : Int32) (_ : Unit) => r = sel (1 ≤ x ∧ x ≤ 20) fz (-1)) (va_A [ob m0 4 [.int (nI n), .int kn, .int fz, .ref m1, .ref m2, .ref m3, .ref m4, .ref m5, .ref m6, .ref m7, .ref m8, .ref m9, .ref m10, .ref m11, .ref m12, .ref m13], ai m1 cyI 21 (f3 fh uh th), ai m2 cyI 21 (f3 fg ug tg), ai m3 cyI 21 (f3 ff uf tf), ai m4 cyI 21 (f3 fk uk tk), ai m5 cyI 3 (t3 vs us ts), ai m6 cyI 3 (t3 vb ub tb), ai m7 cyI 3 (t3 vd ud td), ai m8 cyI 3 (nF ct), ai m9 cyI 36 (q12 kd), ai m10 cyI 36 (q12 vl), ai m11 cyI 7 fr, ai m12 cyI 3 fp, ai m13 cyI 3 bp] sz) (fun _ => [ob m0 4 [.int (nI n), .int kn, .int (sel (1 ≤ x ∧ x ≤ 20) x fz), .ref m1, .ref m2, .ref m3, .ref m4, .ref m5, .ref m6, .ref m7, .ref m8, .ref m9, .ref m10, .ref m11, .ref m12, .ref m13], ai m1 cyI 21 (f3 fh uh th), ai m2 cyI 21 (f3 fg ug tg), ai m3 cyI 21 (f3 ff uf tf), ai m4 cyI 21 (f3 fk uk tk), ai m5 cyI 3 (t3 vs us ts), ai m6 cyI 3 (t3 vb ub tb), ai m7 cyI 3 (t3 vd ud td), ai m8 cyI 3 (nF ct), ai m9 cyI 36 (q12 kd), ai m10 cyI 36 (q12 vl), ai m11 cyI 7 fr, ai m12 cyI 3 fp, ai m13 cyI 3 bp])) 0 0 (va_A [ob m0 4 [.int (nI n), .int kn, .int fz, .ref m1, .ref m2, .ref m3, .ref m4, .ref m5, .ref m6, .ref m7, .ref m8, .ref m9, .ref m10, .ref m11, .ref m12, .ref m13], ai m1 cyI 21 (f3 fh uh th), ai m2 cyI 21 (f3 fg ug tg), ai m3 cyI 21 (f3 ff uf tf), ai m4 cyI 21 (f3 fk uk tk), ai m5 cyI 3 (t3 vs us ts), ai m6 cyI 3 (t3 vb ub tb), ai m7 cyI 3 (t3 vd ud td), ai m8 cyI 3 (nF ct), ai m9 cyI 36 (q12 kd), ai m10 cyI 36 (q12 vl), ai m11 cyI 7 fr, ai m12 cyI 3 fp, ai m13 cyI 3 bp] sz) := by
  refine ra_metW (cc := cX4_size) (maxL := 3) (Qc := fun A => qI dC dI cyI cyA (fun (r : Int32) (_ : Unit) => r = sel (1 ≤ x ∧ x ≤ 20) fz (-1)) A (fun _ => [ob m0 4 [.int (nI n), .int kn, .int (sel (1 ≤ x ∧ x ≤ 20) x fz), .ref m1, .ref m2, .ref m3, .ref m4, .ref m5, .ref m6, .ref m7, .ref m8, .ref m9, .ref m10, .ref m11, .ref m12, .ref m13], ai m1 cyI 21 (f3 fh uh th), ai m2 cyI 21 (f3 fg ug tg), ai m3 cyI 21 (f3 ff uf tf), ai m4 cyI 21 (f3 fk uk tk), ai m5 cyI 3 (t3 vs us ts), ai m6 cyI 3 (t3 vb ub tb), ai m7 cyI 3 (t3 vd ud td), ai m8 cyI 3 (nF ct), ai m9 cyI 36 (q12 kd), ai m10 cyI 36 (q12 vl), ai m11 cyI 7 fr, ai m12 cyI 3 fp, ai m13 cyI 3 bp])) (by decide) rfl (Nat.le_of_ble_eq_true rfl) ?_
  intro p e s m below meth c A args Q hQ hx hb hr hlocks hml hts hown hnm hK hN hP hD hA hS ls hl
  have hl : lv_has ls 3 [(0, .ref m0), (1, .int x)] := hl
  have hown : s.vm.findClass RX4 = some m.cls := hown
  have hw_1 := hts (.fieldLink RX4 13 "DuneBenchModel" "size" "I") (by decide +kernel)
  have hin_X4 : ∀ w ∈ u_ws RX4 TX4 16, w ∈ wsX4_size := by decide +kernel
  obtain ⟨H, hHe⟩ : ∃ H, H = s.heap := ⟨_, rfl⟩
  obtain ⟨locs, hLe⟩ : ∃ locs : List Loc, locs = [] := ⟨_, rfl⟩
  have hP : va_P (dC, dI) vwCl [ob m0 4 [.int (nI n), .int kn, .int fz, .ref m1, .ref m2, .ref m3, .ref m4, .ref m5, .ref m6, .ref m7, .ref m8, .ref m9, .ref m10, .ref m11, .ref m12, .ref m13], ai m1 cyI 21 (f3 fh uh th), ai m2 cyI 21 (f3 fg ug tg), ai m3 cyI 21 (f3 ff uf tf), ai m4 cyI 21 (f3 fk uk tk), ai m5 cyI 3 (t3 vs us ts), ai m6 cyI 3 (t3 vb ub tb), ai m7 cyI 3 (t3 vd ud td), ai m8 cyI 3 (nF ct), ai m9 cyI 36 (q12 kd), ai m10 cyI 36 (q12 vl), ai m11 cyI 7 fr, ai m12 cyI 3 fp, ai m13 cyI 3 bp] H := by rw [hHe]; exact hP
  have hS : va_S A s.heap H locs := by rw [hHe, hLe]; exact hS
  suffices hgo : W p l e (rm 1) s m args below meth c H locs 0 0 Q (F0 m 0 ls []) by rw [hHe, hLe] at hgo; exact hgo
  refine lv_iload_n hx hb dX4_size_0 rfl (lv_at hl 1 rfl) ?_
  refine lv_iconst (v := 1) hx hb dX4_size_1 (by decide) ?_
  refine lv_bipush (v := 20) hx hb dX4_size_2 (by decide) ?_
  refine ra_cS (As := [.int x, .int 1, .int 20]) (rest := []) ⟨hx, hb, hml, hown, hts⟩ (c_X4_in l x 1 20 ) (va_cwS 3 hts gX4_size_X4_in rfl rfl rfl (by decide +kernel) ⟨Nat.le_of_ble_eq_true rfl, Nat.le_of_ble_eq_true rfl⟩) hN rfl hl.1 rfl (Nat.le_of_ble_eq_true rfl) dX4_size_4 ⟨Nat.le_of_ble_eq_true rfl, Nat.le_of_ble_eq_true rfl⟩ ?_
  refine lv_if_ne (tgt := 12) hx hb dX4_size_7 (by decide) (fun c_7 => ?_) (fun c_7 => ?_)
  · ---- to 12
    have c_7 := bi_1 c_7
    refine lv_aload_n hx hb dX4_size_12 rfl (lv_at hl 0 rfl) ?_
    refine va_get (D := (dC, dI)) (ci := 4) (v := .int fz) (C := RX4) (T := TX4) (N := 16) hx hb hts hin_X4 hown hK hP 0 rfl rfl 2 (by decide) hw_1 (fun _ h9 => h9) rfl dX4_size_13 ?_
    refine lv_istore_n (lv' := [(2, .int fz), (0, .ref m0), (1, .int x)]) hx hb dX4_size_16 rfl hl (by decide) rfl (fun ls hl => ?_)
    refine lv_aload_n hx hb dX4_size_17 rfl (lv_at hl 1 rfl) ?_
    refine lv_iload_n hx hb dX4_size_18 rfl (lv_at hl 2 rfl) ?_
    refine va_put (D := (dC, dI)) (ci := 4) (v := .int x) (ty := .int) (C := RX4) (T := TX4) (N := 16) hx hb hts hin_X4 tyX4 tyX4_ok nmX4 hown hK hP hD hS 0 rfl rfl 2 (by decide) hw_1 (fun _ h9 => h9) rfl (by decide +kernel) rfl rfl (Nat.le_of_ble_eq_true rfl) dX4_size_19 (fun H locs hP hD hS => ?_)
    have hP : va_P (dC, dI) vwCl [ob m0 4 [.int (nI n), .int kn, .int x, .ref m1, .ref m2, .ref m3, .ref m4, .ref m5, .ref m6, .ref m7, .ref m8, .ref m9, .ref m10, .ref m11, .ref m12, .ref m13], ai m1 cyI 21 (f3 fh uh th), ai m2 cyI 21 (f3 fg ug tg), ai m3 cyI 21 (f3 ff uf tf), ai m4 cyI 21 (f3 fk uk tk), ai m5 cyI 3 (t3 vs us ts), ai m6 cyI 3 (t3 vb ub tb), ai m7 cyI 3 (t3 vd ud td), ai m8 cyI 3 (nF ct), ai m9 cyI 36 (q12 kd), ai m10 cyI 36 (q12 vl), ai m11 cyI 7 fr, ai m12 cyI 3 fp, ai m13 cyI 3 bp] H := hP
    have hD : va_D A [ob m0 4 [.int (nI n), .int kn, .int x, .ref m1, .ref m2, .ref m3, .ref m4, .ref m5, .ref m6, .ref m7, .ref m8, .ref m9, .ref m10, .ref m11, .ref m12, .ref m13], ai m1 cyI 21 (f3 fh uh th), ai m2 cyI 21 (f3 fg ug tg), ai m3 cyI 21 (f3 ff uf tf), ai m4 cyI 21 (f3 fk uk tk), ai m5 cyI 3 (t3 vs us ts), ai m6 cyI 3 (t3 vb ub tb), ai m7 cyI 3 (t3 vd ud td), ai m8 cyI 3 (nF ct), ai m9 cyI 36 (q12 kd), ai m10 cyI 36 (q12 vl), ai m11 cyI 7 fr, ai m12 cyI 3 fp, ai m13 cyI 3 bp] := hD
    refine lv_iload_n hx hb dX4_size_22 rfl (lv_at hl 0 rfl) ?_
    rw [hQ]
    simp only [sel_t c_7]
    exact ra_iretW () hx hb hr hlocks rfl hK hP hD hS rfl dX4_size_23
  · ---- on
    have c_7 := bi_0 c_7
    refine lv_iconst (v := (-1)) hx hb dX4_size_10 (by decide) ?_
    rw [hQ]
    simp only [sel_f c_7]
    exact ra_iretW () hx hb hr hlocks rfl hK hP hD hS rfl dX4_size_11

set_option maxHeartbeats 4000000 in
set_option maxRecDepth 100000 in
theorem c_X4_crest (l : Launch) (dC : Nat → ClassId) (dI : Nat → Nat → Nat) (cyI cyA : ClassId) (m0 m1 m2 m3 m4 m5 m6 m7 m8 m9 m10 m11 m12 m13 n : Nat) (kn fz : Int32) (fh fg ff fk uh ug uf uk th tg tf tk : FN) (vs vb vd us ub ud ts tb td : Int32) (ct : Nat → Nat) (kd vl : Nat → FN) (fr fp bp : FN) (x a b c3 : Int32) (hn : n ≤ 7) (hn1 : 1 ≤ n) (hct : ∀ w, w < 3 → ct w ≤ 12) (sz : Nat) : Met l yX4_crest wsX4_crest (rm 5) (kW dC dI cyI cyA [.ref m0, .int x, .int a, .int b, .int c3] sz [ob m0 4 [.int (nI n), .int kn, .int fz, .ref m1, .ref m2, .ref m3, .ref m4, .ref m5, .ref m6, .ref m7, .ref m8, .ref m9, .ref m10, .ref m11, .ref m12, .ref m13], ai m1 cyI 21 (f3 fh uh th), ai m2 cyI 21 (f3 fg ug tg), ai m3 cyI 21 (f3 ff uf tf), ai m4 cyI 21 (f3 fk uk tk), ai m5 cyI 3 (t3 vs us ts), ai m6 cyI 3 (t3 vb ub tb), ai m7 cyI 3 (t3 vd ud td), ai m8 cyI 3 (nF ct), ai m9 cyI 36 (q12 kd), ai m10 cyI 36 (q12 vl), ai m11 cyI 7 fr, ai m12 cyI 3 fp, ai m13 cyI 3 bp]) (qI dC dI cyI cyA (fun (r : Int32) (u : FN × FN × FN × FN × Int32 × Int32 × Int32 × FN) => match u with | (xh, xg, xf, xk, xs, xb, xd, fp2) => r = sel (tryOk n x a b c3) (crW phm psm num n fz ct kd vl fh fg ff fk vs vb (p3 a b c3) x.toNatClampNeg) (-1)) (va_A [ob m0 4 [.int (nI n), .int kn, .int fz, .ref m1, .ref m2, .ref m3, .ref m4, .ref m5, .ref m6, .ref m7, .ref m8, .ref m9, .ref m10, .ref m11, .ref m12, .ref m13], ai m1 cyI 21 (f3 fh uh th), ai m2 cyI 21 (f3 fg ug tg), ai m3 cyI 21 (f3 ff uf tf), ai m4 cyI 21 (f3 fk uk tk), ai m5 cyI 3 (t3 vs us ts), ai m6 cyI 3 (t3 vb ub tb), ai m7 cyI 3 (t3 vd ud td), ai m8 cyI 3 (nF ct), ai m9 cyI 36 (q12 kd), ai m10 cyI 36 (q12 vl), ai m11 cyI 7 fr, ai m12 cyI 3 fp, ai m13 cyI 3 bp] sz) (fun u : FN × FN × FN × FN × Int32 × Int32 × Int32 × FN => match u with | (xh, xg, xf, xk, xs, xb, xd, fp2) => [ob m0 4 [.int (nI n), .int kn, .int fz, .ref m1, .ref m2, .ref m3, .ref m4, .ref m5, .ref m6, .ref m7, .ref m8, .ref m9, .ref m10, .ref m11, .ref m12, .ref m13], ai m1 cyI 21 (f3 fh uh xh), ai m2 cyI 21 (f3 fg ug xg), ai m3 cyI 21 (f3 ff uf xf), ai m4 cyI 21 (f3 fk uk xk), ai m5 cyI 3 (t3 vs us xs), ai m6 cyI 3 (t3 vb ub xb), ai m7 cyI 3 (t3 vd ud xd), ai m8 cyI 3 (nF ct), ai m9 cyI 36 (q12 kd), ai m10 cyI 36 (q12 vl), ai m11 cyI 7 fr, ai m12 cyI 3 fp2, ai m13 cyI 3 bp])) 0 0 (va_A [ob m0 4 [.int (nI n), .int kn, .int fz, .ref m1, .ref m2, .ref m3, .ref m4, .ref m5, .ref m6, .ref m7, .ref m8, .ref m9, .ref m10, .ref m11, .ref m12, .ref m13], ai m1 cyI 21 (f3 fh uh th), ai m2 cyI 21 (f3 fg ug tg), ai m3 cyI 21 (f3 ff uf tf), ai m4 cyI 21 (f3 fk uk tk), ai m5 cyI 3 (t3 vs us ts), ai m6 cyI 3 (t3 vb ub tb), ai m7 cyI 3 (t3 vd ud td), ai m8 cyI 3 (nF ct), ai m9 cyI 36 (q12 kd), ai m10 cyI 36 (q12 vl), ai m11 cyI 7 fr, ai m12 cyI 3 fp, ai m13 cyI 3 bp] sz) := by
  refine ra_metW (cc := cX4_crest) (maxL := 5) (Qc := fun A => qI dC dI cyI cyA (fun (r : Int32) (u : FN × FN × FN × FN × Int32 × Int32 × Int32 × FN) => match u with | (xh, xg, xf, xk, xs, xb, xd, fp2) => r = sel (tryOk n x a b c3) (crW phm psm num n fz ct kd vl fh fg ff fk vs vb (p3 a b c3) x.toNatClampNeg) (-1)) A (fun u : FN × FN × FN × FN × Int32 × Int32 × Int32 × FN => match u with | (xh, xg, xf, xk, xs, xb, xd, fp2) => [ob m0 4 [.int (nI n), .int kn, .int fz, .ref m1, .ref m2, .ref m3, .ref m4, .ref m5, .ref m6, .ref m7, .ref m8, .ref m9, .ref m10, .ref m11, .ref m12, .ref m13], ai m1 cyI 21 (f3 fh uh xh), ai m2 cyI 21 (f3 fg ug xg), ai m3 cyI 21 (f3 ff uf xf), ai m4 cyI 21 (f3 fk uk xk), ai m5 cyI 3 (t3 vs us xs), ai m6 cyI 3 (t3 vb ub xb), ai m7 cyI 3 (t3 vd ud xd), ai m8 cyI 3 (nF ct), ai m9 cyI 36 (q12 kd), ai m10 cyI 36 (q12 vl), ai m11 cyI 7 fr, ai m12 cyI 3 fp2, ai m13 cyI 3 bp])) (by decide) rfl (Nat.le_of_ble_eq_true rfl) ?_
  intro p e s m below meth c A args Q hQ hx hb hr hlocks hml hts hown hnm hK hN hP hD hA hS ls hl
  have hl : lv_has ls 5 [(0, .ref m0), (1, .int x), (2, .int a), (3, .int b), (4, .int c3)] := hl
  have hown : s.vm.findClass RX4 = some m.cls := hown
  obtain ⟨H, hHe⟩ : ∃ H, H = s.heap := ⟨_, rfl⟩
  obtain ⟨locs, hLe⟩ : ∃ locs : List Loc, locs = [] := ⟨_, rfl⟩
  have hP : va_P (dC, dI) vwCl [ob m0 4 [.int (nI n), .int kn, .int fz, .ref m1, .ref m2, .ref m3, .ref m4, .ref m5, .ref m6, .ref m7, .ref m8, .ref m9, .ref m10, .ref m11, .ref m12, .ref m13], ai m1 cyI 21 (f3 fh uh th), ai m2 cyI 21 (f3 fg ug tg), ai m3 cyI 21 (f3 ff uf tf), ai m4 cyI 21 (f3 fk uk tk), ai m5 cyI 3 (t3 vs us ts), ai m6 cyI 3 (t3 vb ub tb), ai m7 cyI 3 (t3 vd ud td), ai m8 cyI 3 (nF ct), ai m9 cyI 36 (q12 kd), ai m10 cyI 36 (q12 vl), ai m11 cyI 7 fr, ai m12 cyI 3 fp, ai m13 cyI 3 bp] H := by rw [hHe]; exact hP
  have hS : va_S A s.heap H locs := by rw [hHe, hLe]; exact hS
  suffices hgo : W p l e (rm 5) s m args below meth c H locs 0 0 Q (F0 m 0 ls []) by rw [hHe, hLe] at hgo; exact hgo
  refine lv_aload_n hx hb dX4_crest_0 rfl (lv_at hl 0 rfl) ?_
  refine lv_iload_n hx hb dX4_crest_1 rfl (lv_at hl 1 rfl) ?_
  refine lv_iload_n hx hb dX4_crest_2 rfl (lv_at hl 2 rfl) ?_
  refine lv_iload_n hx hb dX4_crest_3 rfl (lv_at hl 3 rfl) ?_
  refine lv_iload hx hb dX4_crest_4 (lv_at hl 4 rfl) ?_
  refine ra_cI (q := (RX4, TX4, 16)) (ci := 4) (As := [.int x, .int a, .int b, .int c3]) (rest := []) (wc := [ob m0 4 [.int (nI n), .int kn, .int fz, .ref m1, .ref m2, .ref m3, .ref m4, .ref m5, .ref m6, .ref m7, .ref m8, .ref m9, .ref m10, .ref m11, .ref m12, .ref m13], ai m1 cyI 21 (f3 fh uh th), ai m2 cyI 21 (f3 fg ug tg), ai m3 cyI 21 (f3 ff uf tf), ai m4 cyI 21 (f3 fk uk tk), ai m5 cyI 3 (t3 vs us ts), ai m6 cyI 3 (t3 vb ub tb), ai m7 cyI 3 (t3 vd ud td), ai m8 cyI 3 (nF ct), ai m9 cyI 36 (q12 kd), ai m10 cyI 36 (q12 vl), ai m11 cyI 7 fr, ai m12 cyI 3 fp, ai m13 cyI 3 bp]) (wr := []) ⟨hx, hb, hml, hown, hts⟩ (c_X4_ask l dC dI cyI cyA m0 m1 m2 m3 m4 m5 m6 m7 m8 m9 m10 m11 m12 m13 n kn fz fh fg ff fk uh ug uf uk th tg tf tk vs vb vd us ub ud ts tb td ct kd vl fr fp bp x a b c3 (by omega) (by omega) hct H.size) (cwV 4 hts gX4_crest_X4_ask rfl rfl rfl (by decide +kernel) ⟨Nat.le_of_ble_eq_true rfl, Nat.le_of_ble_eq_true rfl⟩) hK hN hP hD hA hS [0, 1, 2, 3, 4, 5, 6, 7, 8, 9, 10, 11, 12, 13] [] rfl rfl (by decide) (by decide) (by decide) rfl rfl rfl hl.1 rfl (Nat.le_of_ble_eq_true rfl) dX4_crest_6 ⟨Nat.le_of_ble_eq_true rfl, Nat.le_of_ble_eq_true rfl⟩ (fun r_1 u_1 hw_c1 H locs hP hD hS => ?_)
  obtain ⟨xh, xg, xf, xk, xs, xb, xd, fp2⟩ := u_1
  have hw_c1 : r_1 = bj (tryOk n x a b c3) ∧ (tryOk n x a b c3 → (xh, xg, xf, xk, xs, xb, xd) = plW phm psm num n fz ct kd vl fh fg ff fk vs vb (p3 a b c3) x.toNatClampNeg) := hw_c1
  obtain ⟨rfl, htr⟩ := hw_c1
  have hP : va_P (dC, dI) vwCl [ob m0 4 [.int (nI n), .int kn, .int fz, .ref m1, .ref m2, .ref m3, .ref m4, .ref m5, .ref m6, .ref m7, .ref m8, .ref m9, .ref m10, .ref m11, .ref m12, .ref m13], ai m1 cyI 21 (f3 fh uh xh), ai m2 cyI 21 (f3 fg ug xg), ai m3 cyI 21 (f3 ff uf xf), ai m4 cyI 21 (f3 fk uk xk), ai m5 cyI 3 (t3 vs us xs), ai m6 cyI 3 (t3 vb ub xb), ai m7 cyI 3 (t3 vd ud xd), ai m8 cyI 3 (nF ct), ai m9 cyI 36 (q12 kd), ai m10 cyI 36 (q12 vl), ai m11 cyI 7 fr, ai m12 cyI 3 fp2, ai m13 cyI 3 bp] H := hP
  have hD : va_D A [ob m0 4 [.int (nI n), .int kn, .int fz, .ref m1, .ref m2, .ref m3, .ref m4, .ref m5, .ref m6, .ref m7, .ref m8, .ref m9, .ref m10, .ref m11, .ref m12, .ref m13], ai m1 cyI 21 (f3 fh uh xh), ai m2 cyI 21 (f3 fg ug xg), ai m3 cyI 21 (f3 ff uf xf), ai m4 cyI 21 (f3 fk uk xk), ai m5 cyI 3 (t3 vs us xs), ai m6 cyI 3 (t3 vb ub xb), ai m7 cyI 3 (t3 vd ud xd), ai m8 cyI 3 (nF ct), ai m9 cyI 36 (q12 kd), ai m10 cyI 36 (q12 vl), ai m11 cyI 7 fr, ai m12 cyI 3 fp2, ai m13 cyI 3 bp] := hD
  refine lv_if_eq (tgt := 20) hx hb dX4_crest_9 (by decide) (fun c_9 => ?_) (fun c_9 => ?_)
  · ---- to 20
    have c_9 := bj_0 c_9
    refine lv_iconst (v := (-1)) hx hb dX4_crest_20 (by decide) ?_
    rw [hQ]
    exact ra_iretW (xh, xg, xf, xk, xs, xb, xd, fp2) hx hb hr hlocks rfl hK hP hD hS (sel_f c_9 _ _).symm dX4_crest_21
  · ---- on
    have c_9 := bj_1 c_9
    refine lv_aload_n hx hb dX4_crest_12 rfl (lv_at hl 0 rfl) ?_
    refine lv_iconst (v := 2) hx hb dX4_crest_13 (by decide) ?_
    refine ra_cR (q := (RX4, TX4, 16)) (ci := 4) (As := [.int 2]) (rest := []) (wc := [ob m0 4 [.int (nI n), .int kn, .int fz, .ref m1, .ref m2, .ref m3, .ref m4, .ref m5, .ref m6, .ref m7, .ref m8, .ref m9, .ref m10, .ref m11, .ref m12, .ref m13], ai m1 cyI 21 (f3 fh uh xh), ai m2 cyI 21 (f3 fg ug xg), ai m3 cyI 21 (f3 ff uf xf), ai m4 cyI 21 (f3 fk uk xk), ai m5 cyI 3 (t3 vs us xs), ai m6 cyI 3 (t3 vb ub xb), ai m7 cyI 3 (t3 vd ud xd), ai m8 cyI 3 (nF ct), ai m9 cyI 36 (q12 kd), ai m10 cyI 36 (q12 vl), ai m11 cyI 7 fr, ai m12 cyI 3 fp2, ai m13 cyI 3 bp]) ⟨hx, hb, hml, hown, hts⟩ (c_X4_crestOf2 l dC dI cyI cyA m0 m1 m2 m3 m4 m5 m6 m7 m8 m9 m10 m11 m12 m13 n kn fz fh fg ff fk uh ug uf uk xh xg xf xk vs vb vd us ub ud xs xb xd ct kd vl fr fp2 bp (by omega)) (cwV 1 hts gX4_crest_X4_crestOf rfl rfl rfl (by decide +kernel) ⟨Nat.le_of_ble_eq_true rfl, Nat.le_of_ble_eq_true rfl⟩) hK hN hP [0, 1, 2, 3, 4, 5, 6, 7, 8, 9, 10, 11, 12, 13] rfl rfl rfl rfl hl.1 rfl (Nat.le_of_ble_eq_true rfl) dX4_crest_14 ⟨Nat.le_of_ble_eq_true rfl, Nat.le_of_ble_eq_true rfl⟩ ?_
    refine lv_goto (tgt := 21) hx hb dX4_crest_17 (by decide) ?_
    rw [hQ]
    exact ra_iretW (xh, xg, xf, xk, xs, xb, xd, fp2) hx hb hr hlocks rfl hK hP hD hS (by rw [sel_t c_9]; unfold crW; rw [← htr c_9]) dX4_crest_21

set_option maxHeartbeats 4000000 in
set_option maxRecDepth 100000 in
theorem c_X4_floods (l : Launch) (dC : Nat → ClassId) (dI : Nat → Nat → Nat) (cyI cyA : ClassId) (m0 m1 m2 m3 m4 m5 m6 m7 m8 m9 m10 m11 m12 m13 n : Nat) (kn fz : Int32) (fh fg ff fk uh ug uf uk th tg tf tk : FN) (vs vb vd us ub ud ts tb td : Int32) (ct : Nat → Nat) (kd vl : Nat → FN) (fr fp bp : FN) (x a b c3 : Int32) (hn : n ≤ 7) (hn1 : 1 ≤ n) (hct : ∀ w, w < 3 → ct w ≤ 12) (sz : Nat) : Met l yX4_floods wsX4_floods (rm 5) (kW dC dI cyI cyA [.ref m0, .int x, .int a, .int b, .int c3] sz [ob m0 4 [.int (nI n), .int kn, .int fz, .ref m1, .ref m2, .ref m3, .ref m4, .ref m5, .ref m6, .ref m7, .ref m8, .ref m9, .ref m10, .ref m11, .ref m12, .ref m13], ai m1 cyI 21 (f3 fh uh th), ai m2 cyI 21 (f3 fg ug tg), ai m3 cyI 21 (f3 ff uf tf), ai m4 cyI 21 (f3 fk uk tk), ai m5 cyI 3 (t3 vs us ts), ai m6 cyI 3 (t3 vb ub tb), ai m7 cyI 3 (t3 vd ud td), ai m8 cyI 3 (nF ct), ai m9 cyI 36 (q12 kd), ai m10 cyI 36 (q12 vl), ai m11 cyI 7 fr, ai m12 cyI 3 fp, ai m13 cyI 3 bp]) (qI dC dI cyI cyA (fun (r : Int32) (u : FN × FN × FN × FN × Int32 × Int32 × Int32 × FN) => match u with | (xh, xg, xf, xk, xs, xb, xd, fp2) => r = sel (tryOk n x a b c3) (flW phm psm num n fz ct kd vl fh fg ff fk vs vb (p3 a b c3) x.toNatClampNeg) (-1)) (va_A [ob m0 4 [.int (nI n), .int kn, .int fz, .ref m1, .ref m2, .ref m3, .ref m4, .ref m5, .ref m6, .ref m7, .ref m8, .ref m9, .ref m10, .ref m11, .ref m12, .ref m13], ai m1 cyI 21 (f3 fh uh th), ai m2 cyI 21 (f3 fg ug tg), ai m3 cyI 21 (f3 ff uf tf), ai m4 cyI 21 (f3 fk uk tk), ai m5 cyI 3 (t3 vs us ts), ai m6 cyI 3 (t3 vb ub tb), ai m7 cyI 3 (t3 vd ud td), ai m8 cyI 3 (nF ct), ai m9 cyI 36 (q12 kd), ai m10 cyI 36 (q12 vl), ai m11 cyI 7 fr, ai m12 cyI 3 fp, ai m13 cyI 3 bp] sz) (fun u : FN × FN × FN × FN × Int32 × Int32 × Int32 × FN => match u with | (xh, xg, xf, xk, xs, xb, xd, fp2) => [ob m0 4 [.int (nI n), .int kn, .int fz, .ref m1, .ref m2, .ref m3, .ref m4, .ref m5, .ref m6, .ref m7, .ref m8, .ref m9, .ref m10, .ref m11, .ref m12, .ref m13], ai m1 cyI 21 (f3 fh uh xh), ai m2 cyI 21 (f3 fg ug xg), ai m3 cyI 21 (f3 ff uf xf), ai m4 cyI 21 (f3 fk uk xk), ai m5 cyI 3 (t3 vs us xs), ai m6 cyI 3 (t3 vb ub xb), ai m7 cyI 3 (t3 vd ud xd), ai m8 cyI 3 (nF ct), ai m9 cyI 36 (q12 kd), ai m10 cyI 36 (q12 vl), ai m11 cyI 7 fr, ai m12 cyI 3 fp2, ai m13 cyI 3 bp])) 0 0 (va_A [ob m0 4 [.int (nI n), .int kn, .int fz, .ref m1, .ref m2, .ref m3, .ref m4, .ref m5, .ref m6, .ref m7, .ref m8, .ref m9, .ref m10, .ref m11, .ref m12, .ref m13], ai m1 cyI 21 (f3 fh uh th), ai m2 cyI 21 (f3 fg ug tg), ai m3 cyI 21 (f3 ff uf tf), ai m4 cyI 21 (f3 fk uk tk), ai m5 cyI 3 (t3 vs us ts), ai m6 cyI 3 (t3 vb ub tb), ai m7 cyI 3 (t3 vd ud td), ai m8 cyI 3 (nF ct), ai m9 cyI 36 (q12 kd), ai m10 cyI 36 (q12 vl), ai m11 cyI 7 fr, ai m12 cyI 3 fp, ai m13 cyI 3 bp] sz) := by
  refine ra_metW (cc := cX4_floods) (maxL := 5) (Qc := fun A => qI dC dI cyI cyA (fun (r : Int32) (u : FN × FN × FN × FN × Int32 × Int32 × Int32 × FN) => match u with | (xh, xg, xf, xk, xs, xb, xd, fp2) => r = sel (tryOk n x a b c3) (flW phm psm num n fz ct kd vl fh fg ff fk vs vb (p3 a b c3) x.toNatClampNeg) (-1)) A (fun u : FN × FN × FN × FN × Int32 × Int32 × Int32 × FN => match u with | (xh, xg, xf, xk, xs, xb, xd, fp2) => [ob m0 4 [.int (nI n), .int kn, .int fz, .ref m1, .ref m2, .ref m3, .ref m4, .ref m5, .ref m6, .ref m7, .ref m8, .ref m9, .ref m10, .ref m11, .ref m12, .ref m13], ai m1 cyI 21 (f3 fh uh xh), ai m2 cyI 21 (f3 fg ug xg), ai m3 cyI 21 (f3 ff uf xf), ai m4 cyI 21 (f3 fk uk xk), ai m5 cyI 3 (t3 vs us xs), ai m6 cyI 3 (t3 vb ub xb), ai m7 cyI 3 (t3 vd ud xd), ai m8 cyI 3 (nF ct), ai m9 cyI 36 (q12 kd), ai m10 cyI 36 (q12 vl), ai m11 cyI 7 fr, ai m12 cyI 3 fp2, ai m13 cyI 3 bp])) (by decide) rfl (Nat.le_of_ble_eq_true rfl) ?_
  intro p e s m below meth c A args Q hQ hx hb hr hlocks hml hts hown hnm hK hN hP hD hA hS ls hl
  have hl : lv_has ls 5 [(0, .ref m0), (1, .int x), (2, .int a), (3, .int b), (4, .int c3)] := hl
  have hown : s.vm.findClass RX4 = some m.cls := hown
  have hw_1 := hts (.fieldLink RX4 35 "DuneBenchModel" "flooded" "[I") (by decide +kernel)
  have hin_X4 : ∀ w ∈ u_ws RX4 TX4 16, w ∈ wsX4_floods := by decide +kernel
  obtain ⟨H, hHe⟩ : ∃ H, H = s.heap := ⟨_, rfl⟩
  obtain ⟨locs, hLe⟩ : ∃ locs : List Loc, locs = [] := ⟨_, rfl⟩
  have hP : va_P (dC, dI) vwCl [ob m0 4 [.int (nI n), .int kn, .int fz, .ref m1, .ref m2, .ref m3, .ref m4, .ref m5, .ref m6, .ref m7, .ref m8, .ref m9, .ref m10, .ref m11, .ref m12, .ref m13], ai m1 cyI 21 (f3 fh uh th), ai m2 cyI 21 (f3 fg ug tg), ai m3 cyI 21 (f3 ff uf tf), ai m4 cyI 21 (f3 fk uk tk), ai m5 cyI 3 (t3 vs us ts), ai m6 cyI 3 (t3 vb ub tb), ai m7 cyI 3 (t3 vd ud td), ai m8 cyI 3 (nF ct), ai m9 cyI 36 (q12 kd), ai m10 cyI 36 (q12 vl), ai m11 cyI 7 fr, ai m12 cyI 3 fp, ai m13 cyI 3 bp] H := by rw [hHe]; exact hP
  have hS : va_S A s.heap H locs := by rw [hHe, hLe]; exact hS
  suffices hgo : W p l e (rm 5) s m args below meth c H locs 0 0 Q (F0 m 0 ls []) by rw [hHe, hLe] at hgo; exact hgo
  refine lv_aload_n hx hb dX4_floods_0 rfl (lv_at hl 0 rfl) ?_
  refine lv_iload_n hx hb dX4_floods_1 rfl (lv_at hl 1 rfl) ?_
  refine lv_iload_n hx hb dX4_floods_2 rfl (lv_at hl 2 rfl) ?_
  refine lv_iload_n hx hb dX4_floods_3 rfl (lv_at hl 3 rfl) ?_
  refine lv_iload hx hb dX4_floods_4 (lv_at hl 4 rfl) ?_
  refine ra_cI (q := (RX4, TX4, 16)) (ci := 4) (As := [.int x, .int a, .int b, .int c3]) (rest := []) (wc := [ob m0 4 [.int (nI n), .int kn, .int fz, .ref m1, .ref m2, .ref m3, .ref m4, .ref m5, .ref m6, .ref m7, .ref m8, .ref m9, .ref m10, .ref m11, .ref m12, .ref m13], ai m1 cyI 21 (f3 fh uh th), ai m2 cyI 21 (f3 fg ug tg), ai m3 cyI 21 (f3 ff uf tf), ai m4 cyI 21 (f3 fk uk tk), ai m5 cyI 3 (t3 vs us ts), ai m6 cyI 3 (t3 vb ub tb), ai m7 cyI 3 (t3 vd ud td), ai m8 cyI 3 (nF ct), ai m9 cyI 36 (q12 kd), ai m10 cyI 36 (q12 vl), ai m11 cyI 7 fr, ai m12 cyI 3 fp, ai m13 cyI 3 bp]) (wr := []) ⟨hx, hb, hml, hown, hts⟩ (c_X4_ask l dC dI cyI cyA m0 m1 m2 m3 m4 m5 m6 m7 m8 m9 m10 m11 m12 m13 n kn fz fh fg ff fk uh ug uf uk th tg tf tk vs vb vd us ub ud ts tb td ct kd vl fr fp bp x a b c3 (by omega) (by omega) hct H.size) (cwV 4 hts gX4_floods_X4_ask rfl rfl rfl (by decide +kernel) ⟨Nat.le_of_ble_eq_true rfl, Nat.le_of_ble_eq_true rfl⟩) hK hN hP hD hA hS [0, 1, 2, 3, 4, 5, 6, 7, 8, 9, 10, 11, 12, 13] [] rfl rfl (by decide) (by decide) (by decide) rfl rfl rfl hl.1 rfl (Nat.le_of_ble_eq_true rfl) dX4_floods_6 ⟨Nat.le_of_ble_eq_true rfl, Nat.le_of_ble_eq_true rfl⟩ (fun r_1 u_1 hw_c1 H locs hP hD hS => ?_)
  obtain ⟨xh, xg, xf, xk, xs, xb, xd, fp2⟩ := u_1
  have hw_c1 : r_1 = bj (tryOk n x a b c3) ∧ (tryOk n x a b c3 → (xh, xg, xf, xk, xs, xb, xd) = plW phm psm num n fz ct kd vl fh fg ff fk vs vb (p3 a b c3) x.toNatClampNeg) := hw_c1
  obtain ⟨rfl, htr⟩ := hw_c1
  have hP : va_P (dC, dI) vwCl [ob m0 4 [.int (nI n), .int kn, .int fz, .ref m1, .ref m2, .ref m3, .ref m4, .ref m5, .ref m6, .ref m7, .ref m8, .ref m9, .ref m10, .ref m11, .ref m12, .ref m13], ai m1 cyI 21 (f3 fh uh xh), ai m2 cyI 21 (f3 fg ug xg), ai m3 cyI 21 (f3 ff uf xf), ai m4 cyI 21 (f3 fk uk xk), ai m5 cyI 3 (t3 vs us xs), ai m6 cyI 3 (t3 vb ub xb), ai m7 cyI 3 (t3 vd ud xd), ai m8 cyI 3 (nF ct), ai m9 cyI 36 (q12 kd), ai m10 cyI 36 (q12 vl), ai m11 cyI 7 fr, ai m12 cyI 3 fp2, ai m13 cyI 3 bp] H := hP
  have hD : va_D A [ob m0 4 [.int (nI n), .int kn, .int fz, .ref m1, .ref m2, .ref m3, .ref m4, .ref m5, .ref m6, .ref m7, .ref m8, .ref m9, .ref m10, .ref m11, .ref m12, .ref m13], ai m1 cyI 21 (f3 fh uh xh), ai m2 cyI 21 (f3 fg ug xg), ai m3 cyI 21 (f3 ff uf xf), ai m4 cyI 21 (f3 fk uk xk), ai m5 cyI 3 (t3 vs us xs), ai m6 cyI 3 (t3 vb ub xb), ai m7 cyI 3 (t3 vd ud xd), ai m8 cyI 3 (nF ct), ai m9 cyI 36 (q12 kd), ai m10 cyI 36 (q12 vl), ai m11 cyI 7 fr, ai m12 cyI 3 fp2, ai m13 cyI 3 bp] := hD
  refine lv_if_eq (tgt := 21) hx hb dX4_floods_9 (by decide) (fun c_9 => ?_) (fun c_9 => ?_)
  · ---- to 21
    have c_9 := bj_0 c_9
    refine lv_iconst (v := (-1)) hx hb dX4_floods_21 (by decide) ?_
    rw [hQ]
    exact ra_iretW (xh, xg, xf, xk, xs, xb, xd, fp2) hx hb hr hlocks rfl hK hP hD hS (sel_f c_9 _ _).symm dX4_floods_22
  · ---- on
    have c_9 := bj_1 c_9
    refine lv_aload_n hx hb dX4_floods_12 rfl (lv_at hl 0 rfl) ?_
    refine va_get (D := (dC, dI)) (ci := 4) (v := .ref m7) (C := RX4) (T := TX4) (N := 16) hx hb hts hin_X4 hown hK hP 0 rfl rfl 9 (by decide) hw_1 (fun _ h9 => h9) rfl dX4_floods_13 ?_
    refine lv_iconst (v := 2) hx hb dX4_floods_16 (by decide) ?_
    refine ra_iald hx hb hK hP 7 rfl 2 rfl (by omega) (Nat.le_of_ble_eq_true rfl) dX4_floods_17 ?_
    refine ra_top xd rfl ?_
    refine lv_goto (tgt := 22) hx hb dX4_floods_18 (by decide) ?_
    rw [hQ]
    exact ra_iretW (xh, xg, xf, xk, xs, xb, xd, fp2) hx hb hr hlocks rfl hK hP hD hS (by rw [sel_t c_9]; unfold flW; rw [← htr c_9]) dX4_floods_22

set_option maxHeartbeats 4000000 in
set_option maxRecDepth 100000 in
theorem c_X4_plan (l : Launch) (dC : Nat → ClassId) (dI : Nat → Nat → Nat) (cyI cyA : ClassId) (m0 m1 m2 m3 m4 m5 m6 m7 m8 m9 m10 m11 m12 m13 n : Nat) (kn fz : Int32) (fh fg ff fk uh ug uf uk th tg tf tk : FN) (vs vb vd us ub ud ts tb td : Int32) (ct : Nat → Nat) (kd vl : Nat → FN) (fr fp bp : FN) (aim yr : Int32) (hn : n ≤ 7) (hn1 : 1 ≤ n) (hct : ∀ w, w < 3 → ct w ≤ 12) (sz : Nat) : Met l yX4_plan wsX4_plan (rm 6) (kW dC dI cyI cyA [.ref m0, .int aim, .int yr] sz [ob m0 4 [.int (nI n), .int kn, .int fz, .ref m1, .ref m2, .ref m3, .ref m4, .ref m5, .ref m6, .ref m7, .ref m8, .ref m9, .ref m10, .ref m11, .ref m12, .ref m13], ai m1 cyI 21 (f3 fh uh th), ai m2 cyI 21 (f3 fg ug tg), ai m3 cyI 21 (f3 ff uf tf), ai m4 cyI 21 (f3 fk uk tk), ai m5 cyI 3 (t3 vs us ts), ai m6 cyI 3 (t3 vb ub tb), ai m7 cyI 3 (t3 vd ud td), ai m8 cyI 3 (nF ct), ai m9 cyI 36 (q12 kd), ai m10 cyI 36 (q12 vl), ai m11 cyI 7 fr, ai m12 cyI 3 fp, ai m13 cyI 3 bp]) (qI dC dI cyI cyA (fun (r : Int32) (u : FN × FN × FN × FN × Int32 × Int32 × Int32 × FN × FN) => match u with | (xh, xg, xf, xk, xs, xb, xd, fp2, bp2) => (¬ ((0 ≤ aim ∧ aim ≤ 99) ∧ 0 ≤ yr ∧ yr ≤ 2) → r = -1) ∧ ((0 ≤ aim ∧ aim ≤ 99) ∧ 0 ≤ yr ∧ yr ≤ 2 → (∃ b2, b2 < (n + 1) * (n + 1) * (n + 1) ∧ (aim ≤ hld ct (crW phm psm num n fz ct kd vl fh fg ff fk vs vb (lyp n b2)) (flW phm psm num n fz ct kd vl fh fg ff fk vs vb (lyp n b2))) ∧ (∀ k, k < (n + 1) * (n + 1) * (n + 1) → (aim ≤ hld ct (crW phm psm num n fz ct kd vl fh fg ff fk vs vb (lyp n k)) (flW phm psm num n fz ct kd vl fh fg ff fk vs vb (lyp n k))) → mny n b2 ≤ mny n k) ∧ (∀ k, k < b2 → (aim ≤ hld ct (crW phm psm num n fz ct kd vl fh fg ff fk vs vb (lyp n k)) (flW phm psm num n fz ct kd vl fh fg ff fk vs vb (lyp n k))) → mny n b2 < mny n k) ∧ r = sel (lyp n b2 yr.toNatClampNeg < 0) (-3) (lyp n b2 yr.toNatClampNeg)) ∨ ((∀ k, k < (n + 1) * (n + 1) * (n + 1) → ¬ (aim ≤ hld ct (crW phm psm num n fz ct kd vl fh fg ff fk vs vb (lyp n k)) (flW phm psm num n fz ct kd vl fh fg ff fk vs vb (lyp n k)))) ∧ r = -3))) (va_A [ob m0 4 [.int (nI n), .int kn, .int fz, .ref m1, .ref m2, .ref m3, .ref m4, .ref m5, .ref m6, .ref m7, .ref m8, .ref m9, .ref m10, .ref m11, .ref m12, .ref m13], ai m1 cyI 21 (f3 fh uh th), ai m2 cyI 21 (f3 fg ug tg), ai m3 cyI 21 (f3 ff uf tf), ai m4 cyI 21 (f3 fk uk tk), ai m5 cyI 3 (t3 vs us ts), ai m6 cyI 3 (t3 vb ub tb), ai m7 cyI 3 (t3 vd ud td), ai m8 cyI 3 (nF ct), ai m9 cyI 36 (q12 kd), ai m10 cyI 36 (q12 vl), ai m11 cyI 7 fr, ai m12 cyI 3 fp, ai m13 cyI 3 bp] sz) (fun u : FN × FN × FN × FN × Int32 × Int32 × Int32 × FN × FN => match u with | (xh, xg, xf, xk, xs, xb, xd, fp2, bp2) => [ob m0 4 [.int (nI n), .int kn, .int fz, .ref m1, .ref m2, .ref m3, .ref m4, .ref m5, .ref m6, .ref m7, .ref m8, .ref m9, .ref m10, .ref m11, .ref m12, .ref m13], ai m1 cyI 21 (f3 fh uh xh), ai m2 cyI 21 (f3 fg ug xg), ai m3 cyI 21 (f3 ff uf xf), ai m4 cyI 21 (f3 fk uk xk), ai m5 cyI 3 (t3 vs us xs), ai m6 cyI 3 (t3 vb ub xb), ai m7 cyI 3 (t3 vd ud xd), ai m8 cyI 3 (nF ct), ai m9 cyI 36 (q12 kd), ai m10 cyI 36 (q12 vl), ai m11 cyI 7 fr, ai m12 cyI 3 fp2, ai m13 cyI 3 bp2])) 0 0 (va_A [ob m0 4 [.int (nI n), .int kn, .int fz, .ref m1, .ref m2, .ref m3, .ref m4, .ref m5, .ref m6, .ref m7, .ref m8, .ref m9, .ref m10, .ref m11, .ref m12, .ref m13], ai m1 cyI 21 (f3 fh uh th), ai m2 cyI 21 (f3 fg ug tg), ai m3 cyI 21 (f3 ff uf tf), ai m4 cyI 21 (f3 fk uk tk), ai m5 cyI 3 (t3 vs us ts), ai m6 cyI 3 (t3 vb ub tb), ai m7 cyI 3 (t3 vd ud td), ai m8 cyI 3 (nF ct), ai m9 cyI 36 (q12 kd), ai m10 cyI 36 (q12 vl), ai m11 cyI 7 fr, ai m12 cyI 3 fp, ai m13 cyI 3 bp] sz) := by
  refine ra_metW (cc := cX4_plan) (maxL := 3) (Qc := fun A => qI dC dI cyI cyA (fun (r : Int32) (u : FN × FN × FN × FN × Int32 × Int32 × Int32 × FN × FN) => match u with | (xh, xg, xf, xk, xs, xb, xd, fp2, bp2) => (¬ ((0 ≤ aim ∧ aim ≤ 99) ∧ 0 ≤ yr ∧ yr ≤ 2) → r = -1) ∧ ((0 ≤ aim ∧ aim ≤ 99) ∧ 0 ≤ yr ∧ yr ≤ 2 → (∃ b2, b2 < (n + 1) * (n + 1) * (n + 1) ∧ (aim ≤ hld ct (crW phm psm num n fz ct kd vl fh fg ff fk vs vb (lyp n b2)) (flW phm psm num n fz ct kd vl fh fg ff fk vs vb (lyp n b2))) ∧ (∀ k, k < (n + 1) * (n + 1) * (n + 1) → (aim ≤ hld ct (crW phm psm num n fz ct kd vl fh fg ff fk vs vb (lyp n k)) (flW phm psm num n fz ct kd vl fh fg ff fk vs vb (lyp n k))) → mny n b2 ≤ mny n k) ∧ (∀ k, k < b2 → (aim ≤ hld ct (crW phm psm num n fz ct kd vl fh fg ff fk vs vb (lyp n k)) (flW phm psm num n fz ct kd vl fh fg ff fk vs vb (lyp n k))) → mny n b2 < mny n k) ∧ r = sel (lyp n b2 yr.toNatClampNeg < 0) (-3) (lyp n b2 yr.toNatClampNeg)) ∨ ((∀ k, k < (n + 1) * (n + 1) * (n + 1) → ¬ (aim ≤ hld ct (crW phm psm num n fz ct kd vl fh fg ff fk vs vb (lyp n k)) (flW phm psm num n fz ct kd vl fh fg ff fk vs vb (lyp n k)))) ∧ r = -3))) A (fun u : FN × FN × FN × FN × Int32 × Int32 × Int32 × FN × FN => match u with | (xh, xg, xf, xk, xs, xb, xd, fp2, bp2) => [ob m0 4 [.int (nI n), .int kn, .int fz, .ref m1, .ref m2, .ref m3, .ref m4, .ref m5, .ref m6, .ref m7, .ref m8, .ref m9, .ref m10, .ref m11, .ref m12, .ref m13], ai m1 cyI 21 (f3 fh uh xh), ai m2 cyI 21 (f3 fg ug xg), ai m3 cyI 21 (f3 ff uf xf), ai m4 cyI 21 (f3 fk uk xk), ai m5 cyI 3 (t3 vs us xs), ai m6 cyI 3 (t3 vb ub xb), ai m7 cyI 3 (t3 vd ud xd), ai m8 cyI 3 (nF ct), ai m9 cyI 36 (q12 kd), ai m10 cyI 36 (q12 vl), ai m11 cyI 7 fr, ai m12 cyI 3 fp2, ai m13 cyI 3 bp2])) (by decide) rfl (Nat.le_of_ble_eq_true rfl) ?_
  intro p e s m below meth c A args Q hQ hx hb hr hlocks hml hts hown hnm hK hN hP hD hA hS ls hl
  have hl : lv_has ls 3 [(0, .ref m0), (1, .int aim), (2, .int yr)] := hl
  have hown : s.vm.findClass RX4 = some m.cls := hown
  have hw_1 := hts (.fieldLink RX4 53 "DuneBenchModel" "best" "[I") (by decide +kernel)
  have hin_X4 : ∀ w ∈ u_ws RX4 TX4 16, w ∈ wsX4_plan := by decide +kernel
  obtain ⟨H, hHe⟩ : ∃ H, H = s.heap := ⟨_, rfl⟩
  obtain ⟨locs, hLe⟩ : ∃ locs : List Loc, locs = [] := ⟨_, rfl⟩
  have hP : va_P (dC, dI) vwCl [ob m0 4 [.int (nI n), .int kn, .int fz, .ref m1, .ref m2, .ref m3, .ref m4, .ref m5, .ref m6, .ref m7, .ref m8, .ref m9, .ref m10, .ref m11, .ref m12, .ref m13], ai m1 cyI 21 (f3 fh uh th), ai m2 cyI 21 (f3 fg ug tg), ai m3 cyI 21 (f3 ff uf tf), ai m4 cyI 21 (f3 fk uk tk), ai m5 cyI 3 (t3 vs us ts), ai m6 cyI 3 (t3 vb ub tb), ai m7 cyI 3 (t3 vd ud td), ai m8 cyI 3 (nF ct), ai m9 cyI 36 (q12 kd), ai m10 cyI 36 (q12 vl), ai m11 cyI 7 fr, ai m12 cyI 3 fp, ai m13 cyI 3 bp] H := by rw [hHe]; exact hP
  have hS : va_S A s.heap H locs := by rw [hHe, hLe]; exact hS
  suffices hgo : W p l e (rm 6) s m args below meth c H locs 0 0 Q (F0 m 0 ls []) by rw [hHe, hLe] at hgo; exact hgo
  refine lv_iload_n hx hb dX4_plan_0 rfl (lv_at hl 1 rfl) ?_
  refine lv_iconst (v := 0) hx hb dX4_plan_1 (by decide) ?_
  refine lv_bipush (v := 99) hx hb dX4_plan_2 (by decide) ?_
  refine ra_cS (As := [.int aim, .int 0, .int 99]) (rest := []) ⟨hx, hb, hml, hown, hts⟩ (c_X4_in l aim 0 99 ) (va_cwS 3 hts gX4_plan_X4_in rfl rfl rfl (by decide +kernel) ⟨Nat.le_of_ble_eq_true rfl, Nat.le_of_ble_eq_true rfl⟩) hN rfl hl.1 rfl (Nat.le_of_ble_eq_true rfl) dX4_plan_4 ⟨Nat.le_of_ble_eq_true rfl, Nat.le_of_ble_eq_true rfl⟩ ?_
  refine lv_if_eq (tgt := 19) hx hb dX4_plan_7 (by decide) (fun c_7 => ?_) (fun c_7 => ?_)
  · ---- to 19
    have c_7 := bi_0 c_7
    refine lv_iconst (v := (-1)) hx hb dX4_plan_19 (by decide) ?_
    rw [hQ]
    exact ra_iretW (th, tg, tf, tk, ts, tb, td, fp, bp) hx hb hr hlocks rfl hK hP hD hS ⟨fun _ => rfl, fun q => absurd q.1 c_7⟩ dX4_plan_20
  · ---- on
    have c_7 := bi_1 c_7
    refine lv_iload_n hx hb dX4_plan_10 rfl (lv_at hl 2 rfl) ?_
    refine lv_iconst (v := 0) hx hb dX4_plan_11 (by decide) ?_
    refine lv_iconst (v := 2) hx hb dX4_plan_12 (by decide) ?_
    refine ra_cS (As := [.int yr, .int 0, .int 2]) (rest := []) ⟨hx, hb, hml, hown, hts⟩ (c_X4_in l yr 0 2 ) (va_cwS 3 hts gX4_plan_X4_in rfl rfl rfl (by decide +kernel) ⟨Nat.le_of_ble_eq_true rfl, Nat.le_of_ble_eq_true rfl⟩) hN rfl hl.1 rfl (Nat.le_of_ble_eq_true rfl) dX4_plan_13 ⟨Nat.le_of_ble_eq_true rfl, Nat.le_of_ble_eq_true rfl⟩ ?_
    refine lv_if_ne (tgt := 21) hx hb dX4_plan_16 (by decide) (fun c_16 => ?_) (fun c_16 => ?_)
    · ---- to 21
      have c_16 := bi_1 c_16
      refine lv_aload_n hx hb dX4_plan_21 rfl (lv_at hl 0 rfl) ?_
      refine lv_iload_n hx hb dX4_plan_22 rfl (lv_at hl 1 rfl) ?_
      refine ra_cI (q := (RX4, TX4, 16)) (ci := 4) (As := [.int aim]) (rest := []) (wc := [ob m0 4 [.int (nI n), .int kn, .int fz, .ref m1, .ref m2, .ref m3, .ref m4, .ref m5, .ref m6, .ref m7, .ref m8, .ref m9, .ref m10, .ref m11, .ref m12, .ref m13], ai m1 cyI 21 (f3 fh uh th), ai m2 cyI 21 (f3 fg ug tg), ai m3 cyI 21 (f3 ff uf tf), ai m4 cyI 21 (f3 fk uk tk), ai m5 cyI 3 (t3 vs us ts), ai m6 cyI 3 (t3 vb ub tb), ai m7 cyI 3 (t3 vd ud td), ai m8 cyI 3 (nF ct), ai m9 cyI 36 (q12 kd), ai m10 cyI 36 (q12 vl), ai m11 cyI 7 fr, ai m12 cyI 3 fp, ai m13 cyI 3 bp]) (wr := []) ⟨hx, hb, hml, hown, hts⟩ (c_X4_findPlan l dC dI cyI cyA m0 m1 m2 m3 m4 m5 m6 m7 m8 m9 m10 m11 m12 m13 n kn fz fh fg ff fk uh ug uf uk th tg tf tk vs vb vd us ub ud ts tb td ct kd vl fr fp bp aim (by omega) hct H.size) (cwV 1 hts gX4_plan_X4_findPlan rfl rfl rfl (by decide +kernel) ⟨Nat.le_of_ble_eq_true rfl, Nat.le_of_ble_eq_true rfl⟩) hK hN hP hD hA hS [0, 1, 2, 3, 4, 5, 6, 7, 8, 9, 10, 11, 12, 13] [] rfl rfl (by decide) (by decide) (by decide) rfl rfl rfl hl.1 rfl (Nat.le_of_ble_eq_true rfl) dX4_plan_23 ⟨Nat.le_of_ble_eq_true rfl, Nat.le_of_ble_eq_true rfl⟩ (fun r_1 u_1 hw_c1 H locs hP hD hS => ?_)
      obtain ⟨xh, xg, xf, xk, xs, xb, xd, fp2, bp2⟩ := u_1
      have hw_c1 : MPost ((n + 1) * (n + 1) * (n + 1)) (fun k => aim ≤ hld ct (crW phm psm num n fz ct kd vl fh fg ff fk vs vb (lyp n k)) (flW phm psm num n fz ct kd vl fh fg ff fk vs vb (lyp n k))) n r_1 bp2 := hw_c1
      have hP : va_P (dC, dI) vwCl [ob m0 4 [.int (nI n), .int kn, .int fz, .ref m1, .ref m2, .ref m3, .ref m4, .ref m5, .ref m6, .ref m7, .ref m8, .ref m9, .ref m10, .ref m11, .ref m12, .ref m13], ai m1 cyI 21 (f3 fh uh xh), ai m2 cyI 21 (f3 fg ug xg), ai m3 cyI 21 (f3 ff uf xf), ai m4 cyI 21 (f3 fk uk xk), ai m5 cyI 3 (t3 vs us xs), ai m6 cyI 3 (t3 vb ub xb), ai m7 cyI 3 (t3 vd ud xd), ai m8 cyI 3 (nF ct), ai m9 cyI 36 (q12 kd), ai m10 cyI 36 (q12 vl), ai m11 cyI 7 fr, ai m12 cyI 3 fp2, ai m13 cyI 3 bp2] H := hP
      have hD : va_D A [ob m0 4 [.int (nI n), .int kn, .int fz, .ref m1, .ref m2, .ref m3, .ref m4, .ref m5, .ref m6, .ref m7, .ref m8, .ref m9, .ref m10, .ref m11, .ref m12, .ref m13], ai m1 cyI 21 (f3 fh uh xh), ai m2 cyI 21 (f3 fg ug xg), ai m3 cyI 21 (f3 ff uf xf), ai m4 cyI 21 (f3 fk uk xk), ai m5 cyI 3 (t3 vs us xs), ai m6 cyI 3 (t3 vb ub xb), ai m7 cyI 3 (t3 vd ud xd), ai m8 cyI 3 (nF ct), ai m9 cyI 36 (q12 kd), ai m10 cyI 36 (q12 vl), ai m11 cyI 7 fr, ai m12 cyI 3 fp2, ai m13 cyI 3 bp2] := hD
      refine lv_if_lt (tgt := 38) hx hb dX4_plan_26 (by decide) (fun c_26 => ?_) (fun c_26 => ?_)
      · ---- to 38
        refine lv_bipush (v := (-3)) hx hb dX4_plan_38 (by decide) ?_
        refine lv_goto (tgt := 49) hx hb dX4_plan_40 (by decide) ?_
        rw [hQ]
        exact ra_iretW (xh, xg, xf, xk, xs, xb, xd, fp2, bp2) hx hb hr hlocks rfl hK hP hD hS ⟨fun q => absurd ⟨c_7, c_16⟩ q, fun _ => Or.inr ⟨(hw_c1.resolve_right (fun q => by obtain ⟨b2, z1, z2, z3, -⟩ := q; rw [z3] at c_26; exact nI_pos (by have := mny_le n b2; omega) c_26)).2, rfl⟩⟩ dX4_plan_49
      · ---- on
        obtain ⟨b2, q1, q2, q3, q4, q5, q6⟩ := hw_c1.resolve_left (fun q => c_26 (by rw [q.1]; decide))
        refine lv_aload_n hx hb dX4_plan_29 rfl (lv_at hl 0 rfl) ?_
        refine va_get (D := (dC, dI)) (ci := 4) (v := .ref m13) (C := RX4) (T := TX4) (N := 16) hx hb hts hin_X4 hown hK hP 0 rfl rfl 15 (by decide) hw_1 (fun _ h9 => h9) rfl dX4_plan_30 ?_
        refine lv_iload_n hx hb dX4_plan_33 rfl (lv_at hl 2 rfl) ?_
        refine ra_iald hx hb hK hP 13 rfl yr.toNatClampNeg (i32_cl (Int32.not_lt.mpr c_16.1)) (by obtain ⟨j, hj, hy⟩ := i32_nat3 c_16; rw [hy, nI_cl (by omega)]; exact hj) (Nat.le_of_ble_eq_true rfl) dX4_plan_34 ?_
        refine lv_if_ge (tgt := 43) hx hb dX4_plan_35 (by decide) (fun c_35 => ?_) (fun c_35 => ?_)
        · ---- to 43
          refine lv_aload_n hx hb dX4_plan_43 rfl (lv_at hl 0 rfl) ?_
          refine va_get (D := (dC, dI)) (ci := 4) (v := .ref m13) (C := RX4) (T := TX4) (N := 16) hx hb hts hin_X4 hown hK hP 0 rfl rfl 15 (by decide) hw_1 (fun _ h9 => h9) rfl dX4_plan_44 ?_
          refine lv_iload_n hx hb dX4_plan_47 rfl (lv_at hl 2 rfl) ?_
          refine ra_iald hx hb hK hP 13 rfl yr.toNatClampNeg (i32_cl (Int32.not_lt.mpr c_16.1)) (by obtain ⟨j, hj, hy⟩ := i32_nat3 c_16; rw [hy, nI_cl (by omega)]; exact hj) (Nat.le_of_ble_eq_true rfl) dX4_plan_48 ?_
          rw [hQ]
          exact ra_iretW (xh, xg, xf, xk, xs, xb, xd, fp2, bp2) hx hb hr hlocks rfl hK hP hD hS ⟨fun q => absurd ⟨c_7, c_16⟩ q, fun _ => Or.inl ⟨b2, q1, q2, q5, q6, by rw [← q4, sel_f (Int32.not_lt.mpr c_35)]⟩⟩ dX4_plan_49
        · ---- on
          refine lv_bipush (v := (-3)) hx hb dX4_plan_38 (by decide) ?_
          refine lv_goto (tgt := 49) hx hb dX4_plan_40 (by decide) ?_
          rw [hQ]
          exact ra_iretW (xh, xg, xf, xk, xs, xb, xd, fp2, bp2) hx hb hr hlocks rfl hK hP hD hS ⟨fun q => absurd ⟨c_7, c_16⟩ q, fun _ => Or.inl ⟨b2, q1, q2, q5, q6, by rw [← q4, sel_t (Int32.not_le.mp c_35)]⟩⟩ dX4_plan_49
    · ---- on
      have c_16 := bi_0 c_16
      refine lv_iconst (v := (-1)) hx hb dX4_plan_19 (by decide) ?_
      rw [hQ]
      exact ra_iretW (th, tg, tf, tk, ts, tb, td, fp, bp) hx hb hr hlocks rfl hK hP hD hS ⟨fun _ => rfl, fun q => absurd q.2 c_16⟩ dX4_plan_20

set_option maxHeartbeats 4000000 in
set_option maxRecDepth 100000 in
theorem c_X4_fences (l : Launch) (dC : Nat → ClassId) (dI : Nat → Nat → Nat) (cyI cyA : ClassId) (m0 m1 m2 m3 m4 m5 m6 m7 m8 m9 m10 m11 m12 m13 n : Nat) (kn fz : Int32) (fh fg ff fk uh ug uf uk th tg tf tk : FN) (vs vb vd us ub ud ts tb td : Int32) (ct : Nat → Nat) (kd vl : Nat → FN) (fr fp bp : FN) (aim : Int32) (hn : n ≤ 7) (hn1 : 1 ≤ n) (hct : ∀ w, w < 3 → ct w ≤ 12) (sz : Nat) : Met l yX4_fences wsX4_fences (rm 6) (kW dC dI cyI cyA [.ref m0, .int aim] sz [ob m0 4 [.int (nI n), .int kn, .int fz, .ref m1, .ref m2, .ref m3, .ref m4, .ref m5, .ref m6, .ref m7, .ref m8, .ref m9, .ref m10, .ref m11, .ref m12, .ref m13], ai m1 cyI 21 (f3 fh uh th), ai m2 cyI 21 (f3 fg ug tg), ai m3 cyI 21 (f3 ff uf tf), ai m4 cyI 21 (f3 fk uk tk), ai m5 cyI 3 (t3 vs us ts), ai m6 cyI 3 (t3 vb ub tb), ai m7 cyI 3 (t3 vd ud td), ai m8 cyI 3 (nF ct), ai m9 cyI 36 (q12 kd), ai m10 cyI 36 (q12 vl), ai m11 cyI 7 fr, ai m12 cyI 3 fp, ai m13 cyI 3 bp]) (qI dC dI cyI cyA (fun (r : Int32) (u : FN × FN × FN × FN × Int32 × Int32 × Int32 × FN × FN) => match u with | (xh, xg, xf, xk, xs, xb, xd, fp2, bp2) => (¬ (0 ≤ aim ∧ aim ≤ 99) → r = -1) ∧ ((0 ≤ aim ∧ aim ≤ 99) → (∃ b2, b2 < (n + 1) * (n + 1) * (n + 1) ∧ (aim ≤ hld ct (crW phm psm num n fz ct kd vl fh fg ff fk vs vb (lyp n b2)) (flW phm psm num n fz ct kd vl fh fg ff fk vs vb (lyp n b2))) ∧ (∀ k, k < (n + 1) * (n + 1) * (n + 1) → (aim ≤ hld ct (crW phm psm num n fz ct kd vl fh fg ff fk vs vb (lyp n k)) (flW phm psm num n fz ct kd vl fh fg ff fk vs vb (lyp n k))) → mny n b2 ≤ mny n k) ∧ (∀ k, k < b2 → (aim ≤ hld ct (crW phm psm num n fz ct kd vl fh fg ff fk vs vb (lyp n k)) (flW phm psm num n fz ct kd vl fh fg ff fk vs vb (lyp n k))) → mny n b2 < mny n k) ∧ r = nI (mny n b2)) ∨ ((∀ k, k < (n + 1) * (n + 1) * (n + 1) → ¬ (aim ≤ hld ct (crW phm psm num n fz ct kd vl fh fg ff fk vs vb (lyp n k)) (flW phm psm num n fz ct kd vl fh fg ff fk vs vb (lyp n k)))) ∧ r = -3))) (va_A [ob m0 4 [.int (nI n), .int kn, .int fz, .ref m1, .ref m2, .ref m3, .ref m4, .ref m5, .ref m6, .ref m7, .ref m8, .ref m9, .ref m10, .ref m11, .ref m12, .ref m13], ai m1 cyI 21 (f3 fh uh th), ai m2 cyI 21 (f3 fg ug tg), ai m3 cyI 21 (f3 ff uf tf), ai m4 cyI 21 (f3 fk uk tk), ai m5 cyI 3 (t3 vs us ts), ai m6 cyI 3 (t3 vb ub tb), ai m7 cyI 3 (t3 vd ud td), ai m8 cyI 3 (nF ct), ai m9 cyI 36 (q12 kd), ai m10 cyI 36 (q12 vl), ai m11 cyI 7 fr, ai m12 cyI 3 fp, ai m13 cyI 3 bp] sz) (fun u : FN × FN × FN × FN × Int32 × Int32 × Int32 × FN × FN => match u with | (xh, xg, xf, xk, xs, xb, xd, fp2, bp2) => [ob m0 4 [.int (nI n), .int kn, .int fz, .ref m1, .ref m2, .ref m3, .ref m4, .ref m5, .ref m6, .ref m7, .ref m8, .ref m9, .ref m10, .ref m11, .ref m12, .ref m13], ai m1 cyI 21 (f3 fh uh xh), ai m2 cyI 21 (f3 fg ug xg), ai m3 cyI 21 (f3 ff uf xf), ai m4 cyI 21 (f3 fk uk xk), ai m5 cyI 3 (t3 vs us xs), ai m6 cyI 3 (t3 vb ub xb), ai m7 cyI 3 (t3 vd ud xd), ai m8 cyI 3 (nF ct), ai m9 cyI 36 (q12 kd), ai m10 cyI 36 (q12 vl), ai m11 cyI 7 fr, ai m12 cyI 3 fp2, ai m13 cyI 3 bp2])) 0 0 (va_A [ob m0 4 [.int (nI n), .int kn, .int fz, .ref m1, .ref m2, .ref m3, .ref m4, .ref m5, .ref m6, .ref m7, .ref m8, .ref m9, .ref m10, .ref m11, .ref m12, .ref m13], ai m1 cyI 21 (f3 fh uh th), ai m2 cyI 21 (f3 fg ug tg), ai m3 cyI 21 (f3 ff uf tf), ai m4 cyI 21 (f3 fk uk tk), ai m5 cyI 3 (t3 vs us ts), ai m6 cyI 3 (t3 vb ub tb), ai m7 cyI 3 (t3 vd ud td), ai m8 cyI 3 (nF ct), ai m9 cyI 36 (q12 kd), ai m10 cyI 36 (q12 vl), ai m11 cyI 7 fr, ai m12 cyI 3 fp, ai m13 cyI 3 bp] sz) := by
  refine ra_metW (cc := cX4_fences) (maxL := 2) (Qc := fun A => qI dC dI cyI cyA (fun (r : Int32) (u : FN × FN × FN × FN × Int32 × Int32 × Int32 × FN × FN) => match u with | (xh, xg, xf, xk, xs, xb, xd, fp2, bp2) => (¬ (0 ≤ aim ∧ aim ≤ 99) → r = -1) ∧ ((0 ≤ aim ∧ aim ≤ 99) → (∃ b2, b2 < (n + 1) * (n + 1) * (n + 1) ∧ (aim ≤ hld ct (crW phm psm num n fz ct kd vl fh fg ff fk vs vb (lyp n b2)) (flW phm psm num n fz ct kd vl fh fg ff fk vs vb (lyp n b2))) ∧ (∀ k, k < (n + 1) * (n + 1) * (n + 1) → (aim ≤ hld ct (crW phm psm num n fz ct kd vl fh fg ff fk vs vb (lyp n k)) (flW phm psm num n fz ct kd vl fh fg ff fk vs vb (lyp n k))) → mny n b2 ≤ mny n k) ∧ (∀ k, k < b2 → (aim ≤ hld ct (crW phm psm num n fz ct kd vl fh fg ff fk vs vb (lyp n k)) (flW phm psm num n fz ct kd vl fh fg ff fk vs vb (lyp n k))) → mny n b2 < mny n k) ∧ r = nI (mny n b2)) ∨ ((∀ k, k < (n + 1) * (n + 1) * (n + 1) → ¬ (aim ≤ hld ct (crW phm psm num n fz ct kd vl fh fg ff fk vs vb (lyp n k)) (flW phm psm num n fz ct kd vl fh fg ff fk vs vb (lyp n k)))) ∧ r = -3))) A (fun u : FN × FN × FN × FN × Int32 × Int32 × Int32 × FN × FN => match u with | (xh, xg, xf, xk, xs, xb, xd, fp2, bp2) => [ob m0 4 [.int (nI n), .int kn, .int fz, .ref m1, .ref m2, .ref m3, .ref m4, .ref m5, .ref m6, .ref m7, .ref m8, .ref m9, .ref m10, .ref m11, .ref m12, .ref m13], ai m1 cyI 21 (f3 fh uh xh), ai m2 cyI 21 (f3 fg ug xg), ai m3 cyI 21 (f3 ff uf xf), ai m4 cyI 21 (f3 fk uk xk), ai m5 cyI 3 (t3 vs us xs), ai m6 cyI 3 (t3 vb ub xb), ai m7 cyI 3 (t3 vd ud xd), ai m8 cyI 3 (nF ct), ai m9 cyI 36 (q12 kd), ai m10 cyI 36 (q12 vl), ai m11 cyI 7 fr, ai m12 cyI 3 fp2, ai m13 cyI 3 bp2])) (by decide) rfl (Nat.le_of_ble_eq_true rfl) ?_
  intro p e s m below meth c A args Q hQ hx hb hr hlocks hml hts hown hnm hK hN hP hD hA hS ls hl
  have hl : lv_has ls 2 [(0, .ref m0), (1, .int aim)] := hl
  have hown : s.vm.findClass RX4 = some m.cls := hown
  obtain ⟨H, hHe⟩ : ∃ H, H = s.heap := ⟨_, rfl⟩
  obtain ⟨locs, hLe⟩ : ∃ locs : List Loc, locs = [] := ⟨_, rfl⟩
  have hP : va_P (dC, dI) vwCl [ob m0 4 [.int (nI n), .int kn, .int fz, .ref m1, .ref m2, .ref m3, .ref m4, .ref m5, .ref m6, .ref m7, .ref m8, .ref m9, .ref m10, .ref m11, .ref m12, .ref m13], ai m1 cyI 21 (f3 fh uh th), ai m2 cyI 21 (f3 fg ug tg), ai m3 cyI 21 (f3 ff uf tf), ai m4 cyI 21 (f3 fk uk tk), ai m5 cyI 3 (t3 vs us ts), ai m6 cyI 3 (t3 vb ub tb), ai m7 cyI 3 (t3 vd ud td), ai m8 cyI 3 (nF ct), ai m9 cyI 36 (q12 kd), ai m10 cyI 36 (q12 vl), ai m11 cyI 7 fr, ai m12 cyI 3 fp, ai m13 cyI 3 bp] H := by rw [hHe]; exact hP
  have hS : va_S A s.heap H locs := by rw [hHe, hLe]; exact hS
  suffices hgo : W p l e (rm 6) s m args below meth c H locs 0 0 Q (F0 m 0 ls []) by rw [hHe, hLe] at hgo; exact hgo
  refine lv_iload_n hx hb dX4_fences_0 rfl (lv_at hl 1 rfl) ?_
  refine lv_iconst (v := 0) hx hb dX4_fences_1 (by decide) ?_
  refine lv_bipush (v := 99) hx hb dX4_fences_2 (by decide) ?_
  refine ra_cS (As := [.int aim, .int 0, .int 99]) (rest := []) ⟨hx, hb, hml, hown, hts⟩ (c_X4_in l aim 0 99 ) (va_cwS 3 hts gX4_fences_X4_in rfl rfl rfl (by decide +kernel) ⟨Nat.le_of_ble_eq_true rfl, Nat.le_of_ble_eq_true rfl⟩) hN rfl hl.1 rfl (Nat.le_of_ble_eq_true rfl) dX4_fences_4 ⟨Nat.le_of_ble_eq_true rfl, Nat.le_of_ble_eq_true rfl⟩ ?_
  refine lv_if_eq (tgt := 18) hx hb dX4_fences_7 (by decide) (fun c_7 => ?_) (fun c_7 => ?_)
  · ---- to 18
    have c_7 := bi_0 c_7
    refine lv_iconst (v := (-1)) hx hb dX4_fences_18 (by decide) ?_
    rw [hQ]
    exact ra_iretW (th, tg, tf, tk, ts, tb, td, fp, bp) hx hb hr hlocks rfl hK hP hD hS ⟨fun _ => rfl, fun q => absurd q c_7⟩ dX4_fences_19
  · ---- on
    have c_7 := bi_1 c_7
    refine lv_aload_n hx hb dX4_fences_10 rfl (lv_at hl 0 rfl) ?_
    refine lv_iload_n hx hb dX4_fences_11 rfl (lv_at hl 1 rfl) ?_
    refine ra_cI (q := (RX4, TX4, 16)) (ci := 4) (As := [.int aim]) (rest := []) (wc := [ob m0 4 [.int (nI n), .int kn, .int fz, .ref m1, .ref m2, .ref m3, .ref m4, .ref m5, .ref m6, .ref m7, .ref m8, .ref m9, .ref m10, .ref m11, .ref m12, .ref m13], ai m1 cyI 21 (f3 fh uh th), ai m2 cyI 21 (f3 fg ug tg), ai m3 cyI 21 (f3 ff uf tf), ai m4 cyI 21 (f3 fk uk tk), ai m5 cyI 3 (t3 vs us ts), ai m6 cyI 3 (t3 vb ub tb), ai m7 cyI 3 (t3 vd ud td), ai m8 cyI 3 (nF ct), ai m9 cyI 36 (q12 kd), ai m10 cyI 36 (q12 vl), ai m11 cyI 7 fr, ai m12 cyI 3 fp, ai m13 cyI 3 bp]) (wr := []) ⟨hx, hb, hml, hown, hts⟩ (c_X4_findPlan l dC dI cyI cyA m0 m1 m2 m3 m4 m5 m6 m7 m8 m9 m10 m11 m12 m13 n kn fz fh fg ff fk uh ug uf uk th tg tf tk vs vb vd us ub ud ts tb td ct kd vl fr fp bp aim (by omega) hct H.size) (cwV 1 hts gX4_fences_X4_findPlan rfl rfl rfl (by decide +kernel) ⟨Nat.le_of_ble_eq_true rfl, Nat.le_of_ble_eq_true rfl⟩) hK hN hP hD hA hS [0, 1, 2, 3, 4, 5, 6, 7, 8, 9, 10, 11, 12, 13] [] rfl rfl (by decide) (by decide) (by decide) rfl rfl rfl hl.1 rfl (Nat.le_of_ble_eq_true rfl) dX4_fences_12 ⟨Nat.le_of_ble_eq_true rfl, Nat.le_of_ble_eq_true rfl⟩ (fun r_1 u_1 hw_c1 H locs hP hD hS => ?_)
    obtain ⟨xh, xg, xf, xk, xs, xb, xd, fp2, bp2⟩ := u_1
    have hw_c1 : MPost ((n + 1) * (n + 1) * (n + 1)) (fun k => aim ≤ hld ct (crW phm psm num n fz ct kd vl fh fg ff fk vs vb (lyp n k)) (flW phm psm num n fz ct kd vl fh fg ff fk vs vb (lyp n k))) n r_1 bp2 := hw_c1
    have hP : va_P (dC, dI) vwCl [ob m0 4 [.int (nI n), .int kn, .int fz, .ref m1, .ref m2, .ref m3, .ref m4, .ref m5, .ref m6, .ref m7, .ref m8, .ref m9, .ref m10, .ref m11, .ref m12, .ref m13], ai m1 cyI 21 (f3 fh uh xh), ai m2 cyI 21 (f3 fg ug xg), ai m3 cyI 21 (f3 ff uf xf), ai m4 cyI 21 (f3 fk uk xk), ai m5 cyI 3 (t3 vs us xs), ai m6 cyI 3 (t3 vb ub xb), ai m7 cyI 3 (t3 vd ud xd), ai m8 cyI 3 (nF ct), ai m9 cyI 36 (q12 kd), ai m10 cyI 36 (q12 vl), ai m11 cyI 7 fr, ai m12 cyI 3 fp2, ai m13 cyI 3 bp2] H := hP
    have hD : va_D A [ob m0 4 [.int (nI n), .int kn, .int fz, .ref m1, .ref m2, .ref m3, .ref m4, .ref m5, .ref m6, .ref m7, .ref m8, .ref m9, .ref m10, .ref m11, .ref m12, .ref m13], ai m1 cyI 21 (f3 fh uh xh), ai m2 cyI 21 (f3 fg ug xg), ai m3 cyI 21 (f3 ff uf xf), ai m4 cyI 21 (f3 fk uk xk), ai m5 cyI 3 (t3 vs us xs), ai m6 cyI 3 (t3 vb ub xb), ai m7 cyI 3 (t3 vd ud xd), ai m8 cyI 3 (nF ct), ai m9 cyI 36 (q12 kd), ai m10 cyI 36 (q12 vl), ai m11 cyI 7 fr, ai m12 cyI 3 fp2, ai m13 cyI 3 bp2] := hD
    refine lv_goto (tgt := 19) hx hb dX4_fences_15 (by decide) ?_
    rw [hQ]
    exact ra_iretW (xh, xg, xf, xk, xs, xb, xd, fp2, bp2) hx hb hr hlocks rfl hK hP hD hS ⟨fun q => absurd c_7 q, fun _ => hw_c1.elim (fun q => Or.inr ⟨q.2, q.1⟩) (fun q => by obtain ⟨b2, q1, q2, q3, q4, q5, q6⟩ := q; exact Or.inl ⟨b2, q1, q2, q5, q6, q3⟩)⟩ dX4_fences_19

set_option maxHeartbeats 4000000 in
set_option maxRecDepth 100000 in
theorem c_X4_most (l : Launch) (dC : Nat → ClassId) (dI : Nat → Nat → Nat) (cyI cyA : ClassId) (m0 m1 m2 m3 m4 m5 m6 m7 m8 m9 m10 m11 m12 m13 n : Nat) (kn fz : Int32) (fh fg ff fk uh ug uf uk th tg tf tk : FN) (vs vb vd us ub ud ts tb td : Int32) (ct : Nat → Nat) (kd vl : Nat → FN) (fr fp bp : FN) (hn : n ≤ 7) (hn1 : 1 ≤ n) (hct : ∀ w, w < 3 → ct w ≤ 12) (sz : Nat) : Met l yX4_most wsX4_most (rm 6) (kW dC dI cyI cyA [.ref m0] sz [ob m0 4 [.int (nI n), .int kn, .int fz, .ref m1, .ref m2, .ref m3, .ref m4, .ref m5, .ref m6, .ref m7, .ref m8, .ref m9, .ref m10, .ref m11, .ref m12, .ref m13], ai m1 cyI 21 (f3 fh uh th), ai m2 cyI 21 (f3 fg ug tg), ai m3 cyI 21 (f3 ff uf tf), ai m4 cyI 21 (f3 fk uk tk), ai m5 cyI 3 (t3 vs us ts), ai m6 cyI 3 (t3 vb ub tb), ai m7 cyI 3 (t3 vd ud td), ai m8 cyI 3 (nF ct), ai m9 cyI 36 (q12 kd), ai m10 cyI 36 (q12 vl), ai m11 cyI 7 fr, ai m12 cyI 3 fp, ai m13 cyI 3 bp]) (qI dC dI cyI cyA (fun (r : Int32) (u : FN × FN × FN × FN × Int32 × Int32 × Int32 × FN) => match u with | (xh, xg, xf, xk, xs, xb, xd, fp2) => r = sel (0 < ct 0 ∨ 0 < ct 1 ∨ 0 < ct 2) (mmo n ct (crW phm psm num n fz ct kd vl fh fg ff fk vs vb) (flW phm psm num n fz ct kd vl fh fg ff fk vs vb) ((n + 1) * (n + 1) * (n + 1)) 0 (-3)) (-3)) (va_A [ob m0 4 [.int (nI n), .int kn, .int fz, .ref m1, .ref m2, .ref m3, .ref m4, .ref m5, .ref m6, .ref m7, .ref m8, .ref m9, .ref m10, .ref m11, .ref m12, .ref m13], ai m1 cyI 21 (f3 fh uh th), ai m2 cyI 21 (f3 fg ug tg), ai m3 cyI 21 (f3 ff uf tf), ai m4 cyI 21 (f3 fk uk tk), ai m5 cyI 3 (t3 vs us ts), ai m6 cyI 3 (t3 vb ub tb), ai m7 cyI 3 (t3 vd ud td), ai m8 cyI 3 (nF ct), ai m9 cyI 36 (q12 kd), ai m10 cyI 36 (q12 vl), ai m11 cyI 7 fr, ai m12 cyI 3 fp, ai m13 cyI 3 bp] sz) (fun u : FN × FN × FN × FN × Int32 × Int32 × Int32 × FN => match u with | (xh, xg, xf, xk, xs, xb, xd, fp2) => [ob m0 4 [.int (nI n), .int kn, .int fz, .ref m1, .ref m2, .ref m3, .ref m4, .ref m5, .ref m6, .ref m7, .ref m8, .ref m9, .ref m10, .ref m11, .ref m12, .ref m13], ai m1 cyI 21 (f3 fh uh xh), ai m2 cyI 21 (f3 fg ug xg), ai m3 cyI 21 (f3 ff uf xf), ai m4 cyI 21 (f3 fk uk xk), ai m5 cyI 3 (t3 vs us xs), ai m6 cyI 3 (t3 vb ub xb), ai m7 cyI 3 (t3 vd ud xd), ai m8 cyI 3 (nF ct), ai m9 cyI 36 (q12 kd), ai m10 cyI 36 (q12 vl), ai m11 cyI 7 fr, ai m12 cyI 3 fp2, ai m13 cyI 3 bp])) 0 0 (va_A [ob m0 4 [.int (nI n), .int kn, .int fz, .ref m1, .ref m2, .ref m3, .ref m4, .ref m5, .ref m6, .ref m7, .ref m8, .ref m9, .ref m10, .ref m11, .ref m12, .ref m13], ai m1 cyI 21 (f3 fh uh th), ai m2 cyI 21 (f3 fg ug tg), ai m3 cyI 21 (f3 ff uf tf), ai m4 cyI 21 (f3 fk uk tk), ai m5 cyI 3 (t3 vs us ts), ai m6 cyI 3 (t3 vb ub tb), ai m7 cyI 3 (t3 vd ud td), ai m8 cyI 3 (nF ct), ai m9 cyI 36 (q12 kd), ai m10 cyI 36 (q12 vl), ai m11 cyI 7 fr, ai m12 cyI 3 fp, ai m13 cyI 3 bp] sz) := by
  refine ra_metW (cc := cX4_most) (maxL := 5) (Qc := fun A => qI dC dI cyI cyA (fun (r : Int32) (u : FN × FN × FN × FN × Int32 × Int32 × Int32 × FN) => match u with | (xh, xg, xf, xk, xs, xb, xd, fp2) => r = sel (0 < ct 0 ∨ 0 < ct 1 ∨ 0 < ct 2) (mmo n ct (crW phm psm num n fz ct kd vl fh fg ff fk vs vb) (flW phm psm num n fz ct kd vl fh fg ff fk vs vb) ((n + 1) * (n + 1) * (n + 1)) 0 (-3)) (-3)) A (fun u : FN × FN × FN × FN × Int32 × Int32 × Int32 × FN => match u with | (xh, xg, xf, xk, xs, xb, xd, fp2) => [ob m0 4 [.int (nI n), .int kn, .int fz, .ref m1, .ref m2, .ref m3, .ref m4, .ref m5, .ref m6, .ref m7, .ref m8, .ref m9, .ref m10, .ref m11, .ref m12, .ref m13], ai m1 cyI 21 (f3 fh uh xh), ai m2 cyI 21 (f3 fg ug xg), ai m3 cyI 21 (f3 ff uf xf), ai m4 cyI 21 (f3 fk uk xk), ai m5 cyI 3 (t3 vs us xs), ai m6 cyI 3 (t3 vb ub xb), ai m7 cyI 3 (t3 vd ud xd), ai m8 cyI 3 (nF ct), ai m9 cyI 36 (q12 kd), ai m10 cyI 36 (q12 vl), ai m11 cyI 7 fr, ai m12 cyI 3 fp2, ai m13 cyI 3 bp])) (by decide) rfl (Nat.le_of_ble_eq_true rfl) ?_
  intro p e s m below meth c A args Q hQ hx hb hr hlocks hml hts hown hnm hK hN hP hD hA hS ls hl
  have hl : lv_has ls 5 [(0, .ref m0)] := hl
  have hown : s.vm.findClass RX4 = some m.cls := hown
  have hw_1 := hts (.fieldLink RX4 38 "DuneBenchModel" "events" "[I") (by decide +kernel)
  have hin_X4 : ∀ w ∈ u_ws RX4 TX4 16, w ∈ wsX4_most := by decide +kernel
  have hw_3 := hts (.fieldLink RX4 7 "DuneBenchModel" "n" "I") (by decide +kernel)
  obtain ⟨H, hHe⟩ : ∃ H, H = s.heap := ⟨_, rfl⟩
  obtain ⟨locs, hLe⟩ : ∃ locs : List Loc, locs = [] := ⟨_, rfl⟩
  have hP : va_P (dC, dI) vwCl [ob m0 4 [.int (nI n), .int kn, .int fz, .ref m1, .ref m2, .ref m3, .ref m4, .ref m5, .ref m6, .ref m7, .ref m8, .ref m9, .ref m10, .ref m11, .ref m12, .ref m13], ai m1 cyI 21 (f3 fh uh th), ai m2 cyI 21 (f3 fg ug tg), ai m3 cyI 21 (f3 ff uf tf), ai m4 cyI 21 (f3 fk uk tk), ai m5 cyI 3 (t3 vs us ts), ai m6 cyI 3 (t3 vb ub tb), ai m7 cyI 3 (t3 vd ud td), ai m8 cyI 3 (nF ct), ai m9 cyI 36 (q12 kd), ai m10 cyI 36 (q12 vl), ai m11 cyI 7 fr, ai m12 cyI 3 fp, ai m13 cyI 3 bp] H := by rw [hHe]; exact hP
  have hS : va_S A s.heap H locs := by rw [hHe, hLe]; exact hS
  suffices hgo : W p l e (rm 6) s m args below meth c H locs 0 0 Q (F0 m 0 ls []) by rw [hHe, hLe] at hgo; exact hgo
  have hc0 := hct 0 (by omega)
  have hc1 := hct 1 (by omega)
  have hc2 := hct 2 (by omega)
  have hN3 := N3_le hn
  refine lv_aload_n hx hb dX4_most_0 rfl (lv_at hl 0 rfl) ?_
  refine va_get (D := (dC, dI)) (ci := 4) (v := .ref m8) (C := RX4) (T := TX4) (N := 16) hx hb hts hin_X4 hown hK hP 0 rfl rfl 10 (by decide) hw_1 (fun _ h9 => h9) rfl dX4_most_1 ?_
  refine lv_iconst (v := 0) hx hb dX4_most_4 (by decide) ?_
  refine ra_iald hx hb hK hP 8 rfl 0 rfl (by omega) (Nat.le_of_ble_eq_true rfl) dX4_most_5 ?_
  refine ra_top (nI (ct 0)) rfl ?_
  refine lv_aload_n hx hb dX4_most_6 rfl (lv_at hl 0 rfl) ?_
  refine va_get (D := (dC, dI)) (ci := 4) (v := .ref m8) (C := RX4) (T := TX4) (N := 16) hx hb hts hin_X4 hown hK hP 0 rfl rfl 10 (by decide) hw_1 (fun _ h9 => h9) rfl dX4_most_7 ?_
  refine lv_iconst (v := 1) hx hb dX4_most_10 (by decide) ?_
  refine ra_iald hx hb hK hP 8 rfl 1 rfl (by omega) (Nat.le_of_ble_eq_true rfl) dX4_most_11 ?_
  refine ra_top (nI (ct 1)) rfl ?_
  refine lv_iadd hx hb dX4_most_12 ?_
  refine ra_top (nI (ct 0 + (ct 1))) (nI_add (ct 0) (ct 1)) ?_
  refine lv_aload_n hx hb dX4_most_13 rfl (lv_at hl 0 rfl) ?_
  refine va_get (D := (dC, dI)) (ci := 4) (v := .ref m8) (C := RX4) (T := TX4) (N := 16) hx hb hts hin_X4 hown hK hP 0 rfl rfl 10 (by decide) hw_1 (fun _ h9 => h9) rfl dX4_most_14 ?_
  refine lv_iconst (v := 2) hx hb dX4_most_17 (by decide) ?_
  refine ra_iald hx hb hK hP 8 rfl 2 rfl (by omega) (Nat.le_of_ble_eq_true rfl) dX4_most_18 ?_
  refine ra_top (nI (ct 2)) rfl ?_
  refine lv_iadd hx hb dX4_most_19 ?_
  refine ra_top (nI (ct 0 + (ct 1) + (ct 2))) (nI_add (ct 0 + (ct 1)) (ct 2)) ?_
  refine lv_if_ne (tgt := 26) hx hb dX4_most_20 (by decide) (fun c_20 => ?_) (fun c_20 => ?_)
  · ---- to 26
    have n_20 := (nq_eq_n (ct 0 + (ct 1) + (ct 2)) 0 (by omega) (by omega)).mp c_20
    refine lv_bipush (v := (-3)) hx hb dX4_most_26 (by decide) ?_
    refine lv_istore_n (lv' := [(1, .int (-3)), (0, .ref m0)]) hx hb dX4_most_28 rfl hl (by decide) rfl (fun ls hl => ?_)
    refine lv_iconst (v := 0) hx hb dX4_most_29 (by decide) ?_
    refine lv_istore_n (lv' := [(2, .int 0), (1, .int (-3)), (0, .ref m0)]) hx hb dX4_most_30 rfl hl (by decide) rfl (fun ls hl => ?_)
    have L_31 : ∀ (n9 : Nat) (num2 : Nat) (x : Int32) (yh : FN) (yg : FN) (yf : FN) (yk : FN) (ys : Int32) (yb : Int32) (yd : Int32) (xp2 : FN), (num2 ≤ (n + 1) * (n + 1) * (n + 1)) → (mmo n ct (crW phm psm num n fz ct kd vl fh fg ff fk vs vb) (flW phm psm num n fz ct kd vl fh fg ff fk vs vb) ((n + 1) * (n + 1) * (n + 1) - num2) num2 x = mmo n ct (crW phm psm num n fz ct kd vl fh fg ff fk vs vb) (flW phm psm num n fz ct kd vl fh fg ff fk vs vb) ((n + 1) * (n + 1) * (n + 1)) 0 (-3)) → ((n + 1) * (n + 1) * (n + 1) - num2) < n9 → ∀ (H : Heap) (locs : List Loc), va_P (dC, dI) vwCl [ob m0 4 [.int (nI n), .int kn, .int fz, .ref m1, .ref m2, .ref m3, .ref m4, .ref m5, .ref m6, .ref m7, .ref m8, .ref m9, .ref m10, .ref m11, .ref m12, .ref m13], ai m1 cyI 21 (f3 fh uh yh), ai m2 cyI 21 (f3 fg ug yg), ai m3 cyI 21 (f3 ff uf yf), ai m4 cyI 21 (f3 fk uk yk), ai m5 cyI 3 (t3 vs us ys), ai m6 cyI 3 (t3 vb ub yb), ai m7 cyI 3 (t3 vd ud yd), ai m8 cyI 3 (nF ct), ai m9 cyI 36 (q12 kd), ai m10 cyI 36 (q12 vl), ai m11 cyI 7 fr, ai m12 cyI 3 xp2, ai m13 cyI 3 bp] H → va_D A [ob m0 4 [.int (nI n), .int kn, .int fz, .ref m1, .ref m2, .ref m3, .ref m4, .ref m5, .ref m6, .ref m7, .ref m8, .ref m9, .ref m10, .ref m11, .ref m12, .ref m13], ai m1 cyI 21 (f3 fh uh yh), ai m2 cyI 21 (f3 fg ug yg), ai m3 cyI 21 (f3 ff uf yf), ai m4 cyI 21 (f3 fk uk yk), ai m5 cyI 3 (t3 vs us ys), ai m6 cyI 3 (t3 vb ub yb), ai m7 cyI 3 (t3 vd ud yd), ai m8 cyI 3 (nF ct), ai m9 cyI 36 (q12 kd), ai m10 cyI 36 (q12 vl), ai m11 cyI 7 fr, ai m12 cyI 3 xp2, ai m13 cyI 3 bp] → va_S A s.heap H locs → ∀ ls : Array Slot, lv_has ls 5 [(0, .ref m0), (1, .int x), (2, .int (nI num2))] → W p l e (rm 6) s m args below meth c H locs 0 0 Q (F0 m 31 ls []) := by
      intro n9
      induction n9 with
      | zero =>
        intro num2 x yh yg yf yk ys yb yd xp2 hnum he hm9
        exact absurd hm9 (Nat.not_lt_zero _)
      | succ n9 ih_31 =>
        intro num2 x yh yg yf yk ys yb yd xp2 hnum he hm9 H locs hP hD hS ls hl
        refine lv_iload_n hx hb dX4_most_31 rfl (lv_at hl 2 rfl) ?_
        refine lv_aload_n hx hb dX4_most_32 rfl (lv_at hl 0 rfl) ?_
        refine va_get (D := (dC, dI)) (ci := 4) (v := .int (nI n)) (C := RX4) (T := TX4) (N := 16) hx hb hts hin_X4 hown hK hP 0 rfl rfl 0 (by decide) hw_3 (fun _ h9 => h9) rfl dX4_most_33 ?_
        refine lv_iconst (v := 1) hx hb dX4_most_36 (by decide) ?_
        refine lv_iadd hx hb dX4_most_37 ?_
        refine ra_top (nI (n + 1)) (nI_add n 1) ?_
        refine lv_aload_n hx hb dX4_most_38 rfl (lv_at hl 0 rfl) ?_
        refine va_get (D := (dC, dI)) (ci := 4) (v := .int (nI n)) (C := RX4) (T := TX4) (N := 16) hx hb hts hin_X4 hown hK hP 0 rfl rfl 0 (by decide) hw_3 (fun _ h9 => h9) rfl dX4_most_39 ?_
        refine lv_iconst (v := 1) hx hb dX4_most_42 (by decide) ?_
        refine lv_iadd hx hb dX4_most_43 ?_
        refine ra_top (nI (n + 1)) (nI_add n 1) ?_
        refine lv_imul hx hb dX4_most_44 ?_
        refine ra_top (nI ((n + 1) * (n + 1))) (pk_mul (n + 1) (n + 1)) ?_
        refine lv_aload_n hx hb dX4_most_45 rfl (lv_at hl 0 rfl) ?_
        refine va_get (D := (dC, dI)) (ci := 4) (v := .int (nI n)) (C := RX4) (T := TX4) (N := 16) hx hb hts hin_X4 hown hK hP 0 rfl rfl 0 (by decide) hw_3 (fun _ h9 => h9) rfl dX4_most_46 ?_
        refine lv_iconst (v := 1) hx hb dX4_most_49 (by decide) ?_
        refine lv_iadd hx hb dX4_most_50 ?_
        refine ra_top (nI (n + 1)) (nI_add n 1) ?_
        refine lv_imul hx hb dX4_most_51 ?_
        refine ra_top (nI (((n + 1) * (n + 1)) * (n + 1))) (pk_mul ((n + 1) * (n + 1)) (n + 1)) ?_
        refine lv_icmp_ge (tgt := 91) hx hb dX4_most_52 (by decide) (fun c_52 => ?_) (fun c_52 => ?_)
        · ---- to 91
          have n_52 := (nq_le (((n + 1) * (n + 1)) * (n + 1)) num2 (by omega) (by omega)).mp c_52
          have he : x = mmo n ct (crW phm psm num n fz ct kd vl fh fg ff fk vs vb) (flW phm psm num n fz ct kd vl fh fg ff fk vs vb) ((n + 1) * (n + 1) * (n + 1)) 0 (-3) := by rw [← he, show (n + 1) * (n + 1) * (n + 1) - num2 = 0 by omega]; rfl
          refine lv_iload_n hx hb dX4_most_91 rfl (lv_at hl 1 rfl) ?_
          rw [hQ]
          exact ra_iretW (yh, yg, yf, yk, ys, yb, yd, xp2) hx hb hr hlocks rfl hK hP hD hS (by rw [sel_t (by omega), ← he]) dX4_most_92
        · ---- on
          have n_52 := (nq_le_n (((n + 1) * (n + 1)) * (n + 1)) num2 (by omega) (by omega)).mp c_52
          refine lv_aload_n hx hb dX4_most_55 rfl (lv_at hl 0 rfl) ?_
          refine lv_iload_n hx hb dX4_most_56 rfl (lv_at hl 2 rfl) ?_
          refine ra_cI (q := (RX4, TX4, 16)) (ci := 4) (As := [.int (nI num2)]) (rest := []) (wc := [ob m0 4 [.int (nI n), .int kn, .int fz, .ref m1, .ref m2, .ref m3, .ref m4, .ref m5, .ref m6, .ref m7, .ref m8, .ref m9, .ref m10, .ref m11, .ref m12, .ref m13], ai m1 cyI 21 (f3 fh uh yh), ai m2 cyI 21 (f3 fg ug yg), ai m3 cyI 21 (f3 ff uf yf), ai m4 cyI 21 (f3 fk uk yk), ai m5 cyI 3 (t3 vs us ys), ai m6 cyI 3 (t3 vb ub yb), ai m7 cyI 3 (t3 vd ud yd), ai m8 cyI 3 (nF ct), ai m9 cyI 36 (q12 kd), ai m10 cyI 36 (q12 vl), ai m11 cyI 7 fr, ai m12 cyI 3 xp2, ai m13 cyI 3 bp]) (wr := []) ⟨hx, hb, hml, hown, hts⟩ (c_X4_lay l dC dI cyI cyA m0 m1 m2 m3 m4 m5 m6 m7 m8 m9 m10 m11 m12 m13 n kn fz fh fg ff fk uh ug uf uk yh yg yf yk vs vb vd us ub ud ys yb yd ct kd vl fr xp2 bp num2 (by omega) (by omega) H.size) (cwV 1 hts gX4_most_X4_lay rfl rfl rfl (by decide +kernel) ⟨Nat.le_of_ble_eq_true rfl, Nat.le_of_ble_eq_true rfl⟩) hK hN hP hD hA hS [0, 1, 2, 3, 4, 5, 6, 7, 8, 9, 10, 11, 12, 13] [] rfl rfl (by decide) (by decide) (by decide) rfl rfl rfl hl.1 rfl (Nat.le_of_ble_eq_true rfl) dX4_most_57 ⟨Nat.le_of_ble_eq_true rfl, Nat.le_of_ble_eq_true rfl⟩ (fun r_1 u_1 hw_c1 H locs hP hD hS => ?_)
          subst hw_c1
          have hP : va_P (dC, dI) vwCl [ob m0 4 [.int (nI n), .int kn, .int fz, .ref m1, .ref m2, .ref m3, .ref m4, .ref m5, .ref m6, .ref m7, .ref m8, .ref m9, .ref m10, .ref m11, .ref m12, .ref m13], ai m1 cyI 21 (f3 fh uh yh), ai m2 cyI 21 (f3 fg ug yg), ai m3 cyI 21 (f3 ff uf yf), ai m4 cyI 21 (f3 fk uk yk), ai m5 cyI 3 (t3 vs us ys), ai m6 cyI 3 (t3 vb ub yb), ai m7 cyI 3 (t3 vd ud yd), ai m8 cyI 3 (nF ct), ai m9 cyI 36 (q12 kd), ai m10 cyI 36 (q12 vl), ai m11 cyI 7 fr, ai m12 cyI 3 (lyp n num2), ai m13 cyI 3 bp] H := hP
          have hD : va_D A [ob m0 4 [.int (nI n), .int kn, .int fz, .ref m1, .ref m2, .ref m3, .ref m4, .ref m5, .ref m6, .ref m7, .ref m8, .ref m9, .ref m10, .ref m11, .ref m12, .ref m13], ai m1 cyI 21 (f3 fh uh yh), ai m2 cyI 21 (f3 fg ug yg), ai m3 cyI 21 (f3 ff uf yf), ai m4 cyI 21 (f3 fk uk yk), ai m5 cyI 3 (t3 vs us ys), ai m6 cyI 3 (t3 vb ub yb), ai m7 cyI 3 (t3 vd ud yd), ai m8 cyI 3 (nF ct), ai m9 cyI 36 (q12 kd), ai m10 cyI 36 (q12 vl), ai m11 cyI 7 fr, ai m12 cyI 3 (lyp n num2), ai m13 cyI 3 bp] := hD
          refine lv_istore_n (lv' := [(3, .int (nI (mny n num2))), (0, .ref m0), (1, .int x), (2, .int (nI num2))]) hx hb dX4_most_60 rfl hl (by decide) rfl (fun ls hl => ?_)
          refine lv_aload_n hx hb dX4_most_61 rfl (lv_at hl 1 rfl) ?_
          refine ra_cI (q := (RX4, TX4, 16)) (ci := 4) (As := []) (rest := []) (wc := [ob m0 4 [.int (nI n), .int kn, .int fz, .ref m1, .ref m2, .ref m3, .ref m4, .ref m5, .ref m6, .ref m7, .ref m8, .ref m9, .ref m10, .ref m11, .ref m12, .ref m13], ai m1 cyI 21 (f3 fh uh yh), ai m2 cyI 21 (f3 fg ug yg), ai m3 cyI 21 (f3 ff uf yf), ai m4 cyI 21 (f3 fk uk yk), ai m5 cyI 3 (t3 vs us ys), ai m6 cyI 3 (t3 vb ub yb), ai m7 cyI 3 (t3 vd ud yd), ai m8 cyI 3 (nF ct), ai m9 cyI 36 (q12 kd), ai m10 cyI 36 (q12 vl), ai m11 cyI 7 fr, ai m12 cyI 3 (lyp n num2), ai m13 cyI 3 bp]) (wr := []) ⟨hx, hb, hml, hown, hts⟩ (c_X4_holds l dC dI cyI cyA m0 m1 m2 m3 m4 m5 m6 m7 m8 m9 m10 m11 m12 m13 n kn fz fh fg ff fk uh ug uf uk yh yg yf yk vs vb vd us ub ud ys yb yd ct kd vl fr (lyp n num2) bp (by omega) (lyp_ce hn) hct H.size) (cwV 0 hts gX4_most_X4_holds rfl rfl rfl (by decide +kernel) ⟨Nat.le_of_ble_eq_true rfl, Nat.le_of_ble_eq_true rfl⟩) hK hN hP hD hA hS [0, 1, 2, 3, 4, 5, 6, 7, 8, 9, 10, 11, 12, 13] [] rfl rfl (by decide) (by decide) (by decide) rfl rfl rfl hl.1 rfl (Nat.le_of_ble_eq_true rfl) dX4_most_62 ⟨Nat.le_of_ble_eq_true rfl, Nat.le_of_ble_eq_true rfl⟩ (fun r_2 u_2 hw_c2 H locs hP hD hS => ?_)
          obtain ⟨xh_2, xg_2, xf_2, xk_2, xs_2, xb_2, xd_2⟩ := u_2
          have hw_c2 : r_2 = hld ct (crW phm psm num n fz ct kd vl fh fg ff fk vs vb (lyp n num2)) (flW phm psm num n fz ct kd vl fh fg ff fk vs vb (lyp n num2)) := hw_c2
          subst hw_c2
          have hP : va_P (dC, dI) vwCl [ob m0 4 [.int (nI n), .int kn, .int fz, .ref m1, .ref m2, .ref m3, .ref m4, .ref m5, .ref m6, .ref m7, .ref m8, .ref m9, .ref m10, .ref m11, .ref m12, .ref m13], ai m1 cyI 21 (f3 fh uh xh_2), ai m2 cyI 21 (f3 fg ug xg_2), ai m3 cyI 21 (f3 ff uf xf_2), ai m4 cyI 21 (f3 fk uk xk_2), ai m5 cyI 3 (t3 vs us xs_2), ai m6 cyI 3 (t3 vb ub xb_2), ai m7 cyI 3 (t3 vd ud xd_2), ai m8 cyI 3 (nF ct), ai m9 cyI 36 (q12 kd), ai m10 cyI 36 (q12 vl), ai m11 cyI 7 fr, ai m12 cyI 3 (lyp n num2), ai m13 cyI 3 bp] H := hP
          have hD : va_D A [ob m0 4 [.int (nI n), .int kn, .int fz, .ref m1, .ref m2, .ref m3, .ref m4, .ref m5, .ref m6, .ref m7, .ref m8, .ref m9, .ref m10, .ref m11, .ref m12, .ref m13], ai m1 cyI 21 (f3 fh uh xh_2), ai m2 cyI 21 (f3 fg ug xg_2), ai m3 cyI 21 (f3 ff uf xf_2), ai m4 cyI 21 (f3 fk uk xk_2), ai m5 cyI 3 (t3 vs us xs_2), ai m6 cyI 3 (t3 vb ub xb_2), ai m7 cyI 3 (t3 vd ud xd_2), ai m8 cyI 3 (nF ct), ai m9 cyI 36 (q12 kd), ai m10 cyI 36 (q12 vl), ai m11 cyI 7 fr, ai m12 cyI 3 (lyp n num2), ai m13 cyI 3 bp] := hD
          refine lv_istore (lv' := [(4, .int (hld ct (crW phm psm num n fz ct kd vl fh fg ff fk vs vb (lyp n num2)) (flW phm psm num n fz ct kd vl fh fg ff fk vs vb (lyp n num2)))), (3, .int (nI (mny n num2))), (0, .ref m0), (1, .int x), (2, .int (nI num2))]) hx hb dX4_most_65 hl (by decide) rfl (fun ls hl => ?_)
          refine lv_iload hx hb dX4_most_67 (lv_at hl 0 rfl) ?_
          refine lv_if_lt (tgt := 83) hx hb dX4_most_69 (by decide) (fun c_69 => ?_) (fun c_69 => ?_)
          · ---- to 83
            refine lv_iload_n hx hb dX4_most_83 rfl (lv_at hl 3 rfl) ?_
            refine lv_istore_n (lv' := [(1, .int x), (4, .int (hld ct (crW phm psm num n fz ct kd vl fh fg ff fk vs vb (lyp n num2)) (flW phm psm num n fz ct kd vl fh fg ff fk vs vb (lyp n num2)))), (3, .int (nI (mny n num2))), (0, .ref m0), (2, .int (nI num2))]) hx hb dX4_most_84 rfl hl (by decide) rfl (fun ls hl => ?_)
            refine lv_iinc (v := nI (num2 + 1)) (lv' := [(2, .int (nI (num2 + 1))), (1, .int x), (4, .int (hld ct (crW phm psm num n fz ct kd vl fh fg ff fk vs vb (lyp n num2)) (flW phm psm num n fz ct kd vl fh fg ff fk vs vb (lyp n num2)))), (3, .int (nI (mny n num2))), (0, .ref m0)]) hx hb dX4_most_85 hl (k := 4) rfl (ra_inc1 _) (by decide) rfl (fun ls hl => ?_)
            refine lv_goto (tgt := 31) hx hb dX4_most_88 (by decide) ?_
            exact ih_31 (num2 + 1) x xh_2 xg_2 xf_2 xk_2 xs_2 xb_2 xd_2 (lyp n num2) (by omega) (by rw [← he, show (n + 1) * (n + 1) * (n + 1) - num2 = (n + 1) * (n + 1) * (n + 1) - (num2 + 1) + 1 by omega]; show _ = mmo n ct (crW phm psm num n fz ct kd vl fh fg ff fk vs vb) (flW phm psm num n fz ct kd vl fh fg ff fk vs vb) _ _ (if _ then _ else _); first | (rw [if_neg (fun q => i32_not q.1 c_69)]; done) | (rw [if_neg (fun q => i32_nlt c_75 q.2)]; done) | (rw [if_pos ⟨i32_ge c_69, Int32.not_le.mp c_75⟩]; done)) (by omega) H locs hP hD hS ls (lv_sub hl [4, 1, 0] rfl)
          · ---- on
            refine lv_iload hx hb dX4_most_72 (lv_at hl 0 rfl) ?_
            refine lv_iload_n hx hb dX4_most_74 rfl (lv_at hl 3 rfl) ?_
            refine lv_icmp_le (tgt := 83) hx hb dX4_most_75 (by decide) (fun c_75 => ?_) (fun c_75 => ?_)
            · ---- to 83
              refine lv_iload_n hx hb dX4_most_83 rfl (lv_at hl 3 rfl) ?_
              refine lv_istore_n (lv' := [(1, .int x), (4, .int (hld ct (crW phm psm num n fz ct kd vl fh fg ff fk vs vb (lyp n num2)) (flW phm psm num n fz ct kd vl fh fg ff fk vs vb (lyp n num2)))), (3, .int (nI (mny n num2))), (0, .ref m0), (2, .int (nI num2))]) hx hb dX4_most_84 rfl hl (by decide) rfl (fun ls hl => ?_)
              refine lv_iinc (v := nI (num2 + 1)) (lv' := [(2, .int (nI (num2 + 1))), (1, .int x), (4, .int (hld ct (crW phm psm num n fz ct kd vl fh fg ff fk vs vb (lyp n num2)) (flW phm psm num n fz ct kd vl fh fg ff fk vs vb (lyp n num2)))), (3, .int (nI (mny n num2))), (0, .ref m0)]) hx hb dX4_most_85 hl (k := 4) rfl (ra_inc1 _) (by decide) rfl (fun ls hl => ?_)
              refine lv_goto (tgt := 31) hx hb dX4_most_88 (by decide) ?_
              exact ih_31 (num2 + 1) x xh_2 xg_2 xf_2 xk_2 xs_2 xb_2 xd_2 (lyp n num2) (by omega) (by rw [← he, show (n + 1) * (n + 1) * (n + 1) - num2 = (n + 1) * (n + 1) * (n + 1) - (num2 + 1) + 1 by omega]; show _ = mmo n ct (crW phm psm num n fz ct kd vl fh fg ff fk vs vb) (flW phm psm num n fz ct kd vl fh fg ff fk vs vb) _ _ (if _ then _ else _); first | (rw [if_neg (fun q => i32_not q.1 c_69)]; done) | (rw [if_neg (fun q => i32_nlt c_75 q.2)]; done) | (rw [if_pos ⟨i32_ge c_69, Int32.not_le.mp c_75⟩]; done)) (by omega) H locs hP hD hS ls (lv_sub hl [4, 1, 0] rfl)
            · ---- on
              refine lv_iload hx hb dX4_most_78 (lv_at hl 0 rfl) ?_
              refine lv_goto (tgt := 84) hx hb dX4_most_80 (by decide) ?_
              refine lv_istore_n (lv' := [(1, .int (hld ct (crW phm psm num n fz ct kd vl fh fg ff fk vs vb (lyp n num2)) (flW phm psm num n fz ct kd vl fh fg ff fk vs vb (lyp n num2)))), (4, .int (hld ct (crW phm psm num n fz ct kd vl fh fg ff fk vs vb (lyp n num2)) (flW phm psm num n fz ct kd vl fh fg ff fk vs vb (lyp n num2)))), (3, .int (nI (mny n num2))), (0, .ref m0), (2, .int (nI num2))]) hx hb dX4_most_84 rfl hl (by decide) rfl (fun ls hl => ?_)
              refine lv_iinc (v := nI (num2 + 1)) (lv' := [(2, .int (nI (num2 + 1))), (1, .int (hld ct (crW phm psm num n fz ct kd vl fh fg ff fk vs vb (lyp n num2)) (flW phm psm num n fz ct kd vl fh fg ff fk vs vb (lyp n num2)))), (4, .int (hld ct (crW phm psm num n fz ct kd vl fh fg ff fk vs vb (lyp n num2)) (flW phm psm num n fz ct kd vl fh fg ff fk vs vb (lyp n num2)))), (3, .int (nI (mny n num2))), (0, .ref m0)]) hx hb dX4_most_85 hl (k := 4) rfl (ra_inc1 _) (by decide) rfl (fun ls hl => ?_)
              refine lv_goto (tgt := 31) hx hb dX4_most_88 (by decide) ?_
              exact ih_31 (num2 + 1) (hld ct (crW phm psm num n fz ct kd vl fh fg ff fk vs vb (lyp n num2)) (flW phm psm num n fz ct kd vl fh fg ff fk vs vb (lyp n num2))) xh_2 xg_2 xf_2 xk_2 xs_2 xb_2 xd_2 (lyp n num2) (by omega) (by rw [← he, show (n + 1) * (n + 1) * (n + 1) - num2 = (n + 1) * (n + 1) * (n + 1) - (num2 + 1) + 1 by omega]; show _ = mmo n ct (crW phm psm num n fz ct kd vl fh fg ff fk vs vb) (flW phm psm num n fz ct kd vl fh fg ff fk vs vb) _ _ (if _ then _ else _); first | (rw [if_neg (fun q => i32_not q.1 c_69)]; done) | (rw [if_neg (fun q => i32_nlt c_75 q.2)]; done) | (rw [if_pos ⟨i32_ge c_69, Int32.not_le.mp c_75⟩]; done)) (by omega) H locs hP hD hS ls (lv_sub hl [4, 1, 0] rfl)
    exact L_31 _ 0 (-3) th tg tf tk ts tb td fp (by omega) rfl (Nat.lt_succ_self _) H locs hP hD hS ls (lv_sub hl [2, 1, 0] rfl)
  · ---- on
    have n_20 := (nq_eq (ct 0 + (ct 1) + (ct 2)) 0 (by omega) (by omega)).mp c_20
    refine lv_bipush (v := (-3)) hx hb dX4_most_23 (by decide) ?_
    rw [hQ]
    exact ra_iretW (th, tg, tf, tk, ts, tb, td, fp) hx hb hr hlocks rfl hK hP hD hS (sel_f (by omega) _ _).symm dX4_most_25

set_option maxHeartbeats 4000000 in
set_option maxRecDepth 100000 in
theorem c_X4_read (l : Launch) (dC : Nat → ClassId) (dI : Nat → Nat → Nat) (cyI cyA : ClassId) (m0 m1 m2 m3 m4 m5 m6 m7 m8 m9 m10 m11 m12 m13 n : Nat) (kn fz : Int32) (fh fg ff fk uh ug uf uk th tg tf tk : FN) (vs vb vd us ub ud ts tb td : Int32) (ct : Nat → Nat) (kd vl : Nat → FN) (fr fp bp : FN) (x v : Int32) (hn : n ≤ 7) (hn1 : 1 ≤ n) (hct : ∀ w, w < 3 → ct w ≤ 12) (sz : Nat) : Met l yX4_read wsX4_read (rm 2) (kW dC dI cyI cyA [.ref m0, .int x, .int v] sz [ob m0 4 [.int (nI n), .int kn, .int fz, .ref m1, .ref m2, .ref m3, .ref m4, .ref m5, .ref m6, .ref m7, .ref m8, .ref m9, .ref m10, .ref m11, .ref m12, .ref m13], ai m1 cyI 21 (f3 fh uh th), ai m2 cyI 21 (f3 fg ug tg), ai m3 cyI 21 (f3 ff uf tf), ai m4 cyI 21 (f3 fk uk tk), ai m5 cyI 3 (t3 vs us ts), ai m6 cyI 3 (t3 vb ub tb), ai m7 cyI 3 (t3 vd ud td), ai m8 cyI 3 (nF ct), ai m9 cyI 36 (q12 kd), ai m10 cyI 36 (q12 vl), ai m11 cyI 7 fr, ai m12 cyI 3 fp, ai m13 cyI 3 bp]) (qI dC dI cyI cyA (fun (r : Int32) (_ : Unit) => r = sel (inC n x ∧ -1 ≤ v ∧ v ≤ 99) (fr x.toNatClampNeg) (-9)) (va_A [ob m0 4 [.int (nI n), .int kn, .int fz, .ref m1, .ref m2, .ref m3, .ref m4, .ref m5, .ref m6, .ref m7, .ref m8, .ref m9, .ref m10, .ref m11, .ref m12, .ref m13], ai m1 cyI 21 (f3 fh uh th), ai m2 cyI 21 (f3 fg ug tg), ai m3 cyI 21 (f3 ff uf tf), ai m4 cyI 21 (f3 fk uk tk), ai m5 cyI 3 (t3 vs us ts), ai m6 cyI 3 (t3 vb ub tb), ai m7 cyI 3 (t3 vd ud td), ai m8 cyI 3 (nF ct), ai m9 cyI 36 (q12 kd), ai m10 cyI 36 (q12 vl), ai m11 cyI 7 fr, ai m12 cyI 3 fp, ai m13 cyI 3 bp] sz) (fun _ => [ob m0 4 [.int (nI n), .int kn, .int fz, .ref m1, .ref m2, .ref m3, .ref m4, .ref m5, .ref m6, .ref m7, .ref m8, .ref m9, .ref m10, .ref m11, .ref m12, .ref m13], ai m1 cyI 21 (f3 fh uh th), ai m2 cyI 21 (f3 fg ug tg), ai m3 cyI 21 (f3 ff uf tf), ai m4 cyI 21 (f3 fk uk tk), ai m5 cyI 3 (t3 vs us ts), ai m6 cyI 3 (t3 vb ub tb), ai m7 cyI 3 (t3 vd ud td), ai m8 cyI 3 (nF ct), ai m9 cyI 36 (q12 kd), ai m10 cyI 36 (q12 vl), ai m11 cyI 7 (sel (inC n x ∧ -1 ≤ v ∧ v ≤ 99) (upd fr x.toNatClampNeg v) fr), ai m12 cyI 3 fp, ai m13 cyI 3 bp])) 0 0 (va_A [ob m0 4 [.int (nI n), .int kn, .int fz, .ref m1, .ref m2, .ref m3, .ref m4, .ref m5, .ref m6, .ref m7, .ref m8, .ref m9, .ref m10, .ref m11, .ref m12, .ref m13], ai m1 cyI 21 (f3 fh uh th), ai m2 cyI 21 (f3 fg ug tg), ai m3 cyI 21 (f3 ff uf tf), ai m4 cyI 21 (f3 fk uk tk), ai m5 cyI 3 (t3 vs us ts), ai m6 cyI 3 (t3 vb ub tb), ai m7 cyI 3 (t3 vd ud td), ai m8 cyI 3 (nF ct), ai m9 cyI 36 (q12 kd), ai m10 cyI 36 (q12 vl), ai m11 cyI 7 fr, ai m12 cyI 3 fp, ai m13 cyI 3 bp] sz) := by
  refine ra_metW (cc := cX4_read) (maxL := 4) (Qc := fun A => qI dC dI cyI cyA (fun (r : Int32) (_ : Unit) => r = sel (inC n x ∧ -1 ≤ v ∧ v ≤ 99) (fr x.toNatClampNeg) (-9)) A (fun _ => [ob m0 4 [.int (nI n), .int kn, .int fz, .ref m1, .ref m2, .ref m3, .ref m4, .ref m5, .ref m6, .ref m7, .ref m8, .ref m9, .ref m10, .ref m11, .ref m12, .ref m13], ai m1 cyI 21 (f3 fh uh th), ai m2 cyI 21 (f3 fg ug tg), ai m3 cyI 21 (f3 ff uf tf), ai m4 cyI 21 (f3 fk uk tk), ai m5 cyI 3 (t3 vs us ts), ai m6 cyI 3 (t3 vb ub tb), ai m7 cyI 3 (t3 vd ud td), ai m8 cyI 3 (nF ct), ai m9 cyI 36 (q12 kd), ai m10 cyI 36 (q12 vl), ai m11 cyI 7 (sel (inC n x ∧ -1 ≤ v ∧ v ≤ 99) (upd fr x.toNatClampNeg v) fr), ai m12 cyI 3 fp, ai m13 cyI 3 bp])) (by decide) rfl (Nat.le_of_ble_eq_true rfl) ?_
  intro p e s m below meth c A args Q hQ hx hb hr hlocks hml hts hown hnm hK hN hP hD hA hS ls hl
  have hl : lv_has ls 4 [(0, .ref m0), (1, .int x), (2, .int v)] := hl
  have hown : s.vm.findClass RX4 = some m.cls := hown
  have hw_1 := hts (.fieldLink RX4 47 "DuneBenchModel" "reading" "[I") (by decide +kernel)
  have hin_X4 : ∀ w ∈ u_ws RX4 TX4 16, w ∈ wsX4_read := by decide +kernel
  obtain ⟨H, hHe⟩ : ∃ H, H = s.heap := ⟨_, rfl⟩
  obtain ⟨locs, hLe⟩ : ∃ locs : List Loc, locs = [] := ⟨_, rfl⟩
  have hP : va_P (dC, dI) vwCl [ob m0 4 [.int (nI n), .int kn, .int fz, .ref m1, .ref m2, .ref m3, .ref m4, .ref m5, .ref m6, .ref m7, .ref m8, .ref m9, .ref m10, .ref m11, .ref m12, .ref m13], ai m1 cyI 21 (f3 fh uh th), ai m2 cyI 21 (f3 fg ug tg), ai m3 cyI 21 (f3 ff uf tf), ai m4 cyI 21 (f3 fk uk tk), ai m5 cyI 3 (t3 vs us ts), ai m6 cyI 3 (t3 vb ub tb), ai m7 cyI 3 (t3 vd ud td), ai m8 cyI 3 (nF ct), ai m9 cyI 36 (q12 kd), ai m10 cyI 36 (q12 vl), ai m11 cyI 7 fr, ai m12 cyI 3 fp, ai m13 cyI 3 bp] H := by rw [hHe]; exact hP
  have hS : va_S A s.heap H locs := by rw [hHe, hLe]; exact hS
  suffices hgo : W p l e (rm 2) s m args below meth c H locs 0 0 Q (F0 m 0 ls []) by rw [hHe, hLe] at hgo; exact hgo
  refine lv_aload_n hx hb dX4_read_0 rfl (lv_at hl 0 rfl) ?_
  refine lv_iload_n hx hb dX4_read_1 rfl (lv_at hl 1 rfl) ?_
  refine ra_cR (q := (RX4, TX4, 16)) (ci := 4) (As := [.int x]) (rest := []) (wc := [ob m0 4 [.int (nI n), .int kn, .int fz, .ref m1, .ref m2, .ref m3, .ref m4, .ref m5, .ref m6, .ref m7, .ref m8, .ref m9, .ref m10, .ref m11, .ref m12, .ref m13], ai m1 cyI 21 (f3 fh uh th), ai m2 cyI 21 (f3 fg ug tg), ai m3 cyI 21 (f3 ff uf tf), ai m4 cyI 21 (f3 fk uk tk), ai m5 cyI 3 (t3 vs us ts), ai m6 cyI 3 (t3 vb ub tb), ai m7 cyI 3 (t3 vd ud td), ai m8 cyI 3 (nF ct), ai m9 cyI 36 (q12 kd), ai m10 cyI 36 (q12 vl), ai m11 cyI 7 fr, ai m12 cyI 3 fp, ai m13 cyI 3 bp]) ⟨hx, hb, hml, hown, hts⟩ (c_X4_isCell l dC dI cyI cyA m0 m1 m2 m3 m4 m5 m6 m7 m8 m9 m10 m11 m12 m13 n kn fz fh fg ff fk uh ug uf uk th tg tf tk vs vb vd us ub ud ts tb td ct kd vl fr fp bp x (by omega) (by omega)) (cwV 1 hts gX4_read_X4_isCell rfl rfl rfl (by decide +kernel) ⟨Nat.le_of_ble_eq_true rfl, Nat.le_of_ble_eq_true rfl⟩) hK hN hP [0, 1, 2, 3, 4, 5, 6, 7, 8, 9, 10, 11, 12, 13] rfl rfl rfl rfl hl.1 rfl (Nat.le_of_ble_eq_true rfl) dX4_read_2 ⟨Nat.le_of_ble_eq_true rfl, Nat.le_of_ble_eq_true rfl⟩ ?_
  refine lv_if_eq (tgt := 18) hx hb dX4_read_5 (by decide) (fun c_5 => ?_) (fun c_5 => ?_)
  · ---- to 18
    have c_5 := bi_0 c_5
    refine lv_bipush (v := (-9)) hx hb dX4_read_18 (by decide) ?_
    rw [hQ]
    simp only [sel_f (show ¬ (inC n x ∧ -1 ≤ v ∧ v ≤ 99) from fun q => c_5 q.1)]
    exact ra_iretW () hx hb hr hlocks rfl hK hP hD hS rfl dX4_read_20
  · ---- on
    have c_5 := bi_1 c_5
    refine lv_iload_n hx hb dX4_read_8 rfl (lv_at hl 2 rfl) ?_
    refine lv_iconst (v := (-1)) hx hb dX4_read_9 (by decide) ?_
    refine lv_bipush (v := 99) hx hb dX4_read_10 (by decide) ?_
    refine ra_cS (As := [.int v, .int (-1), .int 99]) (rest := []) ⟨hx, hb, hml, hown, hts⟩ (c_X4_in l v (-1) 99 ) (va_cwS 3 hts gX4_read_X4_in rfl rfl rfl (by decide +kernel) ⟨Nat.le_of_ble_eq_true rfl, Nat.le_of_ble_eq_true rfl⟩) hN rfl hl.1 rfl (Nat.le_of_ble_eq_true rfl) dX4_read_12 ⟨Nat.le_of_ble_eq_true rfl, Nat.le_of_ble_eq_true rfl⟩ ?_
    refine lv_if_ne (tgt := 21) hx hb dX4_read_15 (by decide) (fun c_15 => ?_) (fun c_15 => ?_)
    · ---- to 21
      have c_15 := bi_1 c_15
      obtain ⟨j, hj, rfl⟩ := i32_natn c_5 hn
      refine lv_aload_n hx hb dX4_read_21 rfl (lv_at hl 0 rfl) ?_
      refine va_get (D := (dC, dI)) (ci := 4) (v := .ref m11) (C := RX4) (T := TX4) (N := 16) hx hb hts hin_X4 hown hK hP 0 rfl rfl 13 (by decide) hw_1 (fun _ h9 => h9) rfl dX4_read_22 ?_
      refine lv_iload_n hx hb dX4_read_25 rfl (lv_at hl 1 rfl) ?_
      refine ra_iald hx hb hK hP 11 rfl j rfl (by omega) (Nat.le_of_ble_eq_true rfl) dX4_read_26 ?_
      refine lv_istore_n (lv' := [(3, .int (fr j)), (0, .ref m0), (1, .int (nI j)), (2, .int v)]) hx hb dX4_read_27 rfl hl (by decide) rfl (fun ls hl => ?_)
      refine lv_aload_n hx hb dX4_read_28 rfl (lv_at hl 1 rfl) ?_
      refine va_get (D := (dC, dI)) (ci := 4) (v := .ref m11) (C := RX4) (T := TX4) (N := 16) hx hb hts hin_X4 hown hK hP 0 rfl rfl 13 (by decide) hw_1 (fun _ h9 => h9) rfl dX4_read_29 ?_
      refine lv_iload_n hx hb dX4_read_32 rfl (lv_at hl 2 rfl) ?_
      refine lv_iload_n hx hb dX4_read_33 rfl (lv_at hl 3 rfl) ?_
      refine ra_iast hx hb hK hP hD hS 11 rfl j rfl (by omega) (Nat.le_of_ble_eq_true rfl) dX4_read_34 (fun H locs hP hD hS => ?_)
      have hP : va_P (dC, dI) vwCl [ob m0 4 [.int (nI n), .int kn, .int fz, .ref m1, .ref m2, .ref m3, .ref m4, .ref m5, .ref m6, .ref m7, .ref m8, .ref m9, .ref m10, .ref m11, .ref m12, .ref m13], ai m1 cyI 21 (f3 fh uh th), ai m2 cyI 21 (f3 fg ug tg), ai m3 cyI 21 (f3 ff uf tf), ai m4 cyI 21 (f3 fk uk tk), ai m5 cyI 3 (t3 vs us ts), ai m6 cyI 3 (t3 vb ub tb), ai m7 cyI 3 (t3 vd ud td), ai m8 cyI 3 (nF ct), ai m9 cyI 36 (q12 kd), ai m10 cyI 36 (q12 vl), ai m11 cyI 7 (upd fr j v), ai m12 cyI 3 fp, ai m13 cyI 3 bp] H := hP
      have hD : va_D A [ob m0 4 [.int (nI n), .int kn, .int fz, .ref m1, .ref m2, .ref m3, .ref m4, .ref m5, .ref m6, .ref m7, .ref m8, .ref m9, .ref m10, .ref m11, .ref m12, .ref m13], ai m1 cyI 21 (f3 fh uh th), ai m2 cyI 21 (f3 fg ug tg), ai m3 cyI 21 (f3 ff uf tf), ai m4 cyI 21 (f3 fk uk tk), ai m5 cyI 3 (t3 vs us ts), ai m6 cyI 3 (t3 vb ub tb), ai m7 cyI 3 (t3 vd ud td), ai m8 cyI 3 (nF ct), ai m9 cyI 36 (q12 kd), ai m10 cyI 36 (q12 vl), ai m11 cyI 7 (upd fr j v), ai m12 cyI 3 fp, ai m13 cyI 3 bp] := hD
      refine lv_iload_n hx hb dX4_read_35 rfl (lv_at hl 0 rfl) ?_
      rw [hQ]
      simp only [sel_t (show inC n (nI j) ∧ -1 ≤ v ∧ v ≤ 99 from ⟨c_5, c_15⟩), nI_cl (show j ≤ 20 by omega)]
      exact ra_iretW () hx hb hr hlocks rfl hK hP hD hS rfl dX4_read_36
    · ---- on
      have c_15 := bi_0 c_15
      refine lv_bipush (v := (-9)) hx hb dX4_read_18 (by decide) ?_
      rw [hQ]
      simp only [sel_f (show ¬ (inC n x ∧ -1 ≤ v ∧ v ≤ 99) from fun q => c_15 q.2)]
      exact ra_iretW () hx hb hr hlocks rfl hK hP hD hS rfl dX4_read_20

set_option maxHeartbeats 4000000 in
set_option maxRecDepth 100000 in
theorem c_X4_take (l : Launch) (dC : Nat → ClassId) (dI : Nat → Nat → Nat) (cyI cyA : ClassId) (m0 m1 m2 m3 m4 m5 m6 m7 m8 m9 m10 m11 m12 m13 n : Nat) (kn fz : Int32) (fh fg ff fk uh ug uf uk th tg tf tk : FN) (vs vb vd us ub ud ts tb td : Int32) (ct : Nat → Nat) (kd vl : Nat → FN) (fr fp bp : FN) (hn : n ≤ 7) (hn1 : 1 ≤ n) (hct : ∀ w, w < 3 → ct w ≤ 12) (sz : Nat) : Met l yX4_take wsX4_take (rm 0) (kW dC dI cyI cyA [.ref m0] sz [ob m0 4 [.int (nI n), .int kn, .int fz, .ref m1, .ref m2, .ref m3, .ref m4, .ref m5, .ref m6, .ref m7, .ref m8, .ref m9, .ref m10, .ref m11, .ref m12, .ref m13], ai m1 cyI 21 (f3 fh uh th), ai m2 cyI 21 (f3 fg ug tg), ai m3 cyI 21 (f3 ff uf tf), ai m4 cyI 21 (f3 fk uk tk), ai m5 cyI 3 (t3 vs us ts), ai m6 cyI 3 (t3 vb ub tb), ai m7 cyI 3 (t3 vd ud td), ai m8 cyI 3 (nF ct), ai m9 cyI 36 (q12 kd), ai m10 cyI 36 (q12 vl), ai m11 cyI 7 fr, ai m12 cyI 3 fp, ai m13 cyI 3 bp]) (qI dC dI cyI cyA (fun (r : Int32) (_ : Unit) => r = (tkF fh n 0 fr 0).1) (va_A [ob m0 4 [.int (nI n), .int kn, .int fz, .ref m1, .ref m2, .ref m3, .ref m4, .ref m5, .ref m6, .ref m7, .ref m8, .ref m9, .ref m10, .ref m11, .ref m12, .ref m13], ai m1 cyI 21 (f3 fh uh th), ai m2 cyI 21 (f3 fg ug tg), ai m3 cyI 21 (f3 ff uf tf), ai m4 cyI 21 (f3 fk uk tk), ai m5 cyI 3 (t3 vs us ts), ai m6 cyI 3 (t3 vb ub tb), ai m7 cyI 3 (t3 vd ud td), ai m8 cyI 3 (nF ct), ai m9 cyI 36 (q12 kd), ai m10 cyI 36 (q12 vl), ai m11 cyI 7 fr, ai m12 cyI 3 fp, ai m13 cyI 3 bp] sz) (fun _ => [ob m0 4 [.int (nI n), .int kn, .int fz, .ref m1, .ref m2, .ref m3, .ref m4, .ref m5, .ref m6, .ref m7, .ref m8, .ref m9, .ref m10, .ref m11, .ref m12, .ref m13], ai m1 cyI 21 (f3 fh uh th), ai m2 cyI 21 (f3 fg ug tg), ai m3 cyI 21 (f3 ff uf tf), ai m4 cyI 21 (f3 fk uk tk), ai m5 cyI 3 (t3 vs us ts), ai m6 cyI 3 (t3 vb ub tb), ai m7 cyI 3 (t3 vd ud td), ai m8 cyI 3 (nF ct), ai m9 cyI 36 (q12 kd), ai m10 cyI 36 (q12 vl), ai m11 cyI 7 ((tkF fh n 0 fr 0).2), ai m12 cyI 3 fp, ai m13 cyI 3 bp])) 0 0 (va_A [ob m0 4 [.int (nI n), .int kn, .int fz, .ref m1, .ref m2, .ref m3, .ref m4, .ref m5, .ref m6, .ref m7, .ref m8, .ref m9, .ref m10, .ref m11, .ref m12, .ref m13], ai m1 cyI 21 (f3 fh uh th), ai m2 cyI 21 (f3 fg ug tg), ai m3 cyI 21 (f3 ff uf tf), ai m4 cyI 21 (f3 fk uk tk), ai m5 cyI 3 (t3 vs us ts), ai m6 cyI 3 (t3 vb ub tb), ai m7 cyI 3 (t3 vd ud td), ai m8 cyI 3 (nF ct), ai m9 cyI 36 (q12 kd), ai m10 cyI 36 (q12 vl), ai m11 cyI 7 fr, ai m12 cyI 3 fp, ai m13 cyI 3 bp] sz) := by
  refine ra_metW (cc := cX4_take) (maxL := 3) (Qc := fun A => qI dC dI cyI cyA (fun (r : Int32) (_ : Unit) => r = (tkF fh n 0 fr 0).1) A (fun _ => [ob m0 4 [.int (nI n), .int kn, .int fz, .ref m1, .ref m2, .ref m3, .ref m4, .ref m5, .ref m6, .ref m7, .ref m8, .ref m9, .ref m10, .ref m11, .ref m12, .ref m13], ai m1 cyI 21 (f3 fh uh th), ai m2 cyI 21 (f3 fg ug tg), ai m3 cyI 21 (f3 ff uf tf), ai m4 cyI 21 (f3 fk uk tk), ai m5 cyI 3 (t3 vs us ts), ai m6 cyI 3 (t3 vb ub tb), ai m7 cyI 3 (t3 vd ud td), ai m8 cyI 3 (nF ct), ai m9 cyI 36 (q12 kd), ai m10 cyI 36 (q12 vl), ai m11 cyI 7 ((tkF fh n 0 fr 0).2), ai m12 cyI 3 fp, ai m13 cyI 3 bp])) (by decide) rfl (Nat.le_of_ble_eq_true rfl) ?_
  intro p e s m below meth c A args Q hQ hx hb hr hlocks hml hts hown hnm hK hN hP hD hA hS ls hl
  have hl : lv_has ls 3 [(0, .ref m0)] := hl
  have hown : s.vm.findClass RX4 = some m.cls := hown
  have hw_1 := hts (.fieldLink RX4 7 "DuneBenchModel" "n" "I") (by decide +kernel)
  have hin_X4 : ∀ w ∈ u_ws RX4 TX4 16, w ∈ wsX4_take := by decide +kernel
  have hw_3 := hts (.fieldLink RX4 47 "DuneBenchModel" "reading" "[I") (by decide +kernel)
  have hw_4 := hts (.fieldLink RX4 16 "DuneBenchModel" "height" "[I") (by decide +kernel)
  obtain ⟨H, hHe⟩ : ∃ H, H = s.heap := ⟨_, rfl⟩
  obtain ⟨locs, hLe⟩ : ∃ locs : List Loc, locs = [] := ⟨_, rfl⟩
  have hP : va_P (dC, dI) vwCl [ob m0 4 [.int (nI n), .int kn, .int fz, .ref m1, .ref m2, .ref m3, .ref m4, .ref m5, .ref m6, .ref m7, .ref m8, .ref m9, .ref m10, .ref m11, .ref m12, .ref m13], ai m1 cyI 21 (f3 fh uh th), ai m2 cyI 21 (f3 fg ug tg), ai m3 cyI 21 (f3 ff uf tf), ai m4 cyI 21 (f3 fk uk tk), ai m5 cyI 3 (t3 vs us ts), ai m6 cyI 3 (t3 vb ub tb), ai m7 cyI 3 (t3 vd ud td), ai m8 cyI 3 (nF ct), ai m9 cyI 36 (q12 kd), ai m10 cyI 36 (q12 vl), ai m11 cyI 7 fr, ai m12 cyI 3 fp, ai m13 cyI 3 bp] H := by rw [hHe]; exact hP
  have hS : va_S A s.heap H locs := by rw [hHe, hLe]; exact hS
  suffices hgo : W p l e (rm 0) s m args below meth c H locs 0 0 Q (F0 m 0 ls []) by rw [hHe, hLe] at hgo; exact hgo
  refine lv_iconst (v := 0) hx hb dX4_take_0 (by decide) ?_
  refine lv_istore_n (lv' := [(1, .int 0), (0, .ref m0)]) hx hb dX4_take_1 rfl hl (by decide) rfl (fun ls hl => ?_)
  refine lv_iconst (v := 0) hx hb dX4_take_2 (by decide) ?_
  refine lv_istore_n (lv' := [(2, .int 0), (1, .int 0), (0, .ref m0)]) hx hb dX4_take_3 rfl hl (by decide) rfl (fun ls hl => ?_)
  have L_4 : ∀ (n9 : Nat) (i : Nat) (fr0 : FN) (x : Int32), (i ≤ n) → (tkF fh (n - i) i fr0 x = tkF fh n 0 fr 0) → (n - i) < n9 → ∀ (H : Heap) (locs : List Loc), va_P (dC, dI) vwCl [ob m0 4 [.int (nI n), .int kn, .int fz, .ref m1, .ref m2, .ref m3, .ref m4, .ref m5, .ref m6, .ref m7, .ref m8, .ref m9, .ref m10, .ref m11, .ref m12, .ref m13], ai m1 cyI 21 (f3 fh uh th), ai m2 cyI 21 (f3 fg ug tg), ai m3 cyI 21 (f3 ff uf tf), ai m4 cyI 21 (f3 fk uk tk), ai m5 cyI 3 (t3 vs us ts), ai m6 cyI 3 (t3 vb ub tb), ai m7 cyI 3 (t3 vd ud td), ai m8 cyI 3 (nF ct), ai m9 cyI 36 (q12 kd), ai m10 cyI 36 (q12 vl), ai m11 cyI 7 fr0, ai m12 cyI 3 fp, ai m13 cyI 3 bp] H → va_D A [ob m0 4 [.int (nI n), .int kn, .int fz, .ref m1, .ref m2, .ref m3, .ref m4, .ref m5, .ref m6, .ref m7, .ref m8, .ref m9, .ref m10, .ref m11, .ref m12, .ref m13], ai m1 cyI 21 (f3 fh uh th), ai m2 cyI 21 (f3 fg ug tg), ai m3 cyI 21 (f3 ff uf tf), ai m4 cyI 21 (f3 fk uk tk), ai m5 cyI 3 (t3 vs us ts), ai m6 cyI 3 (t3 vb ub tb), ai m7 cyI 3 (t3 vd ud td), ai m8 cyI 3 (nF ct), ai m9 cyI 36 (q12 kd), ai m10 cyI 36 (q12 vl), ai m11 cyI 7 fr0, ai m12 cyI 3 fp, ai m13 cyI 3 bp] → va_S A s.heap H locs → ∀ ls : Array Slot, lv_has ls 3 [(0, .ref m0), (1, .int x), (2, .int (nI i))] → W p l e (rm 0) s m args below meth c H locs 0 0 Q (F0 m 4 ls []) := by
    intro n9
    induction n9 with
    | zero =>
      intro i fr0 x hi he hm9
      exact absurd hm9 (Nat.not_lt_zero _)
    | succ n9 ih_4 =>
      intro i fr0 x hi he hm9 H locs hP hD hS ls hl
      refine lv_iload_n hx hb dX4_take_4 rfl (lv_at hl 2 rfl) ?_
      refine lv_aload_n hx hb dX4_take_5 rfl (lv_at hl 0 rfl) ?_
      refine va_get (D := (dC, dI)) (ci := 4) (v := .int (nI n)) (C := RX4) (T := TX4) (N := 16) hx hb hts hin_X4 hown hK hP 0 rfl rfl 0 (by decide) hw_1 (fun _ h9 => h9) rfl dX4_take_6 ?_
      refine lv_icmp_ge (tgt := 53) hx hb dX4_take_9 (by decide) (fun c_9 => ?_) (fun c_9 => ?_)
      · ---- to 53
        have n_9 := (nq_le n i (by omega) (by omega)).mp c_9
        have he : (x, fr0) = tkF fh n 0 fr 0 := by rw [← he, show n - i = 0 by omega]; rfl
        refine lv_iload_n hx hb dX4_take_53 rfl (lv_at hl 1 rfl) ?_
        rw [hQ]
        rw [← he]
        exact ra_iretW () hx hb hr hlocks rfl hK hP hD hS rfl dX4_take_54
      · ---- on
        have n_9 := (nq_le_n n i (by omega) (by omega)).mp c_9
        refine lv_iload_n hx hb dX4_take_12 rfl (lv_at hl 1 rfl) ?_
        refine lv_aload_n hx hb dX4_take_13 rfl (lv_at hl 0 rfl) ?_
        refine va_get (D := (dC, dI)) (ci := 4) (v := .ref m11) (C := RX4) (T := TX4) (N := 16) hx hb hts hin_X4 hown hK hP 0 rfl rfl 13 (by decide) hw_3 (fun _ h9 => h9) rfl dX4_take_14 ?_
        refine lv_iload_n hx hb dX4_take_17 rfl (lv_at hl 2 rfl) ?_
        refine ra_iald hx hb hK hP 11 rfl i rfl (by omega) (Nat.le_of_ble_eq_true rfl) dX4_take_18 ?_
        refine lv_aload_n hx hb dX4_take_19 rfl (lv_at hl 0 rfl) ?_
        refine va_get (D := (dC, dI)) (ci := 4) (v := .ref m1) (C := RX4) (T := TX4) (N := 16) hx hb hts hin_X4 hown hK hP 0 rfl rfl 3 (by decide) hw_4 (fun _ h9 => h9) rfl dX4_take_20 ?_
        refine lv_iload_n hx hb dX4_take_23 rfl (lv_at hl 2 rfl) ?_
        refine ra_iald hx hb hK hP 1 rfl i rfl (by omega) (Nat.le_of_ble_eq_true rfl) dX4_take_24 ?_
        refine ra_top (fh i) (f3_r0 _ _ _ (by omega)) ?_
        refine lv_icmp_eq (tgt := 32) hx hb dX4_take_25 (by decide) (fun c_25 => ?_) (fun c_25 => ?_)
        · ---- to 32
          refine lv_iconst (v := 0) hx hb dX4_take_32 (by decide) ?_
          refine lv_iadd hx hb dX4_take_33 ?_
          refine lv_istore_n (lv' := [(1, .int (x + 0)), (0, .ref m0), (2, .int (nI i))]) hx hb dX4_take_34 rfl hl (by decide) rfl (fun ls hl => ?_)
          refine lv_aload_n hx hb dX4_take_35 rfl (lv_at hl 1 rfl) ?_
          refine va_get (D := (dC, dI)) (ci := 4) (v := .ref m11) (C := RX4) (T := TX4) (N := 16) hx hb hts hin_X4 hown hK hP 0 rfl rfl 13 (by decide) hw_3 (fun _ h9 => h9) rfl dX4_take_36 ?_
          refine lv_iload_n hx hb dX4_take_39 rfl (lv_at hl 2 rfl) ?_
          refine lv_aload_n hx hb dX4_take_40 rfl (lv_at hl 1 rfl) ?_
          refine va_get (D := (dC, dI)) (ci := 4) (v := .ref m1) (C := RX4) (T := TX4) (N := 16) hx hb hts hin_X4 hown hK hP 0 rfl rfl 3 (by decide) hw_4 (fun _ h9 => h9) rfl dX4_take_41 ?_
          refine lv_iload_n hx hb dX4_take_44 rfl (lv_at hl 2 rfl) ?_
          refine ra_iald hx hb hK hP 1 rfl i rfl (by omega) (Nat.le_of_ble_eq_true rfl) dX4_take_45 ?_
          refine ra_top (fh i) (f3_r0 _ _ _ (by omega)) ?_
          refine ra_iast hx hb hK hP hD hS 11 rfl i rfl (by omega) (Nat.le_of_ble_eq_true rfl) dX4_take_46 (fun H locs hP hD hS => ?_)
          have hP : va_P (dC, dI) vwCl [ob m0 4 [.int (nI n), .int kn, .int fz, .ref m1, .ref m2, .ref m3, .ref m4, .ref m5, .ref m6, .ref m7, .ref m8, .ref m9, .ref m10, .ref m11, .ref m12, .ref m13], ai m1 cyI 21 (f3 fh uh th), ai m2 cyI 21 (f3 fg ug tg), ai m3 cyI 21 (f3 ff uf tf), ai m4 cyI 21 (f3 fk uk tk), ai m5 cyI 3 (t3 vs us ts), ai m6 cyI 3 (t3 vb ub tb), ai m7 cyI 3 (t3 vd ud td), ai m8 cyI 3 (nF ct), ai m9 cyI 36 (q12 kd), ai m10 cyI 36 (q12 vl), ai m11 cyI 7 (upd fr0 i (fh i)), ai m12 cyI 3 fp, ai m13 cyI 3 bp] H := hP
          have hD : va_D A [ob m0 4 [.int (nI n), .int kn, .int fz, .ref m1, .ref m2, .ref m3, .ref m4, .ref m5, .ref m6, .ref m7, .ref m8, .ref m9, .ref m10, .ref m11, .ref m12, .ref m13], ai m1 cyI 21 (f3 fh uh th), ai m2 cyI 21 (f3 fg ug tg), ai m3 cyI 21 (f3 ff uf tf), ai m4 cyI 21 (f3 fk uk tk), ai m5 cyI 3 (t3 vs us ts), ai m6 cyI 3 (t3 vb ub tb), ai m7 cyI 3 (t3 vd ud td), ai m8 cyI 3 (nF ct), ai m9 cyI 36 (q12 kd), ai m10 cyI 36 (q12 vl), ai m11 cyI 7 (upd fr0 i (fh i)), ai m12 cyI 3 fp, ai m13 cyI 3 bp] := hD
          refine lv_iinc (v := nI (i + 1)) (lv' := [(2, .int (nI (i + 1))), (1, .int (x + 0)), (0, .ref m0)]) hx hb dX4_take_47 hl (k := 2) rfl (ra_inc1 _) (by decide) rfl (fun ls hl => ?_)
          refine lv_goto (tgt := 4) hx hb dX4_take_50 (by decide) ?_
          exact ih_4 (i + 1) (upd fr0 i (fh i)) (x + 0) (by omega) (by rw [← he, show n - i = n - (i + 1) + 1 by omega]; show _ = tkF fh _ _ _ (if _ then _ else _); first | (rw [if_neg c_25]; done) | (rw [if_pos c_25, Int32.add_zero]; done)) (by omega) H locs hP hD hS ls (lv_sub hl [2, 1, 0] rfl)
        · ---- on
          refine lv_iconst (v := 1) hx hb dX4_take_28 (by decide) ?_
          refine lv_goto (tgt := 33) hx hb dX4_take_29 (by decide) ?_
          refine lv_iadd hx hb dX4_take_33 ?_
          refine lv_istore_n (lv' := [(1, .int (x + 1)), (0, .ref m0), (2, .int (nI i))]) hx hb dX4_take_34 rfl hl (by decide) rfl (fun ls hl => ?_)
          refine lv_aload_n hx hb dX4_take_35 rfl (lv_at hl 1 rfl) ?_
          refine va_get (D := (dC, dI)) (ci := 4) (v := .ref m11) (C := RX4) (T := TX4) (N := 16) hx hb hts hin_X4 hown hK hP 0 rfl rfl 13 (by decide) hw_3 (fun _ h9 => h9) rfl dX4_take_36 ?_
          refine lv_iload_n hx hb dX4_take_39 rfl (lv_at hl 2 rfl) ?_
          refine lv_aload_n hx hb dX4_take_40 rfl (lv_at hl 1 rfl) ?_
          refine va_get (D := (dC, dI)) (ci := 4) (v := .ref m1) (C := RX4) (T := TX4) (N := 16) hx hb hts hin_X4 hown hK hP 0 rfl rfl 3 (by decide) hw_4 (fun _ h9 => h9) rfl dX4_take_41 ?_
          refine lv_iload_n hx hb dX4_take_44 rfl (lv_at hl 2 rfl) ?_
          refine ra_iald hx hb hK hP 1 rfl i rfl (by omega) (Nat.le_of_ble_eq_true rfl) dX4_take_45 ?_
          refine ra_top (fh i) (f3_r0 _ _ _ (by omega)) ?_
          refine ra_iast hx hb hK hP hD hS 11 rfl i rfl (by omega) (Nat.le_of_ble_eq_true rfl) dX4_take_46 (fun H locs hP hD hS => ?_)
          have hP : va_P (dC, dI) vwCl [ob m0 4 [.int (nI n), .int kn, .int fz, .ref m1, .ref m2, .ref m3, .ref m4, .ref m5, .ref m6, .ref m7, .ref m8, .ref m9, .ref m10, .ref m11, .ref m12, .ref m13], ai m1 cyI 21 (f3 fh uh th), ai m2 cyI 21 (f3 fg ug tg), ai m3 cyI 21 (f3 ff uf tf), ai m4 cyI 21 (f3 fk uk tk), ai m5 cyI 3 (t3 vs us ts), ai m6 cyI 3 (t3 vb ub tb), ai m7 cyI 3 (t3 vd ud td), ai m8 cyI 3 (nF ct), ai m9 cyI 36 (q12 kd), ai m10 cyI 36 (q12 vl), ai m11 cyI 7 (upd fr0 i (fh i)), ai m12 cyI 3 fp, ai m13 cyI 3 bp] H := hP
          have hD : va_D A [ob m0 4 [.int (nI n), .int kn, .int fz, .ref m1, .ref m2, .ref m3, .ref m4, .ref m5, .ref m6, .ref m7, .ref m8, .ref m9, .ref m10, .ref m11, .ref m12, .ref m13], ai m1 cyI 21 (f3 fh uh th), ai m2 cyI 21 (f3 fg ug tg), ai m3 cyI 21 (f3 ff uf tf), ai m4 cyI 21 (f3 fk uk tk), ai m5 cyI 3 (t3 vs us ts), ai m6 cyI 3 (t3 vb ub tb), ai m7 cyI 3 (t3 vd ud td), ai m8 cyI 3 (nF ct), ai m9 cyI 36 (q12 kd), ai m10 cyI 36 (q12 vl), ai m11 cyI 7 (upd fr0 i (fh i)), ai m12 cyI 3 fp, ai m13 cyI 3 bp] := hD
          refine lv_iinc (v := nI (i + 1)) (lv' := [(2, .int (nI (i + 1))), (1, .int (x + 1)), (0, .ref m0)]) hx hb dX4_take_47 hl (k := 2) rfl (ra_inc1 _) (by decide) rfl (fun ls hl => ?_)
          refine lv_goto (tgt := 4) hx hb dX4_take_50 (by decide) ?_
          exact ih_4 (i + 1) (upd fr0 i (fh i)) (x + 1) (by omega) (by rw [← he, show n - i = n - (i + 1) + 1 by omega]; show _ = tkF fh _ _ _ (if _ then _ else _); first | (rw [if_neg c_25]; done) | (rw [if_pos c_25, Int32.add_zero]; done)) (by omega) H locs hP hD hS ls (lv_sub hl [2, 1, 0] rfl)
  exact L_4 _ 0 fr 0 (by omega) rfl (Nat.lt_succ_self _) H locs hP hD hS ls (lv_sub hl [2, 1, 0] rfl)

set_option maxHeartbeats 4000000 in
set_option maxRecDepth 100000 in
theorem c_X4_readings (l : Launch) (dC : Nat → ClassId) (dI : Nat → Nat → Nat) (cyI cyA : ClassId) (m0 m1 m2 m3 m4 m5 m6 m7 m8 m9 m10 m11 m12 m13 n : Nat) (kn fz : Int32) (fh fg ff fk uh ug uf uk th tg tf tk : FN) (vs vb vd us ub ud ts tb td : Int32) (ct : Nat → Nat) (kd vl : Nat → FN) (fr fp bp : FN) (hn : n ≤ 7) : Met l yX4_readings wsX4_readings (rm 0) (kR dC dI cyI cyA [.ref m0] [ob m0 4 [.int (nI n), .int kn, .int fz, .ref m1, .ref m2, .ref m3, .ref m4, .ref m5, .ref m6, .ref m7, .ref m8, .ref m9, .ref m10, .ref m11, .ref m12, .ref m13], ai m1 cyI 21 (f3 fh uh th), ai m2 cyI 21 (f3 fg ug tg), ai m3 cyI 21 (f3 ff uf tf), ai m4 cyI 21 (f3 fk uk tk), ai m5 cyI 3 (t3 vs us ts), ai m6 cyI 3 (t3 vb ub tb), ai m7 cyI 3 (t3 vd ud td), ai m8 cyI 3 (nF ct), ai m9 cyI 36 (q12 kd), ai m10 cyI 36 (q12 vl), ai m11 cyI 7 fr, ai m12 cyI 3 fp, ai m13 cyI 3 bp]) (QcRead (nI (cntM fr n 0 0))) 0 0 (fun _ => False) := by
  refine ra_metR (cc := cX4_readings) (maxL := 3) (by decide) rfl (Nat.le_of_ble_eq_true rfl) ?_
  intro p e s m below meth c args Q hQ hx hb hr hlocks hml hts hown hK hN hP ls hl
  have hl : lv_has ls 3 [(0, .ref m0)] := hl
  have hown : s.vm.findClass RX4 = some m.cls := hown
  have hw_1 := hts (.fieldLink RX4 7 "DuneBenchModel" "n" "I") (by decide +kernel)
  have hin_X4 : ∀ w ∈ u_ws RX4 TX4 16, w ∈ wsX4_readings := by decide +kernel
  have hw_3 := hts (.fieldLink RX4 47 "DuneBenchModel" "reading" "[I") (by decide +kernel)
  refine lv_iconst (v := 0) hx hb dX4_readings_0 (by decide) ?_
  refine lv_istore_n (lv' := [(1, .int 0), (0, .ref m0)]) hx hb dX4_readings_1 rfl hl (by decide) rfl (fun ls hl => ?_)
  refine lv_iconst (v := 0) hx hb dX4_readings_2 (by decide) ?_
  refine lv_istore_n (lv' := [(2, .int 0), (1, .int 0), (0, .ref m0)]) hx hb dX4_readings_3 rfl hl (by decide) rfl (fun ls hl => ?_)
  have L_4 : ∀ (n9 : Nat) (i : Nat) (x : Nat), (i ≤ n) → (cntM fr (n - i) i x = cntM fr n 0 0) → (n - i) < n9 → ∀ ls : Array Slot, lv_has ls 3 [(0, .ref m0), (1, .int (nI x)), (2, .int (nI i))] → W p l e (rm 0) s m args below meth c s.heap [] 0 0 Q (F0 m 4 ls []) := by
    intro n9
    induction n9 with
    | zero =>
      intro i x hi he hm9
      exact absurd hm9 (Nat.not_lt_zero _)
    | succ n9 ih_4 =>
      intro i x hi he hm9 ls hl
      refine lv_iload_n hx hb dX4_readings_4 rfl (lv_at hl 2 rfl) ?_
      refine lv_aload_n hx hb dX4_readings_5 rfl (lv_at hl 0 rfl) ?_
      refine va_get (D := (dC, dI)) (ci := 4) (v := .int (nI n)) (C := RX4) (T := TX4) (N := 16) hx hb hts hin_X4 hown hK hP 0 rfl rfl 0 (by decide) hw_1 (fun _ h9 => h9) rfl dX4_readings_6 ?_
      refine lv_icmp_ge (tgt := 35) hx hb dX4_readings_9 (by decide) (fun c_9 => ?_) (fun c_9 => ?_)
      · ---- to 35
        have n_9 := (nq_le n i (by omega) (by omega)).mp c_9
        refine lv_iload_n hx hb dX4_readings_35 rfl (lv_at hl 1 rfl) ?_
        rw [hQ]
        exact ra_iretR hx hb hr hlocks rfl (by rw [← he, show n - i = 0 by omega]; rfl) dX4_readings_36
      · ---- on
        have n_9 := (nq_le_n n i (by omega) (by omega)).mp c_9
        refine lv_iload_n hx hb dX4_readings_12 rfl (lv_at hl 1 rfl) ?_
        refine lv_aload_n hx hb dX4_readings_13 rfl (lv_at hl 0 rfl) ?_
        refine va_get (D := (dC, dI)) (ci := 4) (v := .ref m11) (C := RX4) (T := TX4) (N := 16) hx hb hts hin_X4 hown hK hP 0 rfl rfl 13 (by decide) hw_3 (fun _ h9 => h9) rfl dX4_readings_14 ?_
        refine lv_iload_n hx hb dX4_readings_17 rfl (lv_at hl 2 rfl) ?_
        refine ra_iald hx hb hK hP 11 rfl i rfl (by omega) (Nat.le_of_ble_eq_true rfl) dX4_readings_18 ?_
        refine lv_if_lt (tgt := 26) hx hb dX4_readings_19 (by decide) (fun c_19 => ?_) (fun c_19 => ?_)
        · ---- to 26
          refine lv_iconst (v := 0) hx hb dX4_readings_26 (by decide) ?_
          refine lv_iadd hx hb dX4_readings_27 ?_
          refine ra_top (nI x) (Int32.add_zero _) ?_
          refine lv_istore_n (lv' := [(1, .int (nI x)), (0, .ref m0), (2, .int (nI i))]) hx hb dX4_readings_28 rfl hl (by decide) rfl (fun ls hl => ?_)
          refine lv_iinc (v := nI (i + 1)) (lv' := [(2, .int (nI (i + 1))), (1, .int (nI x)), (0, .ref m0)]) hx hb dX4_readings_29 hl (k := 2) rfl (ra_inc1 _) (by decide) rfl (fun ls hl => ?_)
          refine lv_goto (tgt := 4) hx hb dX4_readings_32 (by decide) ?_
          exact ih_4 (i + 1) x (by omega) (by rw [← he, show n - i = n - (i + 1) + 1 by omega]; show _ = cntM fr _ _ (if _ then _ else _); first | (rw [if_pos c_19]; done) | (rw [if_neg c_19]; done)) (by omega) ls (lv_sub hl [2, 1, 0] rfl)
        · ---- on
          refine lv_iconst (v := 1) hx hb dX4_readings_22 (by decide) ?_
          refine lv_goto (tgt := 27) hx hb dX4_readings_23 (by decide) ?_
          refine lv_iadd hx hb dX4_readings_27 ?_
          refine ra_top (nI (x + 1)) (nI_add x 1) ?_
          refine lv_istore_n (lv' := [(1, .int (nI (x + 1))), (0, .ref m0), (2, .int (nI i))]) hx hb dX4_readings_28 rfl hl (by decide) rfl (fun ls hl => ?_)
          refine lv_iinc (v := nI (i + 1)) (lv' := [(2, .int (nI (i + 1))), (1, .int (nI (x + 1))), (0, .ref m0)]) hx hb dX4_readings_29 hl (k := 2) rfl (ra_inc1 _) (by decide) rfl (fun ls hl => ?_)
          refine lv_goto (tgt := 4) hx hb dX4_readings_32 (by decide) ?_
          exact ih_4 (i + 1) (x + 1) (by omega) (by rw [← he, show n - i = n - (i + 1) + 1 by omega]; show _ = cntM fr _ _ (if _ then _ else _); first | (rw [if_pos c_19]; done) | (rw [if_neg c_19]; done)) (by omega) ls (lv_sub hl [2, 1, 0] rfl)
  exact L_4 _ 0 0 (by omega) rfl (Nat.lt_succ_self _) ls (lv_sub hl [2, 1, 0] rfl)

set_option maxHeartbeats 4000000 in
set_option maxRecDepth 100000 in
theorem c_X4_levelOf (l : Launch) (dC : Nat → ClassId) (dI : Nat → Nat → Nat) (cyI cyA : ClassId) (m0 m1 m2 m3 m4 m5 m6 m7 m8 m9 m10 m11 m12 m13 n : Nat) (kn fz : Int32) (fh fg ff fk uh ug uf uk th tg tf tk : FN) (vs vb vd us ub ud ts tb td : Int32) (ct : Nat → Nat) (kd vl : Nat → FN) (fr fp bp : FN) (j : Nat) (hn : n ≤ 7) (hj : j < n) (hex : ∃ k, k < n ∧ ¬ fr k < 0) : Met l yX4_levelOf wsX4_levelOf (rm 0) (kR dC dI cyI cyA [.ref m0, .int (nI j)] [ob m0 4 [.int (nI n), .int kn, .int fz, .ref m1, .ref m2, .ref m3, .ref m4, .ref m5, .ref m6, .ref m7, .ref m8, .ref m9, .ref m10, .ref m11, .ref m12, .ref m13], ai m1 cyI 21 (f3 fh uh th), ai m2 cyI 21 (f3 fg ug tg), ai m3 cyI 21 (f3 ff uf tf), ai m4 cyI 21 (f3 fk uk tk), ai m5 cyI 3 (t3 vs us ts), ai m6 cyI 3 (t3 vb ub tb), ai m7 cyI 3 (t3 vd ud td), ai m8 cyI 3 (nF ct), ai m9 cyI 36 (q12 kd), ai m10 cyI 36 (q12 vl), ai m11 cyI 7 fr, ai m12 cyI 3 fp, ai m13 cyI 3 bp]) (QcRead (mLev fr n j)) 0 0 (fun _ => False) := by
  refine ra_metR (cc := cX4_levelOf) (maxL := 4) (by decide) rfl (Nat.le_of_ble_eq_true rfl) ?_
  intro p e s m below meth c args Q hQ hx hb hr hlocks hml hts hown hK hN hP ls hl
  have hl : lv_has ls 4 [(0, .ref m0), (1, .int (nI j))] := hl
  have hown : s.vm.findClass RX4 = some m.cls := hown
  have hw_1 := hts (.fieldLink RX4 7 "DuneBenchModel" "n" "I") (by decide +kernel)
  have hin_X4 : ∀ w ∈ u_ws RX4 TX4 16, w ∈ wsX4_levelOf := by decide +kernel
  have hw_3 := hts (.fieldLink RX4 47 "DuneBenchModel" "reading" "[I") (by decide +kernel)
  have hB7 : lUp fr (n - j) j ≤ n := by have := lUp_le fr (n - j) j; omega
  refine lv_iload_n hx hb dX4_levelOf_0 rfl (lv_at hl 1 rfl) ?_
  refine lv_istore_n (lv' := [(2, .int (nI j)), (0, .ref m0), (1, .int (nI j))]) hx hb dX4_levelOf_1 rfl hl (by decide) rfl (fun ls hl => ?_)
  refine lv_iload_n hx hb dX4_levelOf_2 rfl (lv_at hl 2 rfl) ?_
  refine lv_istore_n (lv' := [(3, .int (nI j)), (2, .int (nI j)), (0, .ref m0), (1, .int (nI j))]) hx hb dX4_levelOf_3 rfl hl (by decide) rfl (fun ls hl => ?_)
  have hl : lv_has ls 4 [(3, .int (nI j)), (2, .int (nI (j + 1) - 1)), (0, .ref m0), (1, .int (nI j))] := by rw [nI_pred]; exact hl
  have L_4 : ∀ (n9 : Nat) (q : Nat), (q ≤ j + 1) → (lDq fr q = lDq fr (j + 1)) → q < n9 → ∀ ls : Array Slot, lv_has ls 4 [(0, .ref m0), (1, .int (nI j)), (2, .int (nI q - 1)), (3, .int (nI j))] → W p l e (rm 0) s m args below meth c s.heap [] 0 0 Q (F0 m 4 ls []) := by
    intro n9
    induction n9 with
    | zero =>
      intro q hq he hm9
      exact absurd hm9 (Nat.not_lt_zero _)
    | succ n9 ih_4 =>
      intro q hq he hm9 ls hl
      rcases q with _ | k
      ·
        have hl : lv_has ls 4 [(0, .ref m0), (1, .int (nI j)), (2, .int (-1)), (3, .int (nI j))] := by rw [show nI 0 - 1 = (-1 : Int32) by decide] at hl; exact hl
        refine lv_iload_n hx hb dX4_levelOf_4 rfl (lv_at hl 2 rfl) ?_
        refine lv_if_lt (tgt := 23) hx hb dX4_levelOf_5 (by decide) (fun c_5 => ?_) (fun c_5 => ?_)
        · ---- to 23
          have hAe : (-1 : Int32) = lDq fr (j + 1) := he
          have hl : lv_has ls 4 [(0, .ref m0), (1, .int (nI j)), (2, .int (lDq fr (j + 1))), (3, .int (nI j))] := by rw [← hAe]; exact hl
          have L_23 : ∀ (n9 : Nat) (b2 : Nat), (j ≤ b2) → (b2 ≤ n) → (lUp fr (n - b2) b2 = lUp fr (n - j) j) → (n - b2) < n9 → ∀ ls : Array Slot, lv_has ls 4 [(0, .ref m0), (1, .int (nI j)), (2, .int (lDq fr (j + 1))), (3, .int (nI b2))] → W p l e (rm 0) s m args below meth c s.heap [] 0 0 Q (F0 m 23 ls []) := by
            intro n9
            induction n9 with
            | zero =>
              intro b2 hb1 hb2 he2 hm9
              exact absurd hm9 (Nat.not_lt_zero _)
            | succ n9 ih_23 =>
              intro b2 hb1 hb2 he2 hm9 ls hl
              refine lv_iload_n hx hb dX4_levelOf_23 rfl (lv_at hl 3 rfl) ?_
              refine lv_aload_n hx hb dX4_levelOf_24 rfl (lv_at hl 0 rfl) ?_
              refine va_get (D := (dC, dI)) (ci := 4) (v := .int (nI n)) (C := RX4) (T := TX4) (N := 16) hx hb hts hin_X4 hown hK hP 0 rfl rfl 0 (by decide) hw_1 (fun _ h9 => h9) rfl dX4_levelOf_25 ?_
              refine lv_icmp_ge (tgt := 46) hx hb dX4_levelOf_28 (by decide) (fun c_28 => ?_) (fun c_28 => ?_)
              · ---- to 46
                have n_28 := (nq_le n b2 (by omega) (by omega)).mp c_28
                have hBe : b2 = lUp fr (n - j) j := by rw [← he2, show n - b2 = 0 by omega]; rfl
                have hl : lv_has ls 4 [(0, .ref m0), (1, .int (nI j)), (2, .int (lDq fr (j + 1))), (3, .int (nI (lUp fr (n - j) j)))] := by rw [← hBe]; exact hl
                refine lv_iload_n hx hb dX4_levelOf_46 rfl (lv_at hl 2 rfl) ?_
                refine lv_if_ge (tgt := 60) hx hb dX4_levelOf_47 (by decide) (fun c_47 => ?_) (fun c_47 => ?_)
                · ---- to 60
                  have hA7 : (lDq fr (j + 1)).toNatClampNeg < 7 := by rcases lDq_rng fr (j + 1) with z | ⟨k9, z1, z2⟩; (· exact absurd c_47 (by rw [z]; decide)); (· rw [z2, nI_cl (by omega)]; omega)
                  refine lv_iload_n hx hb dX4_levelOf_60 rfl (lv_at hl 3 rfl) ?_
                  refine lv_aload_n hx hb dX4_levelOf_61 rfl (lv_at hl 0 rfl) ?_
                  refine va_get (D := (dC, dI)) (ci := 4) (v := .int (nI n)) (C := RX4) (T := TX4) (N := 16) hx hb hts hin_X4 hown hK hP 0 rfl rfl 0 (by decide) hw_1 (fun _ h9 => h9) rfl dX4_levelOf_62 ?_
                  refine lv_icmp_eq (tgt := 73) hx hb dX4_levelOf_65 (by decide) (fun c_65 => ?_) (fun c_65 => ?_)
                  · ---- to 73
                    have n_65 := (nq_eq (lUp fr (n - j) j) n (by omega) (by omega)).mp c_65
                    refine lv_bipush (v := 60) hx hb dX4_levelOf_73 (by decide) ?_
                    refine lv_aload_n hx hb dX4_levelOf_75 rfl (lv_at hl 0 rfl) ?_
                    refine va_get (D := (dC, dI)) (ci := 4) (v := .ref m11) (C := RX4) (T := TX4) (N := 16) hx hb hts hin_X4 hown hK hP 0 rfl rfl 13 (by decide) hw_3 (fun _ h9 => h9) rfl dX4_levelOf_76 ?_
                    refine lv_iload_n hx hb dX4_levelOf_79 rfl (lv_at hl 2 rfl) ?_
                    refine ra_iald hx hb hK hP 11 rfl ((lDq fr (j + 1)).toNatClampNeg) (i32_cl (Int32.not_lt.mpr c_47)) hA7 (Nat.le_of_ble_eq_true rfl) dX4_levelOf_80 ?_
                    refine lv_imul hx hb dX4_levelOf_81 ?_
                    rw [hQ]
                    exact ra_iretR hx hb hr hlocks rfl (by unfold mLev; rw [if_neg (Int32.not_lt.mpr c_47), if_pos n_65]) dX4_levelOf_82
                  · ---- on
                    have n_65 := (nq_eq_n (lUp fr (n - j) j) n (by omega) (by omega)).mp c_65
                    refine lv_iload_n hx hb dX4_levelOf_68 rfl (lv_at hl 2 rfl) ?_
                    refine lv_iload_n hx hb dX4_levelOf_69 rfl (lv_at hl 3 rfl) ?_
                    refine lv_icmp_ne (tgt := 83) hx hb dX4_levelOf_70 (by decide) (fun c_70 => ?_) (fun c_70 => ?_)
                    · ---- to 83
                      refine lv_bipush (v := 60) hx hb dX4_levelOf_83 (by decide) ?_
                      refine lv_iload_n hx hb dX4_levelOf_85 rfl (lv_at hl 3 rfl) ?_
                      refine lv_iload_n hx hb dX4_levelOf_86 rfl (lv_at hl 2 rfl) ?_
                      refine lv_isub hx hb dX4_levelOf_87 ?_
                      refine lv_idiv hx hb dX4_levelOf_88 (i32_subne2 c_70) ?_
                      refine lv_aload_n hx hb dX4_levelOf_89 rfl (lv_at hl 0 rfl) ?_
                      refine va_get (D := (dC, dI)) (ci := 4) (v := .ref m11) (C := RX4) (T := TX4) (N := 16) hx hb hts hin_X4 hown hK hP 0 rfl rfl 13 (by decide) hw_3 (fun _ h9 => h9) rfl dX4_levelOf_90 ?_
                      refine lv_iload_n hx hb dX4_levelOf_93 rfl (lv_at hl 2 rfl) ?_
                      refine ra_iald hx hb hK hP 11 rfl ((lDq fr (j + 1)).toNatClampNeg) (i32_cl (Int32.not_lt.mpr c_47)) hA7 (Nat.le_of_ble_eq_true rfl) dX4_levelOf_94 ?_
                      refine lv_iload_n hx hb dX4_levelOf_95 rfl (lv_at hl 3 rfl) ?_
                      refine lv_iload_n hx hb dX4_levelOf_96 rfl (lv_at hl 1 rfl) ?_
                      refine lv_isub hx hb dX4_levelOf_97 ?_
                      refine lv_imul hx hb dX4_levelOf_98 ?_
                      refine lv_aload_n hx hb dX4_levelOf_99 rfl (lv_at hl 0 rfl) ?_
                      refine va_get (D := (dC, dI)) (ci := 4) (v := .ref m11) (C := RX4) (T := TX4) (N := 16) hx hb hts hin_X4 hown hK hP 0 rfl rfl 13 (by decide) hw_3 (fun _ h9 => h9) rfl dX4_levelOf_100 ?_
                      refine lv_iload_n hx hb dX4_levelOf_103 rfl (lv_at hl 3 rfl) ?_
                      refine ra_iald hx hb hK hP 11 rfl (lUp fr (n - j) j) rfl (by omega) (Nat.le_of_ble_eq_true rfl) dX4_levelOf_104 ?_
                      refine lv_iload_n hx hb dX4_levelOf_105 rfl (lv_at hl 1 rfl) ?_
                      refine lv_iload_n hx hb dX4_levelOf_106 rfl (lv_at hl 2 rfl) ?_
                      refine lv_isub hx hb dX4_levelOf_107 ?_
                      refine lv_imul hx hb dX4_levelOf_108 ?_
                      refine lv_iadd hx hb dX4_levelOf_109 ?_
                      refine lv_imul hx hb dX4_levelOf_110 ?_
                      rw [hQ]
                      exact ra_iretR hx hb hr hlocks rfl (by unfold mLev; rw [if_neg (Int32.not_lt.mpr c_47), if_neg n_65, if_neg c_70]) dX4_levelOf_111
                    · ---- on
                      refine lv_bipush (v := 60) hx hb dX4_levelOf_73 (by decide) ?_
                      refine lv_aload_n hx hb dX4_levelOf_75 rfl (lv_at hl 0 rfl) ?_
                      refine va_get (D := (dC, dI)) (ci := 4) (v := .ref m11) (C := RX4) (T := TX4) (N := 16) hx hb hts hin_X4 hown hK hP 0 rfl rfl 13 (by decide) hw_3 (fun _ h9 => h9) rfl dX4_levelOf_76 ?_
                      refine lv_iload_n hx hb dX4_levelOf_79 rfl (lv_at hl 2 rfl) ?_
                      refine ra_iald hx hb hK hP 11 rfl ((lDq fr (j + 1)).toNatClampNeg) (i32_cl (Int32.not_lt.mpr c_47)) hA7 (Nat.le_of_ble_eq_true rfl) dX4_levelOf_80 ?_
                      refine lv_imul hx hb dX4_levelOf_81 ?_
                      rw [hQ]
                      exact ra_iretR hx hb hr hlocks rfl (by unfold mLev; rw [if_neg (Int32.not_lt.mpr c_47), if_neg n_65, if_pos c_70]) dX4_levelOf_82
                · ---- on
                  have hBn := lev_ok hn hj hex (Int32.not_le.mp c_47)
                  refine lv_bipush (v := 60) hx hb dX4_levelOf_50 (by decide) ?_
                  refine lv_aload_n hx hb dX4_levelOf_52 rfl (lv_at hl 0 rfl) ?_
                  refine va_get (D := (dC, dI)) (ci := 4) (v := .ref m11) (C := RX4) (T := TX4) (N := 16) hx hb hts hin_X4 hown hK hP 0 rfl rfl 13 (by decide) hw_3 (fun _ h9 => h9) rfl dX4_levelOf_53 ?_
                  refine lv_iload_n hx hb dX4_levelOf_56 rfl (lv_at hl 3 rfl) ?_
                  refine ra_iald hx hb hK hP 11 rfl (lUp fr (n - j) j) rfl (by omega) (Nat.le_of_ble_eq_true rfl) dX4_levelOf_57 ?_
                  refine lv_imul hx hb dX4_levelOf_58 ?_
                  rw [hQ]
                  exact ra_iretR hx hb hr hlocks rfl (by unfold mLev; rw [if_pos (Int32.not_le.mp c_47)]) dX4_levelOf_59
              · ---- on
                have n_28 := (nq_le_n n b2 (by omega) (by omega)).mp c_28
                refine lv_aload_n hx hb dX4_levelOf_31 rfl (lv_at hl 0 rfl) ?_
                refine va_get (D := (dC, dI)) (ci := 4) (v := .ref m11) (C := RX4) (T := TX4) (N := 16) hx hb hts hin_X4 hown hK hP 0 rfl rfl 13 (by decide) hw_3 (fun _ h9 => h9) rfl dX4_levelOf_32 ?_
                refine lv_iload_n hx hb dX4_levelOf_35 rfl (lv_at hl 3 rfl) ?_
                refine ra_iald hx hb hK hP 11 rfl b2 rfl (by omega) (Nat.le_of_ble_eq_true rfl) dX4_levelOf_36 ?_
                refine lv_if_ge (tgt := 46) hx hb dX4_levelOf_37 (by decide) (fun c_37 => ?_) (fun c_37 => ?_)
                · ---- to 46
                  have hBe : b2 = lUp fr (n - j) j := by rw [← he2, show n - b2 = n - (b2 + 1) + 1 by omega]; exact (if_neg (Int32.not_lt.mpr c_37)).symm
                  have hl : lv_has ls 4 [(0, .ref m0), (1, .int (nI j)), (2, .int (lDq fr (j + 1))), (3, .int (nI (lUp fr (n - j) j)))] := by rw [← hBe]; exact hl
                  refine lv_iload_n hx hb dX4_levelOf_46 rfl (lv_at hl 2 rfl) ?_
                  refine lv_if_ge (tgt := 60) hx hb dX4_levelOf_47 (by decide) (fun c_47 => ?_) (fun c_47 => ?_)
                  · ---- to 60
                    have hA7 : (lDq fr (j + 1)).toNatClampNeg < 7 := by rcases lDq_rng fr (j + 1) with z | ⟨k9, z1, z2⟩; (· exact absurd c_47 (by rw [z]; decide)); (· rw [z2, nI_cl (by omega)]; omega)
                    refine lv_iload_n hx hb dX4_levelOf_60 rfl (lv_at hl 3 rfl) ?_
                    refine lv_aload_n hx hb dX4_levelOf_61 rfl (lv_at hl 0 rfl) ?_
                    refine va_get (D := (dC, dI)) (ci := 4) (v := .int (nI n)) (C := RX4) (T := TX4) (N := 16) hx hb hts hin_X4 hown hK hP 0 rfl rfl 0 (by decide) hw_1 (fun _ h9 => h9) rfl dX4_levelOf_62 ?_
                    refine lv_icmp_eq (tgt := 73) hx hb dX4_levelOf_65 (by decide) (fun c_65 => ?_) (fun c_65 => ?_)
                    · ---- to 73
                      have n_65 := (nq_eq (lUp fr (n - j) j) n (by omega) (by omega)).mp c_65
                      refine lv_bipush (v := 60) hx hb dX4_levelOf_73 (by decide) ?_
                      refine lv_aload_n hx hb dX4_levelOf_75 rfl (lv_at hl 0 rfl) ?_
                      refine va_get (D := (dC, dI)) (ci := 4) (v := .ref m11) (C := RX4) (T := TX4) (N := 16) hx hb hts hin_X4 hown hK hP 0 rfl rfl 13 (by decide) hw_3 (fun _ h9 => h9) rfl dX4_levelOf_76 ?_
                      refine lv_iload_n hx hb dX4_levelOf_79 rfl (lv_at hl 2 rfl) ?_
                      refine ra_iald hx hb hK hP 11 rfl ((lDq fr (j + 1)).toNatClampNeg) (i32_cl (Int32.not_lt.mpr c_47)) hA7 (Nat.le_of_ble_eq_true rfl) dX4_levelOf_80 ?_
                      refine lv_imul hx hb dX4_levelOf_81 ?_
                      rw [hQ]
                      exact ra_iretR hx hb hr hlocks rfl (by unfold mLev; rw [if_neg (Int32.not_lt.mpr c_47), if_pos n_65]) dX4_levelOf_82
                    · ---- on
                      have n_65 := (nq_eq_n (lUp fr (n - j) j) n (by omega) (by omega)).mp c_65
                      refine lv_iload_n hx hb dX4_levelOf_68 rfl (lv_at hl 2 rfl) ?_
                      refine lv_iload_n hx hb dX4_levelOf_69 rfl (lv_at hl 3 rfl) ?_
                      refine lv_icmp_ne (tgt := 83) hx hb dX4_levelOf_70 (by decide) (fun c_70 => ?_) (fun c_70 => ?_)
                      · ---- to 83
                        refine lv_bipush (v := 60) hx hb dX4_levelOf_83 (by decide) ?_
                        refine lv_iload_n hx hb dX4_levelOf_85 rfl (lv_at hl 3 rfl) ?_
                        refine lv_iload_n hx hb dX4_levelOf_86 rfl (lv_at hl 2 rfl) ?_
                        refine lv_isub hx hb dX4_levelOf_87 ?_
                        refine lv_idiv hx hb dX4_levelOf_88 (i32_subne2 c_70) ?_
                        refine lv_aload_n hx hb dX4_levelOf_89 rfl (lv_at hl 0 rfl) ?_
                        refine va_get (D := (dC, dI)) (ci := 4) (v := .ref m11) (C := RX4) (T := TX4) (N := 16) hx hb hts hin_X4 hown hK hP 0 rfl rfl 13 (by decide) hw_3 (fun _ h9 => h9) rfl dX4_levelOf_90 ?_
                        refine lv_iload_n hx hb dX4_levelOf_93 rfl (lv_at hl 2 rfl) ?_
                        refine ra_iald hx hb hK hP 11 rfl ((lDq fr (j + 1)).toNatClampNeg) (i32_cl (Int32.not_lt.mpr c_47)) hA7 (Nat.le_of_ble_eq_true rfl) dX4_levelOf_94 ?_
                        refine lv_iload_n hx hb dX4_levelOf_95 rfl (lv_at hl 3 rfl) ?_
                        refine lv_iload_n hx hb dX4_levelOf_96 rfl (lv_at hl 1 rfl) ?_
                        refine lv_isub hx hb dX4_levelOf_97 ?_
                        refine lv_imul hx hb dX4_levelOf_98 ?_
                        refine lv_aload_n hx hb dX4_levelOf_99 rfl (lv_at hl 0 rfl) ?_
                        refine va_get (D := (dC, dI)) (ci := 4) (v := .ref m11) (C := RX4) (T := TX4) (N := 16) hx hb hts hin_X4 hown hK hP 0 rfl rfl 13 (by decide) hw_3 (fun _ h9 => h9) rfl dX4_levelOf_100 ?_
                        refine lv_iload_n hx hb dX4_levelOf_103 rfl (lv_at hl 3 rfl) ?_
                        refine ra_iald hx hb hK hP 11 rfl (lUp fr (n - j) j) rfl (by omega) (Nat.le_of_ble_eq_true rfl) dX4_levelOf_104 ?_
                        refine lv_iload_n hx hb dX4_levelOf_105 rfl (lv_at hl 1 rfl) ?_
                        refine lv_iload_n hx hb dX4_levelOf_106 rfl (lv_at hl 2 rfl) ?_
                        refine lv_isub hx hb dX4_levelOf_107 ?_
                        refine lv_imul hx hb dX4_levelOf_108 ?_
                        refine lv_iadd hx hb dX4_levelOf_109 ?_
                        refine lv_imul hx hb dX4_levelOf_110 ?_
                        rw [hQ]
                        exact ra_iretR hx hb hr hlocks rfl (by unfold mLev; rw [if_neg (Int32.not_lt.mpr c_47), if_neg n_65, if_neg c_70]) dX4_levelOf_111
                      · ---- on
                        refine lv_bipush (v := 60) hx hb dX4_levelOf_73 (by decide) ?_
                        refine lv_aload_n hx hb dX4_levelOf_75 rfl (lv_at hl 0 rfl) ?_
                        refine va_get (D := (dC, dI)) (ci := 4) (v := .ref m11) (C := RX4) (T := TX4) (N := 16) hx hb hts hin_X4 hown hK hP 0 rfl rfl 13 (by decide) hw_3 (fun _ h9 => h9) rfl dX4_levelOf_76 ?_
                        refine lv_iload_n hx hb dX4_levelOf_79 rfl (lv_at hl 2 rfl) ?_
                        refine ra_iald hx hb hK hP 11 rfl ((lDq fr (j + 1)).toNatClampNeg) (i32_cl (Int32.not_lt.mpr c_47)) hA7 (Nat.le_of_ble_eq_true rfl) dX4_levelOf_80 ?_
                        refine lv_imul hx hb dX4_levelOf_81 ?_
                        rw [hQ]
                        exact ra_iretR hx hb hr hlocks rfl (by unfold mLev; rw [if_neg (Int32.not_lt.mpr c_47), if_neg n_65, if_pos c_70]) dX4_levelOf_82
                  · ---- on
                    have hBn := lev_ok hn hj hex (Int32.not_le.mp c_47)
                    refine lv_bipush (v := 60) hx hb dX4_levelOf_50 (by decide) ?_
                    refine lv_aload_n hx hb dX4_levelOf_52 rfl (lv_at hl 0 rfl) ?_
                    refine va_get (D := (dC, dI)) (ci := 4) (v := .ref m11) (C := RX4) (T := TX4) (N := 16) hx hb hts hin_X4 hown hK hP 0 rfl rfl 13 (by decide) hw_3 (fun _ h9 => h9) rfl dX4_levelOf_53 ?_
                    refine lv_iload_n hx hb dX4_levelOf_56 rfl (lv_at hl 3 rfl) ?_
                    refine ra_iald hx hb hK hP 11 rfl (lUp fr (n - j) j) rfl (by omega) (Nat.le_of_ble_eq_true rfl) dX4_levelOf_57 ?_
                    refine lv_imul hx hb dX4_levelOf_58 ?_
                    rw [hQ]
                    exact ra_iretR hx hb hr hlocks rfl (by unfold mLev; rw [if_pos (Int32.not_le.mp c_47)]) dX4_levelOf_59
                · ---- on
                  refine lv_iinc (v := nI (b2 + 1)) (lv' := [(3, .int (nI (b2 + 1))), (0, .ref m0), (1, .int (nI j)), (2, .int (lDq fr (j + 1)))]) hx hb dX4_levelOf_40 hl (k := 3) rfl (ra_inc1 _) (by decide) rfl (fun ls hl => ?_)
                  refine lv_goto (tgt := 23) hx hb dX4_levelOf_43 (by decide) ?_
                  exact ih_23 (b2 + 1) (by omega) (by omega) (by rw [← he2, show n - b2 = n - (b2 + 1) + 1 by omega]; exact (if_pos (Int32.not_le.mp c_37)).symm) (by omega) ls (lv_sub hl [1, 2, 3, 0] rfl)
          exact L_23 _ j (by omega) (by omega) rfl (Nat.lt_succ_self _) ls (lv_sub hl [0, 1, 2, 3] rfl)
        · ---- on
          exact absurd c_5 (by decide)
      ·
        have hl : lv_has ls 4 [(0, .ref m0), (1, .int (nI j)), (2, .int (nI k)), (3, .int (nI j))] := by rw [nI_pred] at hl; exact hl
        refine lv_iload_n hx hb dX4_levelOf_4 rfl (lv_at hl 2 rfl) ?_
        refine lv_if_lt (tgt := 23) hx hb dX4_levelOf_5 (by decide) (fun c_5 => ?_) (fun c_5 => ?_)
        · ---- to 23
          exact absurd c_5 (nI_pos (by omega))
        · ---- on
          have n_5 := (nq_lt_n k 0 (by omega) (by omega)).mp c_5
          refine lv_aload_n hx hb dX4_levelOf_8 rfl (lv_at hl 0 rfl) ?_
          refine va_get (D := (dC, dI)) (ci := 4) (v := .ref m11) (C := RX4) (T := TX4) (N := 16) hx hb hts hin_X4 hown hK hP 0 rfl rfl 13 (by decide) hw_3 (fun _ h9 => h9) rfl dX4_levelOf_9 ?_
          refine lv_iload_n hx hb dX4_levelOf_12 rfl (lv_at hl 2 rfl) ?_
          refine ra_iald hx hb hK hP 11 rfl k rfl (by omega) (Nat.le_of_ble_eq_true rfl) dX4_levelOf_13 ?_
          refine lv_if_ge (tgt := 23) hx hb dX4_levelOf_14 (by decide) (fun c_14 => ?_) (fun c_14 => ?_)
          · ---- to 23
            have hAe : nI k = lDq fr (j + 1) := he.symm.trans (if_neg (Int32.not_lt.mpr c_14)) |>.symm
            have hl : lv_has ls 4 [(0, .ref m0), (1, .int (nI j)), (2, .int (lDq fr (j + 1))), (3, .int (nI j))] := by rw [← hAe]; exact hl
            have L_23 : ∀ (n9 : Nat) (b2 : Nat), (j ≤ b2) → (b2 ≤ n) → (lUp fr (n - b2) b2 = lUp fr (n - j) j) → (n - b2) < n9 → ∀ ls : Array Slot, lv_has ls 4 [(0, .ref m0), (1, .int (nI j)), (2, .int (lDq fr (j + 1))), (3, .int (nI b2))] → W p l e (rm 0) s m args below meth c s.heap [] 0 0 Q (F0 m 23 ls []) := by
              intro n9
              induction n9 with
              | zero =>
                intro b2 hb1 hb2 he2 hm9
                exact absurd hm9 (Nat.not_lt_zero _)
              | succ n9 ih_23 =>
                intro b2 hb1 hb2 he2 hm9 ls hl
                refine lv_iload_n hx hb dX4_levelOf_23 rfl (lv_at hl 3 rfl) ?_
                refine lv_aload_n hx hb dX4_levelOf_24 rfl (lv_at hl 0 rfl) ?_
                refine va_get (D := (dC, dI)) (ci := 4) (v := .int (nI n)) (C := RX4) (T := TX4) (N := 16) hx hb hts hin_X4 hown hK hP 0 rfl rfl 0 (by decide) hw_1 (fun _ h9 => h9) rfl dX4_levelOf_25 ?_
                refine lv_icmp_ge (tgt := 46) hx hb dX4_levelOf_28 (by decide) (fun c_28 => ?_) (fun c_28 => ?_)
                · ---- to 46
                  have n_28 := (nq_le n b2 (by omega) (by omega)).mp c_28
                  have hBe : b2 = lUp fr (n - j) j := by rw [← he2, show n - b2 = 0 by omega]; rfl
                  have hl : lv_has ls 4 [(0, .ref m0), (1, .int (nI j)), (2, .int (lDq fr (j + 1))), (3, .int (nI (lUp fr (n - j) j)))] := by rw [← hBe]; exact hl
                  refine lv_iload_n hx hb dX4_levelOf_46 rfl (lv_at hl 2 rfl) ?_
                  refine lv_if_ge (tgt := 60) hx hb dX4_levelOf_47 (by decide) (fun c_47 => ?_) (fun c_47 => ?_)
                  · ---- to 60
                    have hA7 : (lDq fr (j + 1)).toNatClampNeg < 7 := by rcases lDq_rng fr (j + 1) with z | ⟨k9, z1, z2⟩; (· exact absurd c_47 (by rw [z]; decide)); (· rw [z2, nI_cl (by omega)]; omega)
                    refine lv_iload_n hx hb dX4_levelOf_60 rfl (lv_at hl 3 rfl) ?_
                    refine lv_aload_n hx hb dX4_levelOf_61 rfl (lv_at hl 0 rfl) ?_
                    refine va_get (D := (dC, dI)) (ci := 4) (v := .int (nI n)) (C := RX4) (T := TX4) (N := 16) hx hb hts hin_X4 hown hK hP 0 rfl rfl 0 (by decide) hw_1 (fun _ h9 => h9) rfl dX4_levelOf_62 ?_
                    refine lv_icmp_eq (tgt := 73) hx hb dX4_levelOf_65 (by decide) (fun c_65 => ?_) (fun c_65 => ?_)
                    · ---- to 73
                      have n_65 := (nq_eq (lUp fr (n - j) j) n (by omega) (by omega)).mp c_65
                      refine lv_bipush (v := 60) hx hb dX4_levelOf_73 (by decide) ?_
                      refine lv_aload_n hx hb dX4_levelOf_75 rfl (lv_at hl 0 rfl) ?_
                      refine va_get (D := (dC, dI)) (ci := 4) (v := .ref m11) (C := RX4) (T := TX4) (N := 16) hx hb hts hin_X4 hown hK hP 0 rfl rfl 13 (by decide) hw_3 (fun _ h9 => h9) rfl dX4_levelOf_76 ?_
                      refine lv_iload_n hx hb dX4_levelOf_79 rfl (lv_at hl 2 rfl) ?_
                      refine ra_iald hx hb hK hP 11 rfl ((lDq fr (j + 1)).toNatClampNeg) (i32_cl (Int32.not_lt.mpr c_47)) hA7 (Nat.le_of_ble_eq_true rfl) dX4_levelOf_80 ?_
                      refine lv_imul hx hb dX4_levelOf_81 ?_
                      rw [hQ]
                      exact ra_iretR hx hb hr hlocks rfl (by unfold mLev; rw [if_neg (Int32.not_lt.mpr c_47), if_pos n_65]) dX4_levelOf_82
                    · ---- on
                      have n_65 := (nq_eq_n (lUp fr (n - j) j) n (by omega) (by omega)).mp c_65
                      refine lv_iload_n hx hb dX4_levelOf_68 rfl (lv_at hl 2 rfl) ?_
                      refine lv_iload_n hx hb dX4_levelOf_69 rfl (lv_at hl 3 rfl) ?_
                      refine lv_icmp_ne (tgt := 83) hx hb dX4_levelOf_70 (by decide) (fun c_70 => ?_) (fun c_70 => ?_)
                      · ---- to 83
                        refine lv_bipush (v := 60) hx hb dX4_levelOf_83 (by decide) ?_
                        refine lv_iload_n hx hb dX4_levelOf_85 rfl (lv_at hl 3 rfl) ?_
                        refine lv_iload_n hx hb dX4_levelOf_86 rfl (lv_at hl 2 rfl) ?_
                        refine lv_isub hx hb dX4_levelOf_87 ?_
                        refine lv_idiv hx hb dX4_levelOf_88 (i32_subne2 c_70) ?_
                        refine lv_aload_n hx hb dX4_levelOf_89 rfl (lv_at hl 0 rfl) ?_
                        refine va_get (D := (dC, dI)) (ci := 4) (v := .ref m11) (C := RX4) (T := TX4) (N := 16) hx hb hts hin_X4 hown hK hP 0 rfl rfl 13 (by decide) hw_3 (fun _ h9 => h9) rfl dX4_levelOf_90 ?_
                        refine lv_iload_n hx hb dX4_levelOf_93 rfl (lv_at hl 2 rfl) ?_
                        refine ra_iald hx hb hK hP 11 rfl ((lDq fr (j + 1)).toNatClampNeg) (i32_cl (Int32.not_lt.mpr c_47)) hA7 (Nat.le_of_ble_eq_true rfl) dX4_levelOf_94 ?_
                        refine lv_iload_n hx hb dX4_levelOf_95 rfl (lv_at hl 3 rfl) ?_
                        refine lv_iload_n hx hb dX4_levelOf_96 rfl (lv_at hl 1 rfl) ?_
                        refine lv_isub hx hb dX4_levelOf_97 ?_
                        refine lv_imul hx hb dX4_levelOf_98 ?_
                        refine lv_aload_n hx hb dX4_levelOf_99 rfl (lv_at hl 0 rfl) ?_
                        refine va_get (D := (dC, dI)) (ci := 4) (v := .ref m11) (C := RX4) (T := TX4) (N := 16) hx hb hts hin_X4 hown hK hP 0 rfl rfl 13 (by decide) hw_3 (fun _ h9 => h9) rfl dX4_levelOf_100 ?_
                        refine lv_iload_n hx hb dX4_levelOf_103 rfl (lv_at hl 3 rfl) ?_
                        refine ra_iald hx hb hK hP 11 rfl (lUp fr (n - j) j) rfl (by omega) (Nat.le_of_ble_eq_true rfl) dX4_levelOf_104 ?_
                        refine lv_iload_n hx hb dX4_levelOf_105 rfl (lv_at hl 1 rfl) ?_
                        refine lv_iload_n hx hb dX4_levelOf_106 rfl (lv_at hl 2 rfl) ?_
                        refine lv_isub hx hb dX4_levelOf_107 ?_
                        refine lv_imul hx hb dX4_levelOf_108 ?_
                        refine lv_iadd hx hb dX4_levelOf_109 ?_
                        refine lv_imul hx hb dX4_levelOf_110 ?_
                        rw [hQ]
                        exact ra_iretR hx hb hr hlocks rfl (by unfold mLev; rw [if_neg (Int32.not_lt.mpr c_47), if_neg n_65, if_neg c_70]) dX4_levelOf_111
                      · ---- on
                        refine lv_bipush (v := 60) hx hb dX4_levelOf_73 (by decide) ?_
                        refine lv_aload_n hx hb dX4_levelOf_75 rfl (lv_at hl 0 rfl) ?_
                        refine va_get (D := (dC, dI)) (ci := 4) (v := .ref m11) (C := RX4) (T := TX4) (N := 16) hx hb hts hin_X4 hown hK hP 0 rfl rfl 13 (by decide) hw_3 (fun _ h9 => h9) rfl dX4_levelOf_76 ?_
                        refine lv_iload_n hx hb dX4_levelOf_79 rfl (lv_at hl 2 rfl) ?_
                        refine ra_iald hx hb hK hP 11 rfl ((lDq fr (j + 1)).toNatClampNeg) (i32_cl (Int32.not_lt.mpr c_47)) hA7 (Nat.le_of_ble_eq_true rfl) dX4_levelOf_80 ?_
                        refine lv_imul hx hb dX4_levelOf_81 ?_
                        rw [hQ]
                        exact ra_iretR hx hb hr hlocks rfl (by unfold mLev; rw [if_neg (Int32.not_lt.mpr c_47), if_neg n_65, if_pos c_70]) dX4_levelOf_82
                  · ---- on
                    have hBn := lev_ok hn hj hex (Int32.not_le.mp c_47)
                    refine lv_bipush (v := 60) hx hb dX4_levelOf_50 (by decide) ?_
                    refine lv_aload_n hx hb dX4_levelOf_52 rfl (lv_at hl 0 rfl) ?_
                    refine va_get (D := (dC, dI)) (ci := 4) (v := .ref m11) (C := RX4) (T := TX4) (N := 16) hx hb hts hin_X4 hown hK hP 0 rfl rfl 13 (by decide) hw_3 (fun _ h9 => h9) rfl dX4_levelOf_53 ?_
                    refine lv_iload_n hx hb dX4_levelOf_56 rfl (lv_at hl 3 rfl) ?_
                    refine ra_iald hx hb hK hP 11 rfl (lUp fr (n - j) j) rfl (by omega) (Nat.le_of_ble_eq_true rfl) dX4_levelOf_57 ?_
                    refine lv_imul hx hb dX4_levelOf_58 ?_
                    rw [hQ]
                    exact ra_iretR hx hb hr hlocks rfl (by unfold mLev; rw [if_pos (Int32.not_le.mp c_47)]) dX4_levelOf_59
                · ---- on
                  have n_28 := (nq_le_n n b2 (by omega) (by omega)).mp c_28
                  refine lv_aload_n hx hb dX4_levelOf_31 rfl (lv_at hl 0 rfl) ?_
                  refine va_get (D := (dC, dI)) (ci := 4) (v := .ref m11) (C := RX4) (T := TX4) (N := 16) hx hb hts hin_X4 hown hK hP 0 rfl rfl 13 (by decide) hw_3 (fun _ h9 => h9) rfl dX4_levelOf_32 ?_
                  refine lv_iload_n hx hb dX4_levelOf_35 rfl (lv_at hl 3 rfl) ?_
                  refine ra_iald hx hb hK hP 11 rfl b2 rfl (by omega) (Nat.le_of_ble_eq_true rfl) dX4_levelOf_36 ?_
                  refine lv_if_ge (tgt := 46) hx hb dX4_levelOf_37 (by decide) (fun c_37 => ?_) (fun c_37 => ?_)
                  · ---- to 46
                    have hBe : b2 = lUp fr (n - j) j := by rw [← he2, show n - b2 = n - (b2 + 1) + 1 by omega]; exact (if_neg (Int32.not_lt.mpr c_37)).symm
                    have hl : lv_has ls 4 [(0, .ref m0), (1, .int (nI j)), (2, .int (lDq fr (j + 1))), (3, .int (nI (lUp fr (n - j) j)))] := by rw [← hBe]; exact hl
                    refine lv_iload_n hx hb dX4_levelOf_46 rfl (lv_at hl 2 rfl) ?_
                    refine lv_if_ge (tgt := 60) hx hb dX4_levelOf_47 (by decide) (fun c_47 => ?_) (fun c_47 => ?_)
                    · ---- to 60
                      have hA7 : (lDq fr (j + 1)).toNatClampNeg < 7 := by rcases lDq_rng fr (j + 1) with z | ⟨k9, z1, z2⟩; (· exact absurd c_47 (by rw [z]; decide)); (· rw [z2, nI_cl (by omega)]; omega)
                      refine lv_iload_n hx hb dX4_levelOf_60 rfl (lv_at hl 3 rfl) ?_
                      refine lv_aload_n hx hb dX4_levelOf_61 rfl (lv_at hl 0 rfl) ?_
                      refine va_get (D := (dC, dI)) (ci := 4) (v := .int (nI n)) (C := RX4) (T := TX4) (N := 16) hx hb hts hin_X4 hown hK hP 0 rfl rfl 0 (by decide) hw_1 (fun _ h9 => h9) rfl dX4_levelOf_62 ?_
                      refine lv_icmp_eq (tgt := 73) hx hb dX4_levelOf_65 (by decide) (fun c_65 => ?_) (fun c_65 => ?_)
                      · ---- to 73
                        have n_65 := (nq_eq (lUp fr (n - j) j) n (by omega) (by omega)).mp c_65
                        refine lv_bipush (v := 60) hx hb dX4_levelOf_73 (by decide) ?_
                        refine lv_aload_n hx hb dX4_levelOf_75 rfl (lv_at hl 0 rfl) ?_
                        refine va_get (D := (dC, dI)) (ci := 4) (v := .ref m11) (C := RX4) (T := TX4) (N := 16) hx hb hts hin_X4 hown hK hP 0 rfl rfl 13 (by decide) hw_3 (fun _ h9 => h9) rfl dX4_levelOf_76 ?_
                        refine lv_iload_n hx hb dX4_levelOf_79 rfl (lv_at hl 2 rfl) ?_
                        refine ra_iald hx hb hK hP 11 rfl ((lDq fr (j + 1)).toNatClampNeg) (i32_cl (Int32.not_lt.mpr c_47)) hA7 (Nat.le_of_ble_eq_true rfl) dX4_levelOf_80 ?_
                        refine lv_imul hx hb dX4_levelOf_81 ?_
                        rw [hQ]
                        exact ra_iretR hx hb hr hlocks rfl (by unfold mLev; rw [if_neg (Int32.not_lt.mpr c_47), if_pos n_65]) dX4_levelOf_82
                      · ---- on
                        have n_65 := (nq_eq_n (lUp fr (n - j) j) n (by omega) (by omega)).mp c_65
                        refine lv_iload_n hx hb dX4_levelOf_68 rfl (lv_at hl 2 rfl) ?_
                        refine lv_iload_n hx hb dX4_levelOf_69 rfl (lv_at hl 3 rfl) ?_
                        refine lv_icmp_ne (tgt := 83) hx hb dX4_levelOf_70 (by decide) (fun c_70 => ?_) (fun c_70 => ?_)
                        · ---- to 83
                          refine lv_bipush (v := 60) hx hb dX4_levelOf_83 (by decide) ?_
                          refine lv_iload_n hx hb dX4_levelOf_85 rfl (lv_at hl 3 rfl) ?_
                          refine lv_iload_n hx hb dX4_levelOf_86 rfl (lv_at hl 2 rfl) ?_
                          refine lv_isub hx hb dX4_levelOf_87 ?_
                          refine lv_idiv hx hb dX4_levelOf_88 (i32_subne2 c_70) ?_
                          refine lv_aload_n hx hb dX4_levelOf_89 rfl (lv_at hl 0 rfl) ?_
                          refine va_get (D := (dC, dI)) (ci := 4) (v := .ref m11) (C := RX4) (T := TX4) (N := 16) hx hb hts hin_X4 hown hK hP 0 rfl rfl 13 (by decide) hw_3 (fun _ h9 => h9) rfl dX4_levelOf_90 ?_
                          refine lv_iload_n hx hb dX4_levelOf_93 rfl (lv_at hl 2 rfl) ?_
                          refine ra_iald hx hb hK hP 11 rfl ((lDq fr (j + 1)).toNatClampNeg) (i32_cl (Int32.not_lt.mpr c_47)) hA7 (Nat.le_of_ble_eq_true rfl) dX4_levelOf_94 ?_
                          refine lv_iload_n hx hb dX4_levelOf_95 rfl (lv_at hl 3 rfl) ?_
                          refine lv_iload_n hx hb dX4_levelOf_96 rfl (lv_at hl 1 rfl) ?_
                          refine lv_isub hx hb dX4_levelOf_97 ?_
                          refine lv_imul hx hb dX4_levelOf_98 ?_
                          refine lv_aload_n hx hb dX4_levelOf_99 rfl (lv_at hl 0 rfl) ?_
                          refine va_get (D := (dC, dI)) (ci := 4) (v := .ref m11) (C := RX4) (T := TX4) (N := 16) hx hb hts hin_X4 hown hK hP 0 rfl rfl 13 (by decide) hw_3 (fun _ h9 => h9) rfl dX4_levelOf_100 ?_
                          refine lv_iload_n hx hb dX4_levelOf_103 rfl (lv_at hl 3 rfl) ?_
                          refine ra_iald hx hb hK hP 11 rfl (lUp fr (n - j) j) rfl (by omega) (Nat.le_of_ble_eq_true rfl) dX4_levelOf_104 ?_
                          refine lv_iload_n hx hb dX4_levelOf_105 rfl (lv_at hl 1 rfl) ?_
                          refine lv_iload_n hx hb dX4_levelOf_106 rfl (lv_at hl 2 rfl) ?_
                          refine lv_isub hx hb dX4_levelOf_107 ?_
                          refine lv_imul hx hb dX4_levelOf_108 ?_
                          refine lv_iadd hx hb dX4_levelOf_109 ?_
                          refine lv_imul hx hb dX4_levelOf_110 ?_
                          rw [hQ]
                          exact ra_iretR hx hb hr hlocks rfl (by unfold mLev; rw [if_neg (Int32.not_lt.mpr c_47), if_neg n_65, if_neg c_70]) dX4_levelOf_111
                        · ---- on
                          refine lv_bipush (v := 60) hx hb dX4_levelOf_73 (by decide) ?_
                          refine lv_aload_n hx hb dX4_levelOf_75 rfl (lv_at hl 0 rfl) ?_
                          refine va_get (D := (dC, dI)) (ci := 4) (v := .ref m11) (C := RX4) (T := TX4) (N := 16) hx hb hts hin_X4 hown hK hP 0 rfl rfl 13 (by decide) hw_3 (fun _ h9 => h9) rfl dX4_levelOf_76 ?_
                          refine lv_iload_n hx hb dX4_levelOf_79 rfl (lv_at hl 2 rfl) ?_
                          refine ra_iald hx hb hK hP 11 rfl ((lDq fr (j + 1)).toNatClampNeg) (i32_cl (Int32.not_lt.mpr c_47)) hA7 (Nat.le_of_ble_eq_true rfl) dX4_levelOf_80 ?_
                          refine lv_imul hx hb dX4_levelOf_81 ?_
                          rw [hQ]
                          exact ra_iretR hx hb hr hlocks rfl (by unfold mLev; rw [if_neg (Int32.not_lt.mpr c_47), if_neg n_65, if_pos c_70]) dX4_levelOf_82
                    · ---- on
                      have hBn := lev_ok hn hj hex (Int32.not_le.mp c_47)
                      refine lv_bipush (v := 60) hx hb dX4_levelOf_50 (by decide) ?_
                      refine lv_aload_n hx hb dX4_levelOf_52 rfl (lv_at hl 0 rfl) ?_
                      refine va_get (D := (dC, dI)) (ci := 4) (v := .ref m11) (C := RX4) (T := TX4) (N := 16) hx hb hts hin_X4 hown hK hP 0 rfl rfl 13 (by decide) hw_3 (fun _ h9 => h9) rfl dX4_levelOf_53 ?_
                      refine lv_iload_n hx hb dX4_levelOf_56 rfl (lv_at hl 3 rfl) ?_
                      refine ra_iald hx hb hK hP 11 rfl (lUp fr (n - j) j) rfl (by omega) (Nat.le_of_ble_eq_true rfl) dX4_levelOf_57 ?_
                      refine lv_imul hx hb dX4_levelOf_58 ?_
                      rw [hQ]
                      exact ra_iretR hx hb hr hlocks rfl (by unfold mLev; rw [if_pos (Int32.not_le.mp c_47)]) dX4_levelOf_59
                  · ---- on
                    refine lv_iinc (v := nI (b2 + 1)) (lv' := [(3, .int (nI (b2 + 1))), (0, .ref m0), (1, .int (nI j)), (2, .int (lDq fr (j + 1)))]) hx hb dX4_levelOf_40 hl (k := 3) rfl (ra_inc1 _) (by decide) rfl (fun ls hl => ?_)
                    refine lv_goto (tgt := 23) hx hb dX4_levelOf_43 (by decide) ?_
                    exact ih_23 (b2 + 1) (by omega) (by omega) (by rw [← he2, show n - b2 = n - (b2 + 1) + 1 by omega]; exact (if_pos (Int32.not_le.mp c_37)).symm) (by omega) ls (lv_sub hl [1, 2, 3, 0] rfl)
            exact L_23 _ j (by omega) (by omega) rfl (Nat.lt_succ_self _) ls (lv_sub hl [0, 1, 2, 3] rfl)
          · ---- on
            refine lv_iinc (v := nI k - 1) (lv' := [(2, .int (nI k - 1)), (0, .ref m0), (1, .int (nI j)), (3, .int (nI j))]) hx hb dX4_levelOf_17 hl (k := 2) rfl (ra_dec _) (by decide) rfl (fun ls hl => ?_)
            refine lv_goto (tgt := 4) hx hb dX4_levelOf_20 (by decide) ?_
            exact ih_4 k (by omega) (by rw [← he]; exact (if_pos (Int32.not_le.mp c_14)).symm) (by omega) ls (lv_sub hl [1, 2, 0, 3] rfl)
  exact L_4 _ (j + 1) (Nat.le_refl _) rfl (Nat.lt_succ_self _) ls (lv_sub hl [2, 3, 1, 0] rfl)

set_option maxHeartbeats 4000000 in
set_option maxRecDepth 100000 in
theorem c_X4_volumeNow (l : Launch) (dC : Nat → ClassId) (dI : Nat → Nat → Nat) (cyI cyA : ClassId) (m0 m1 m2 m3 m4 m5 m6 m7 m8 m9 m10 m11 m12 m13 n : Nat) (kn fz : Int32) (fh fg ff fk uh ug uf uk th tg tf tk : FN) (vs vb vd us ub ud ts tb td : Int32) (ct : Nat → Nat) (kd vl : Nat → FN) (fr fp bp : FN) (hn : n ≤ 7) (hex : ∃ k, k < n ∧ ¬ fr k < 0) : Met l yX4_volumeNow wsX4_volumeNow (rm 1) (kR dC dI cyI cyA [.ref m0] [ob m0 4 [.int (nI n), .int kn, .int fz, .ref m1, .ref m2, .ref m3, .ref m4, .ref m5, .ref m6, .ref m7, .ref m8, .ref m9, .ref m10, .ref m11, .ref m12, .ref m13], ai m1 cyI 21 (f3 fh uh th), ai m2 cyI 21 (f3 fg ug tg), ai m3 cyI 21 (f3 ff uf tf), ai m4 cyI 21 (f3 fk uk tk), ai m5 cyI 3 (t3 vs us ts), ai m6 cyI 3 (t3 vb ub tb), ai m7 cyI 3 (t3 vd ud td), ai m8 cyI 3 (nF ct), ai m9 cyI 36 (q12 kd), ai m10 cyI 36 (q12 vl), ai m11 cyI 7 fr, ai m12 cyI 3 fp, ai m13 cyI 3 bp]) (QcRead (mVol fr n n 0 0)) 0 0 (fun _ => False) := by
  refine ra_metR (cc := cX4_volumeNow) (maxL := 3) (by decide) rfl (Nat.le_of_ble_eq_true rfl) ?_
  intro p e s m below meth c args Q hQ hx hb hr hlocks hml hts hown hK hN hP ls hl
  have hl : lv_has ls 3 [(0, .ref m0)] := hl
  have hown : s.vm.findClass RX4 = some m.cls := hown
  have hw_1 := hts (.fieldLink RX4 7 "DuneBenchModel" "n" "I") (by decide +kernel)
  have hin_X4 : ∀ w ∈ u_ws RX4 TX4 16, w ∈ wsX4_volumeNow := by decide +kernel
  refine lv_iconst (v := 0) hx hb dX4_volumeNow_0 (by decide) ?_
  refine lv_istore_n (lv' := [(1, .int 0), (0, .ref m0)]) hx hb dX4_volumeNow_1 rfl hl (by decide) rfl (fun ls hl => ?_)
  refine lv_iconst (v := 0) hx hb dX4_volumeNow_2 (by decide) ?_
  refine lv_istore_n (lv' := [(2, .int 0), (1, .int 0), (0, .ref m0)]) hx hb dX4_volumeNow_3 rfl hl (by decide) rfl (fun ls hl => ?_)
  have L_4 : ∀ (n9 : Nat) (i : Nat) (x : Int32), (i ≤ n) → (mVol fr n (n - i) i x = mVol fr n n 0 0) → (n - i) < n9 → ∀ ls : Array Slot, lv_has ls 3 [(0, .ref m0), (1, .int x), (2, .int (nI i))] → W p l e (rm 1) s m args below meth c s.heap [] 0 0 Q (F0 m 4 ls []) := by
    intro n9
    induction n9 with
    | zero =>
      intro i x hi he hm9
      exact absurd hm9 (Nat.not_lt_zero _)
    | succ n9 ih_4 =>
      intro i x hi he hm9 ls hl
      refine lv_iload_n hx hb dX4_volumeNow_4 rfl (lv_at hl 2 rfl) ?_
      refine lv_aload_n hx hb dX4_volumeNow_5 rfl (lv_at hl 0 rfl) ?_
      refine va_get (D := (dC, dI)) (ci := 4) (v := .int (nI n)) (C := RX4) (T := TX4) (N := 16) hx hb hts hin_X4 hown hK hP 0 rfl rfl 0 (by decide) hw_1 (fun _ h9 => h9) rfl dX4_volumeNow_6 ?_
      refine lv_icmp_ge (tgt := 26) hx hb dX4_volumeNow_9 (by decide) (fun c_9 => ?_) (fun c_9 => ?_)
      · ---- to 26
        have n_9 := (nq_le n i (by omega) (by omega)).mp c_9
        refine lv_iload_n hx hb dX4_volumeNow_26 rfl (lv_at hl 1 rfl) ?_
        rw [hQ]
        exact ra_iretR hx hb hr hlocks rfl (by rw [← he, show n - i = 0 by omega]; rfl) dX4_volumeNow_27
      · ---- on
        have n_9 := (nq_le_n n i (by omega) (by omega)).mp c_9
        refine lv_iload_n hx hb dX4_volumeNow_12 rfl (lv_at hl 1 rfl) ?_
        refine lv_aload_n hx hb dX4_volumeNow_13 rfl (lv_at hl 0 rfl) ?_
        refine lv_iload_n hx hb dX4_volumeNow_14 rfl (lv_at hl 2 rfl) ?_
        refine ra_cR (q := (RX4, TX4, 16)) (ci := 4) (As := [.int (nI i)]) (rest := [.int x]) (wc := [ob m0 4 [.int (nI n), .int kn, .int fz, .ref m1, .ref m2, .ref m3, .ref m4, .ref m5, .ref m6, .ref m7, .ref m8, .ref m9, .ref m10, .ref m11, .ref m12, .ref m13], ai m1 cyI 21 (f3 fh uh th), ai m2 cyI 21 (f3 fg ug tg), ai m3 cyI 21 (f3 ff uf tf), ai m4 cyI 21 (f3 fk uk tk), ai m5 cyI 3 (t3 vs us ts), ai m6 cyI 3 (t3 vb ub tb), ai m7 cyI 3 (t3 vd ud td), ai m8 cyI 3 (nF ct), ai m9 cyI 36 (q12 kd), ai m10 cyI 36 (q12 vl), ai m11 cyI 7 fr, ai m12 cyI 3 fp, ai m13 cyI 3 bp]) ⟨hx, hb, hml, hown, hts⟩ (c_X4_levelOf l dC dI cyI cyA m0 m1 m2 m3 m4 m5 m6 m7 m8 m9 m10 m11 m12 m13 n kn fz fh fg ff fk uh ug uf uk th tg tf tk vs vb vd us ub ud ts tb td ct kd vl fr fp bp i (by omega) (by omega) hex) (cwV 1 hts gX4_volumeNow_X4_levelOf rfl rfl rfl (by decide +kernel) ⟨Nat.le_of_ble_eq_true rfl, Nat.le_of_ble_eq_true rfl⟩) hK hN hP [0, 1, 2, 3, 4, 5, 6, 7, 8, 9, 10, 11, 12, 13] rfl rfl rfl rfl hl.1 rfl (Nat.le_of_ble_eq_true rfl) dX4_volumeNow_15 ⟨Nat.le_of_ble_eq_true rfl, Nat.le_of_ble_eq_true rfl⟩ ?_
        refine lv_iadd hx hb dX4_volumeNow_18 ?_
        refine lv_istore_n (lv' := [(1, .int (x + (mLev fr n i))), (0, .ref m0), (2, .int (nI i))]) hx hb dX4_volumeNow_19 rfl hl (by decide) rfl (fun ls hl => ?_)
        refine lv_iinc (v := nI (i + 1)) (lv' := [(2, .int (nI (i + 1))), (1, .int (x + (mLev fr n i))), (0, .ref m0)]) hx hb dX4_volumeNow_20 hl (k := 2) rfl (ra_inc1 _) (by decide) rfl (fun ls hl => ?_)
        refine lv_goto (tgt := 4) hx hb dX4_volumeNow_23 (by decide) ?_
        exact ih_4 (i + 1) (x + (mLev fr n i)) (by omega) (by rw [← he, show n - i = n - (i + 1) + 1 by omega]; rfl) (by omega) ls (lv_sub hl [2, 1, 0] rfl)
  exact L_4 _ 0 0 (by omega) rfl (Nat.lt_succ_self _) ls (lv_sub hl [2, 1, 0] rfl)

set_option maxHeartbeats 4000000 in
set_option maxRecDepth 100000 in
theorem c_X4_part (l : Launch) (a : Nat) (wt : Int32) (ha : a < 2147483648) : Met l yX4_part wsX4_part (rm 0) (kS [.int (nI a), .int wt]) (QcRead (prt a wt)) 0 0 (fun _ => False) := by
  refine ra_metS (cc := cX4_part) (maxL := 5) (by decide) rfl (Nat.le_of_ble_eq_true rfl) ?_
  intro p e s m below meth c args Q hQ hx hb hr hlocks hml hts hown hN ls hl
  have hl : lv_has ls 5 [(0, .int (nI a)), (1, .int wt)] := hl
  have hown : s.vm.findClass RX4 = some m.cls := hown
  refine lv_iload_n hx hb dX4_part_0 rfl (lv_at hl 0 rfl) ?_
  refine lv_istore_n (lv' := [(2, .int (nI a)), (0, .int (nI a)), (1, .int wt)]) hx hb dX4_part_1 rfl hl (by decide) rfl (fun ls hl => ?_)
  refine lv_bipush (v := 60) hx hb dX4_part_2 (by decide) ?_
  refine lv_istore_n (lv' := [(3, .int 60), (2, .int (nI a)), (0, .int (nI a)), (1, .int wt)]) hx hb dX4_part_4 rfl hl (by decide) rfl (fun ls hl => ?_)
  have L_5 : ∀ (n9 : Nat) (p2 : Nat) (q2 : Nat), (p2 < 2147483648) → (q2 ≤ 60) → (Nat.gcd p2 q2 = Nat.gcd a 60) → q2 < n9 → ∀ ls : Array Slot, lv_has ls 5 [(0, .int (nI a)), (1, .int wt), (2, .int (nI p2)), (3, .int (nI q2))] → W p l e (rm 0) s m args below meth c s.heap [] 0 0 Q (F0 m 5 ls []) := by
    intro n9
    induction n9 with
    | zero =>
      intro p2 q2 hp2 hq2 he hm9
      exact absurd hm9 (Nat.not_lt_zero _)
    | succ n9 ih_5 =>
      intro p2 q2 hp2 hq2 he hm9 ls hl
      refine lv_iload_n hx hb dX4_part_5 rfl (lv_at hl 3 rfl) ?_
      refine lv_if_eq (tgt := 22) hx hb dX4_part_6 (by decide) (fun c_6 => ?_) (fun c_6 => ?_)
      · ---- to 22
        have n_6 := (nq_eq q2 0 (by omega) (by omega)).mp c_6
        obtain rfl : q2 = 0 := n_6
        have hpe : p2 = Nat.gcd a 60 := by rw [← he, Nat.gcd_zero_right]
        have hp0 : 0 < p2 := by rw [hpe]; exact Nat.gcd_pos_of_pos_right _ (by omega)
        refine lv_iload_n hx hb dX4_part_22 rfl (lv_at hl 1 rfl) ?_
        have J_32_1 : ∀ v_32_1 : Int32, v_32_1 = (if wt = 0 then nI a else 60) → W p l e (rm 0) s m args below meth c s.heap [] 0 0 Q (F0 m 32 ls [.int v_32_1]) := by
          intro v_32_1 ev_32_1
          subst ev_32_1
          refine lv_iload_n hx hb dX4_part_32 rfl (lv_at hl 2 rfl) ?_
          refine lv_idiv hx hb dX4_part_33 (nI_ne0 hp0 hp2) ?_
          rw [hQ]
          exact ra_iretR hx hb hr hlocks rfl (by unfold prt; rw [← hpe]) dX4_part_34
        refine lv_if_ne (tgt := 30) hx hb dX4_part_23 (by decide) (fun c_23 => ?_) (fun c_23 => ?_)
        · ---- to 30
          refine lv_bipush (v := 60) hx hb dX4_part_30 (by decide) ?_
          exact J_32_1 _ (if_neg c_23).symm
        · ---- on
          refine lv_iload_n hx hb dX4_part_26 rfl (lv_at hl 0 rfl) ?_
          refine lv_goto (tgt := 32) hx hb dX4_part_27 (by decide) ?_
          exact J_32_1 _ (if_pos c_23).symm
      · ---- on
        have n_6 := (nq_eq_n q2 0 (by omega) (by omega)).mp c_6
        refine lv_iload_n hx hb dX4_part_9 rfl (lv_at hl 2 rfl) ?_
        refine lv_iload_n hx hb dX4_part_10 rfl (lv_at hl 3 rfl) ?_
        refine lv_irem hx hb dX4_part_11 c_6 ?_
        refine ra_top (nI (p2 % q2)) (pk_rem hp2 (by omega) (by omega)) ?_
        refine lv_istore (lv' := [(4, .int (nI (p2 % q2))), (0, .int (nI a)), (1, .int wt), (2, .int (nI p2)), (3, .int (nI q2))]) hx hb dX4_part_12 hl (by decide) rfl (fun ls hl => ?_)
        refine lv_iload_n hx hb dX4_part_14 rfl (lv_at hl 4 rfl) ?_
        refine lv_istore_n (lv' := [(2, .int (nI q2)), (4, .int (nI (p2 % q2))), (0, .int (nI a)), (1, .int wt), (3, .int (nI q2))]) hx hb dX4_part_15 rfl hl (by decide) rfl (fun ls hl => ?_)
        refine lv_iload hx hb dX4_part_16 (lv_at hl 1 rfl) ?_
        refine lv_istore_n (lv' := [(3, .int (nI (p2 % q2))), (2, .int (nI q2)), (4, .int (nI (p2 % q2))), (0, .int (nI a)), (1, .int wt)]) hx hb dX4_part_18 rfl hl (by decide) rfl (fun ls hl => ?_)
        refine lv_goto (tgt := 5) hx hb dX4_part_19 (by decide) ?_
        exact ih_5 q2 (p2 % q2) (by omega) (by have := Nat.mod_lt p2 (show 0 < q2 by omega); omega) (gcd_step.trans he) (by have := Nat.mod_lt p2 (show 0 < q2 by omega); omega) ls (lv_sub hl [3, 4, 1, 0] rfl)
  exact L_5 _ a 60 ha (by omega) rfl (Nat.lt_succ_self _) ls (lv_sub hl [2, 3, 1, 0] rfl)

set_option maxHeartbeats 4000000 in
set_option maxRecDepth 100000 in
theorem c_X4_level (l : Launch) (dC : Nat → ClassId) (dI : Nat → Nat → Nat) (cyI cyA : ClassId) (m0 m1 m2 m3 m4 m5 m6 m7 m8 m9 m10 m11 m12 m13 n : Nat) (kn fz : Int32) (fh fg ff fk uh ug uf uk th tg tf tk : FN) (vs vb vd us ub ud ts tb td : Int32) (ct : Nat → Nat) (kd vl : Nat → FN) (fr fp bp : FN) (x wt : Int32) (hn : n ≤ 7) (hn1 : 1 ≤ n) (hct : ∀ w, w < 3 → ct w ≤ 12) (hlv : ∀ j, j < n → (∃ k, k < n ∧ ¬ fr k < 0) → ¬ mLev fr n j < 0) (sz : Nat) : Met l yX4_level wsX4_level (rm 2) (kW dC dI cyI cyA [.ref m0, .int x, .int wt] sz [ob m0 4 [.int (nI n), .int kn, .int fz, .ref m1, .ref m2, .ref m3, .ref m4, .ref m5, .ref m6, .ref m7, .ref m8, .ref m9, .ref m10, .ref m11, .ref m12, .ref m13], ai m1 cyI 21 (f3 fh uh th), ai m2 cyI 21 (f3 fg ug tg), ai m3 cyI 21 (f3 ff uf tf), ai m4 cyI 21 (f3 fk uk tk), ai m5 cyI 3 (t3 vs us ts), ai m6 cyI 3 (t3 vb ub tb), ai m7 cyI 3 (t3 vd ud td), ai m8 cyI 3 (nF ct), ai m9 cyI 36 (q12 kd), ai m10 cyI 36 (q12 vl), ai m11 cyI 7 fr, ai m12 cyI 3 fp, ai m13 cyI 3 bp]) (qI dC dI cyI cyA (fun (r : Int32) (_ : Unit) => r = sel (inC n x ∧ 0 ≤ wt ∧ wt ≤ 1) (sel (cntM fr n 0 0 = 0) (-3) (prt (mLev fr n x.toNatClampNeg).toNatClampNeg wt)) (-1)) (va_A [ob m0 4 [.int (nI n), .int kn, .int fz, .ref m1, .ref m2, .ref m3, .ref m4, .ref m5, .ref m6, .ref m7, .ref m8, .ref m9, .ref m10, .ref m11, .ref m12, .ref m13], ai m1 cyI 21 (f3 fh uh th), ai m2 cyI 21 (f3 fg ug tg), ai m3 cyI 21 (f3 ff uf tf), ai m4 cyI 21 (f3 fk uk tk), ai m5 cyI 3 (t3 vs us ts), ai m6 cyI 3 (t3 vb ub tb), ai m7 cyI 3 (t3 vd ud td), ai m8 cyI 3 (nF ct), ai m9 cyI 36 (q12 kd), ai m10 cyI 36 (q12 vl), ai m11 cyI 7 fr, ai m12 cyI 3 fp, ai m13 cyI 3 bp] sz) (fun _ => [ob m0 4 [.int (nI n), .int kn, .int fz, .ref m1, .ref m2, .ref m3, .ref m4, .ref m5, .ref m6, .ref m7, .ref m8, .ref m9, .ref m10, .ref m11, .ref m12, .ref m13], ai m1 cyI 21 (f3 fh uh th), ai m2 cyI 21 (f3 fg ug tg), ai m3 cyI 21 (f3 ff uf tf), ai m4 cyI 21 (f3 fk uk tk), ai m5 cyI 3 (t3 vs us ts), ai m6 cyI 3 (t3 vb ub tb), ai m7 cyI 3 (t3 vd ud td), ai m8 cyI 3 (nF ct), ai m9 cyI 36 (q12 kd), ai m10 cyI 36 (q12 vl), ai m11 cyI 7 fr, ai m12 cyI 3 fp, ai m13 cyI 3 bp])) 0 0 (va_A [ob m0 4 [.int (nI n), .int kn, .int fz, .ref m1, .ref m2, .ref m3, .ref m4, .ref m5, .ref m6, .ref m7, .ref m8, .ref m9, .ref m10, .ref m11, .ref m12, .ref m13], ai m1 cyI 21 (f3 fh uh th), ai m2 cyI 21 (f3 fg ug tg), ai m3 cyI 21 (f3 ff uf tf), ai m4 cyI 21 (f3 fk uk tk), ai m5 cyI 3 (t3 vs us ts), ai m6 cyI 3 (t3 vb ub tb), ai m7 cyI 3 (t3 vd ud td), ai m8 cyI 3 (nF ct), ai m9 cyI 36 (q12 kd), ai m10 cyI 36 (q12 vl), ai m11 cyI 7 fr, ai m12 cyI 3 fp, ai m13 cyI 3 bp] sz) := by
  refine ra_metW (cc := cX4_level) (maxL := 3) (Qc := fun A => qI dC dI cyI cyA (fun (r : Int32) (_ : Unit) => r = sel (inC n x ∧ 0 ≤ wt ∧ wt ≤ 1) (sel (cntM fr n 0 0 = 0) (-3) (prt (mLev fr n x.toNatClampNeg).toNatClampNeg wt)) (-1)) A (fun _ => [ob m0 4 [.int (nI n), .int kn, .int fz, .ref m1, .ref m2, .ref m3, .ref m4, .ref m5, .ref m6, .ref m7, .ref m8, .ref m9, .ref m10, .ref m11, .ref m12, .ref m13], ai m1 cyI 21 (f3 fh uh th), ai m2 cyI 21 (f3 fg ug tg), ai m3 cyI 21 (f3 ff uf tf), ai m4 cyI 21 (f3 fk uk tk), ai m5 cyI 3 (t3 vs us ts), ai m6 cyI 3 (t3 vb ub tb), ai m7 cyI 3 (t3 vd ud td), ai m8 cyI 3 (nF ct), ai m9 cyI 36 (q12 kd), ai m10 cyI 36 (q12 vl), ai m11 cyI 7 fr, ai m12 cyI 3 fp, ai m13 cyI 3 bp])) (by decide) rfl (Nat.le_of_ble_eq_true rfl) ?_
  intro p e s m below meth c A args Q hQ hx hb hr hlocks hml hts hown hnm hK hN hP hD hA hS ls hl
  have hl : lv_has ls 3 [(0, .ref m0), (1, .int x), (2, .int wt)] := hl
  have hown : s.vm.findClass RX4 = some m.cls := hown
  obtain ⟨H, hHe⟩ : ∃ H, H = s.heap := ⟨_, rfl⟩
  obtain ⟨locs, hLe⟩ : ∃ locs : List Loc, locs = [] := ⟨_, rfl⟩
  have hP : va_P (dC, dI) vwCl [ob m0 4 [.int (nI n), .int kn, .int fz, .ref m1, .ref m2, .ref m3, .ref m4, .ref m5, .ref m6, .ref m7, .ref m8, .ref m9, .ref m10, .ref m11, .ref m12, .ref m13], ai m1 cyI 21 (f3 fh uh th), ai m2 cyI 21 (f3 fg ug tg), ai m3 cyI 21 (f3 ff uf tf), ai m4 cyI 21 (f3 fk uk tk), ai m5 cyI 3 (t3 vs us ts), ai m6 cyI 3 (t3 vb ub tb), ai m7 cyI 3 (t3 vd ud td), ai m8 cyI 3 (nF ct), ai m9 cyI 36 (q12 kd), ai m10 cyI 36 (q12 vl), ai m11 cyI 7 fr, ai m12 cyI 3 fp, ai m13 cyI 3 bp] H := by rw [hHe]; exact hP
  have hS : va_S A s.heap H locs := by rw [hHe, hLe]; exact hS
  suffices hgo : W p l e (rm 2) s m args below meth c H locs 0 0 Q (F0 m 0 ls []) by rw [hHe, hLe] at hgo; exact hgo
  have hcm := cntM_le fr n 0 0
  refine lv_aload_n hx hb dX4_level_0 rfl (lv_at hl 0 rfl) ?_
  refine lv_iload_n hx hb dX4_level_1 rfl (lv_at hl 1 rfl) ?_
  refine ra_cR (q := (RX4, TX4, 16)) (ci := 4) (As := [.int x]) (rest := []) (wc := [ob m0 4 [.int (nI n), .int kn, .int fz, .ref m1, .ref m2, .ref m3, .ref m4, .ref m5, .ref m6, .ref m7, .ref m8, .ref m9, .ref m10, .ref m11, .ref m12, .ref m13], ai m1 cyI 21 (f3 fh uh th), ai m2 cyI 21 (f3 fg ug tg), ai m3 cyI 21 (f3 ff uf tf), ai m4 cyI 21 (f3 fk uk tk), ai m5 cyI 3 (t3 vs us ts), ai m6 cyI 3 (t3 vb ub tb), ai m7 cyI 3 (t3 vd ud td), ai m8 cyI 3 (nF ct), ai m9 cyI 36 (q12 kd), ai m10 cyI 36 (q12 vl), ai m11 cyI 7 fr, ai m12 cyI 3 fp, ai m13 cyI 3 bp]) ⟨hx, hb, hml, hown, hts⟩ (c_X4_isCell l dC dI cyI cyA m0 m1 m2 m3 m4 m5 m6 m7 m8 m9 m10 m11 m12 m13 n kn fz fh fg ff fk uh ug uf uk th tg tf tk vs vb vd us ub ud ts tb td ct kd vl fr fp bp x (by omega) (by omega)) (cwV 1 hts gX4_level_X4_isCell rfl rfl rfl (by decide +kernel) ⟨Nat.le_of_ble_eq_true rfl, Nat.le_of_ble_eq_true rfl⟩) hK hN hP [0, 1, 2, 3, 4, 5, 6, 7, 8, 9, 10, 11, 12, 13] rfl rfl rfl rfl hl.1 rfl (Nat.le_of_ble_eq_true rfl) dX4_level_2 ⟨Nat.le_of_ble_eq_true rfl, Nat.le_of_ble_eq_true rfl⟩ ?_
  refine lv_if_eq (tgt := 17) hx hb dX4_level_5 (by decide) (fun c_5 => ?_) (fun c_5 => ?_)
  · ---- to 17
    have c_5 := bi_0 c_5
    refine lv_iconst (v := (-1)) hx hb dX4_level_17 (by decide) ?_
    rw [hQ]
    rw [sel_f (show ¬ (inC n x ∧ 0 ≤ wt ∧ wt ≤ 1) from fun q => c_5 q.1)]
    exact ra_iretW () hx hb hr hlocks rfl hK hP hD hS rfl dX4_level_18
  · ---- on
    have c_5 := bi_1 c_5
    refine lv_iload_n hx hb dX4_level_8 rfl (lv_at hl 2 rfl) ?_
    refine lv_iconst (v := 0) hx hb dX4_level_9 (by decide) ?_
    refine lv_iconst (v := 1) hx hb dX4_level_10 (by decide) ?_
    refine ra_cS (As := [.int wt, .int 0, .int 1]) (rest := []) ⟨hx, hb, hml, hown, hts⟩ (c_X4_in l wt 0 1 ) (va_cwS 3 hts gX4_level_X4_in rfl rfl rfl (by decide +kernel) ⟨Nat.le_of_ble_eq_true rfl, Nat.le_of_ble_eq_true rfl⟩) hN rfl hl.1 rfl (Nat.le_of_ble_eq_true rfl) dX4_level_11 ⟨Nat.le_of_ble_eq_true rfl, Nat.le_of_ble_eq_true rfl⟩ ?_
    refine lv_if_ne (tgt := 19) hx hb dX4_level_14 (by decide) (fun c_14 => ?_) (fun c_14 => ?_)
    · ---- to 19
      have c_14 := bi_1 c_14
      obtain ⟨j, hj, rfl⟩ := i32_natn c_5 hn
      refine lv_aload_n hx hb dX4_level_19 rfl (lv_at hl 0 rfl) ?_
      refine ra_cR (q := (RX4, TX4, 16)) (ci := 4) (As := []) (rest := []) (wc := [ob m0 4 [.int (nI n), .int kn, .int fz, .ref m1, .ref m2, .ref m3, .ref m4, .ref m5, .ref m6, .ref m7, .ref m8, .ref m9, .ref m10, .ref m11, .ref m12, .ref m13], ai m1 cyI 21 (f3 fh uh th), ai m2 cyI 21 (f3 fg ug tg), ai m3 cyI 21 (f3 ff uf tf), ai m4 cyI 21 (f3 fk uk tk), ai m5 cyI 3 (t3 vs us ts), ai m6 cyI 3 (t3 vb ub tb), ai m7 cyI 3 (t3 vd ud td), ai m8 cyI 3 (nF ct), ai m9 cyI 36 (q12 kd), ai m10 cyI 36 (q12 vl), ai m11 cyI 7 fr, ai m12 cyI 3 fp, ai m13 cyI 3 bp]) ⟨hx, hb, hml, hown, hts⟩ (c_X4_readings l dC dI cyI cyA m0 m1 m2 m3 m4 m5 m6 m7 m8 m9 m10 m11 m12 m13 n kn fz fh fg ff fk uh ug uf uk th tg tf tk vs vb vd us ub ud ts tb td ct kd vl fr fp bp (by omega)) (cwV 0 hts gX4_level_X4_readings rfl rfl rfl (by decide +kernel) ⟨Nat.le_of_ble_eq_true rfl, Nat.le_of_ble_eq_true rfl⟩) hK hN hP [0, 1, 2, 3, 4, 5, 6, 7, 8, 9, 10, 11, 12, 13] rfl rfl rfl rfl hl.1 rfl (Nat.le_of_ble_eq_true rfl) dX4_level_20 ⟨Nat.le_of_ble_eq_true rfl, Nat.le_of_ble_eq_true rfl⟩ ?_
      refine lv_if_ne (tgt := 31) hx hb dX4_level_23 (by decide) (fun c_23 => ?_) (fun c_23 => ?_)
      · ---- to 31
        have n_23 := (nq_eq_n (cntM fr n 0 0) 0 (by omega) (by omega)).mp c_23
        have hex : ∃ k, k < n ∧ ¬ fr k < 0 := by obtain ⟨k, z1, z2, z3⟩ := cntM_1 fr n 0 0 (by omega); exact ⟨k, by omega, z3⟩
        refine lv_aload_n hx hb dX4_level_31 rfl (lv_at hl 0 rfl) ?_
        refine lv_iload_n hx hb dX4_level_32 rfl (lv_at hl 1 rfl) ?_
        refine ra_cR (q := (RX4, TX4, 16)) (ci := 4) (As := [.int (nI j)]) (rest := []) (wc := [ob m0 4 [.int (nI n), .int kn, .int fz, .ref m1, .ref m2, .ref m3, .ref m4, .ref m5, .ref m6, .ref m7, .ref m8, .ref m9, .ref m10, .ref m11, .ref m12, .ref m13], ai m1 cyI 21 (f3 fh uh th), ai m2 cyI 21 (f3 fg ug tg), ai m3 cyI 21 (f3 ff uf tf), ai m4 cyI 21 (f3 fk uk tk), ai m5 cyI 3 (t3 vs us ts), ai m6 cyI 3 (t3 vb ub tb), ai m7 cyI 3 (t3 vd ud td), ai m8 cyI 3 (nF ct), ai m9 cyI 36 (q12 kd), ai m10 cyI 36 (q12 vl), ai m11 cyI 7 fr, ai m12 cyI 3 fp, ai m13 cyI 3 bp]) ⟨hx, hb, hml, hown, hts⟩ (c_X4_levelOf l dC dI cyI cyA m0 m1 m2 m3 m4 m5 m6 m7 m8 m9 m10 m11 m12 m13 n kn fz fh fg ff fk uh ug uf uk th tg tf tk vs vb vd us ub ud ts tb td ct kd vl fr fp bp j (by omega) (by omega) hex) (cwV 1 hts gX4_level_X4_levelOf rfl rfl rfl (by decide +kernel) ⟨Nat.le_of_ble_eq_true rfl, Nat.le_of_ble_eq_true rfl⟩) hK hN hP [0, 1, 2, 3, 4, 5, 6, 7, 8, 9, 10, 11, 12, 13] rfl rfl rfl rfl hl.1 rfl (Nat.le_of_ble_eq_true rfl) dX4_level_33 ⟨Nat.le_of_ble_eq_true rfl, Nat.le_of_ble_eq_true rfl⟩ ?_
        refine ra_top (nI ((mLev fr n j).toNatClampNeg)) (i32_cl (hlv j hj hex)) ?_
        refine lv_iload_n hx hb dX4_level_36 rfl (lv_at hl 2 rfl) ?_
        refine ra_cS (As := [.int (nI ((mLev fr n j).toNatClampNeg)), .int wt]) (rest := []) ⟨hx, hb, hml, hown, hts⟩ (c_X4_part l ((mLev fr n j).toNatClampNeg) wt (cl_lt _)) (va_cwS 2 hts gX4_level_X4_part rfl rfl rfl (by decide +kernel) ⟨Nat.le_of_ble_eq_true rfl, Nat.le_of_ble_eq_true rfl⟩) hN rfl hl.1 rfl (Nat.le_of_ble_eq_true rfl) dX4_level_37 ⟨Nat.le_of_ble_eq_true rfl, Nat.le_of_ble_eq_true rfl⟩ ?_
        rw [hQ]
        rw [sel_t (show inC n (nI j) ∧ 0 ≤ wt ∧ wt ≤ 1 from ⟨c_5, c_14⟩), sel_f n_23, nI_cl (show j ≤ 20 by omega)]
        exact ra_iretW () hx hb hr hlocks rfl hK hP hD hS rfl dX4_level_40
      · ---- on
        have n_23 := (nq_eq (cntM fr n 0 0) 0 (by omega) (by omega)).mp c_23
        refine lv_bipush (v := (-3)) hx hb dX4_level_26 (by decide) ?_
        refine lv_goto (tgt := 40) hx hb dX4_level_28 (by decide) ?_
        rw [hQ]
        rw [sel_t (show inC n (nI j) ∧ 0 ≤ wt ∧ wt ≤ 1 from ⟨c_5, c_14⟩), sel_t n_23]
        exact ra_iretW () hx hb hr hlocks rfl hK hP hD hS rfl dX4_level_40
    · ---- on
      have c_14 := bi_0 c_14
      refine lv_iconst (v := (-1)) hx hb dX4_level_17 (by decide) ?_
      rw [hQ]
      rw [sel_f (show ¬ (inC n x ∧ 0 ≤ wt ∧ wt ≤ 1) from fun q => c_14 q.2)]
      exact ra_iretW () hx hb hr hlocks rfl hK hP hD hS rfl dX4_level_18

set_option maxHeartbeats 4000000 in
set_option maxRecDepth 100000 in
theorem c_X4_volume (l : Launch) (dC : Nat → ClassId) (dI : Nat → Nat → Nat) (cyI cyA : ClassId) (m0 m1 m2 m3 m4 m5 m6 m7 m8 m9 m10 m11 m12 m13 n : Nat) (kn fz : Int32) (fh fg ff fk uh ug uf uk th tg tf tk : FN) (vs vb vd us ub ud ts tb td : Int32) (ct : Nat → Nat) (kd vl : Nat → FN) (fr fp bp : FN) (wt : Int32) (hn : n ≤ 7) (hn1 : 1 ≤ n) (hct : ∀ w, w < 3 → ct w ≤ 12) (hvl : (∃ k, k < n ∧ ¬ fr k < 0) → ¬ mVol fr n n 0 0 < 0) (sz : Nat) : Met l yX4_volume wsX4_volume (rm 2) (kW dC dI cyI cyA [.ref m0, .int wt] sz [ob m0 4 [.int (nI n), .int kn, .int fz, .ref m1, .ref m2, .ref m3, .ref m4, .ref m5, .ref m6, .ref m7, .ref m8, .ref m9, .ref m10, .ref m11, .ref m12, .ref m13], ai m1 cyI 21 (f3 fh uh th), ai m2 cyI 21 (f3 fg ug tg), ai m3 cyI 21 (f3 ff uf tf), ai m4 cyI 21 (f3 fk uk tk), ai m5 cyI 3 (t3 vs us ts), ai m6 cyI 3 (t3 vb ub tb), ai m7 cyI 3 (t3 vd ud td), ai m8 cyI 3 (nF ct), ai m9 cyI 36 (q12 kd), ai m10 cyI 36 (q12 vl), ai m11 cyI 7 fr, ai m12 cyI 3 fp, ai m13 cyI 3 bp]) (qI dC dI cyI cyA (fun (r : Int32) (_ : Unit) => r = sel (0 ≤ wt ∧ wt ≤ 1) (sel (cntM fr n 0 0 = 0) (-3) (prt (mVol fr n n 0 0).toNatClampNeg wt)) (-1)) (va_A [ob m0 4 [.int (nI n), .int kn, .int fz, .ref m1, .ref m2, .ref m3, .ref m4, .ref m5, .ref m6, .ref m7, .ref m8, .ref m9, .ref m10, .ref m11, .ref m12, .ref m13], ai m1 cyI 21 (f3 fh uh th), ai m2 cyI 21 (f3 fg ug tg), ai m3 cyI 21 (f3 ff uf tf), ai m4 cyI 21 (f3 fk uk tk), ai m5 cyI 3 (t3 vs us ts), ai m6 cyI 3 (t3 vb ub tb), ai m7 cyI 3 (t3 vd ud td), ai m8 cyI 3 (nF ct), ai m9 cyI 36 (q12 kd), ai m10 cyI 36 (q12 vl), ai m11 cyI 7 fr, ai m12 cyI 3 fp, ai m13 cyI 3 bp] sz) (fun _ => [ob m0 4 [.int (nI n), .int kn, .int fz, .ref m1, .ref m2, .ref m3, .ref m4, .ref m5, .ref m6, .ref m7, .ref m8, .ref m9, .ref m10, .ref m11, .ref m12, .ref m13], ai m1 cyI 21 (f3 fh uh th), ai m2 cyI 21 (f3 fg ug tg), ai m3 cyI 21 (f3 ff uf tf), ai m4 cyI 21 (f3 fk uk tk), ai m5 cyI 3 (t3 vs us ts), ai m6 cyI 3 (t3 vb ub tb), ai m7 cyI 3 (t3 vd ud td), ai m8 cyI 3 (nF ct), ai m9 cyI 36 (q12 kd), ai m10 cyI 36 (q12 vl), ai m11 cyI 7 fr, ai m12 cyI 3 fp, ai m13 cyI 3 bp])) 0 0 (va_A [ob m0 4 [.int (nI n), .int kn, .int fz, .ref m1, .ref m2, .ref m3, .ref m4, .ref m5, .ref m6, .ref m7, .ref m8, .ref m9, .ref m10, .ref m11, .ref m12, .ref m13], ai m1 cyI 21 (f3 fh uh th), ai m2 cyI 21 (f3 fg ug tg), ai m3 cyI 21 (f3 ff uf tf), ai m4 cyI 21 (f3 fk uk tk), ai m5 cyI 3 (t3 vs us ts), ai m6 cyI 3 (t3 vb ub tb), ai m7 cyI 3 (t3 vd ud td), ai m8 cyI 3 (nF ct), ai m9 cyI 36 (q12 kd), ai m10 cyI 36 (q12 vl), ai m11 cyI 7 fr, ai m12 cyI 3 fp, ai m13 cyI 3 bp] sz) := by
  refine ra_metW (cc := cX4_volume) (maxL := 2) (Qc := fun A => qI dC dI cyI cyA (fun (r : Int32) (_ : Unit) => r = sel (0 ≤ wt ∧ wt ≤ 1) (sel (cntM fr n 0 0 = 0) (-3) (prt (mVol fr n n 0 0).toNatClampNeg wt)) (-1)) A (fun _ => [ob m0 4 [.int (nI n), .int kn, .int fz, .ref m1, .ref m2, .ref m3, .ref m4, .ref m5, .ref m6, .ref m7, .ref m8, .ref m9, .ref m10, .ref m11, .ref m12, .ref m13], ai m1 cyI 21 (f3 fh uh th), ai m2 cyI 21 (f3 fg ug tg), ai m3 cyI 21 (f3 ff uf tf), ai m4 cyI 21 (f3 fk uk tk), ai m5 cyI 3 (t3 vs us ts), ai m6 cyI 3 (t3 vb ub tb), ai m7 cyI 3 (t3 vd ud td), ai m8 cyI 3 (nF ct), ai m9 cyI 36 (q12 kd), ai m10 cyI 36 (q12 vl), ai m11 cyI 7 fr, ai m12 cyI 3 fp, ai m13 cyI 3 bp])) (by decide) rfl (Nat.le_of_ble_eq_true rfl) ?_
  intro p e s m below meth c A args Q hQ hx hb hr hlocks hml hts hown hnm hK hN hP hD hA hS ls hl
  have hl : lv_has ls 2 [(0, .ref m0), (1, .int wt)] := hl
  have hown : s.vm.findClass RX4 = some m.cls := hown
  obtain ⟨H, hHe⟩ : ∃ H, H = s.heap := ⟨_, rfl⟩
  obtain ⟨locs, hLe⟩ : ∃ locs : List Loc, locs = [] := ⟨_, rfl⟩
  have hP : va_P (dC, dI) vwCl [ob m0 4 [.int (nI n), .int kn, .int fz, .ref m1, .ref m2, .ref m3, .ref m4, .ref m5, .ref m6, .ref m7, .ref m8, .ref m9, .ref m10, .ref m11, .ref m12, .ref m13], ai m1 cyI 21 (f3 fh uh th), ai m2 cyI 21 (f3 fg ug tg), ai m3 cyI 21 (f3 ff uf tf), ai m4 cyI 21 (f3 fk uk tk), ai m5 cyI 3 (t3 vs us ts), ai m6 cyI 3 (t3 vb ub tb), ai m7 cyI 3 (t3 vd ud td), ai m8 cyI 3 (nF ct), ai m9 cyI 36 (q12 kd), ai m10 cyI 36 (q12 vl), ai m11 cyI 7 fr, ai m12 cyI 3 fp, ai m13 cyI 3 bp] H := by rw [hHe]; exact hP
  have hS : va_S A s.heap H locs := by rw [hHe, hLe]; exact hS
  suffices hgo : W p l e (rm 2) s m args below meth c H locs 0 0 Q (F0 m 0 ls []) by rw [hHe, hLe] at hgo; exact hgo
  have hcm := cntM_le fr n 0 0
  refine lv_iload_n hx hb dX4_volume_0 rfl (lv_at hl 1 rfl) ?_
  refine lv_iconst (v := 0) hx hb dX4_volume_1 (by decide) ?_
  refine lv_iconst (v := 1) hx hb dX4_volume_2 (by decide) ?_
  refine ra_cS (As := [.int wt, .int 0, .int 1]) (rest := []) ⟨hx, hb, hml, hown, hts⟩ (c_X4_in l wt 0 1 ) (va_cwS 3 hts gX4_volume_X4_in rfl rfl rfl (by decide +kernel) ⟨Nat.le_of_ble_eq_true rfl, Nat.le_of_ble_eq_true rfl⟩) hN rfl hl.1 rfl (Nat.le_of_ble_eq_true rfl) dX4_volume_3 ⟨Nat.le_of_ble_eq_true rfl, Nat.le_of_ble_eq_true rfl⟩ ?_
  refine lv_if_ne (tgt := 11) hx hb dX4_volume_6 (by decide) (fun c_6 => ?_) (fun c_6 => ?_)
  · ---- to 11
    have c_6 := bi_1 c_6
    refine lv_aload_n hx hb dX4_volume_11 rfl (lv_at hl 0 rfl) ?_
    refine ra_cR (q := (RX4, TX4, 16)) (ci := 4) (As := []) (rest := []) (wc := [ob m0 4 [.int (nI n), .int kn, .int fz, .ref m1, .ref m2, .ref m3, .ref m4, .ref m5, .ref m6, .ref m7, .ref m8, .ref m9, .ref m10, .ref m11, .ref m12, .ref m13], ai m1 cyI 21 (f3 fh uh th), ai m2 cyI 21 (f3 fg ug tg), ai m3 cyI 21 (f3 ff uf tf), ai m4 cyI 21 (f3 fk uk tk), ai m5 cyI 3 (t3 vs us ts), ai m6 cyI 3 (t3 vb ub tb), ai m7 cyI 3 (t3 vd ud td), ai m8 cyI 3 (nF ct), ai m9 cyI 36 (q12 kd), ai m10 cyI 36 (q12 vl), ai m11 cyI 7 fr, ai m12 cyI 3 fp, ai m13 cyI 3 bp]) ⟨hx, hb, hml, hown, hts⟩ (c_X4_readings l dC dI cyI cyA m0 m1 m2 m3 m4 m5 m6 m7 m8 m9 m10 m11 m12 m13 n kn fz fh fg ff fk uh ug uf uk th tg tf tk vs vb vd us ub ud ts tb td ct kd vl fr fp bp (by omega)) (cwV 0 hts gX4_volume_X4_readings rfl rfl rfl (by decide +kernel) ⟨Nat.le_of_ble_eq_true rfl, Nat.le_of_ble_eq_true rfl⟩) hK hN hP [0, 1, 2, 3, 4, 5, 6, 7, 8, 9, 10, 11, 12, 13] rfl rfl rfl rfl hl.1 rfl (Nat.le_of_ble_eq_true rfl) dX4_volume_12 ⟨Nat.le_of_ble_eq_true rfl, Nat.le_of_ble_eq_true rfl⟩ ?_
    refine lv_if_ne (tgt := 23) hx hb dX4_volume_15 (by decide) (fun c_15 => ?_) (fun c_15 => ?_)
    · ---- to 23
      have n_15 := (nq_eq_n (cntM fr n 0 0) 0 (by omega) (by omega)).mp c_15
      have hex : ∃ k, k < n ∧ ¬ fr k < 0 := by obtain ⟨k, z1, z2, z3⟩ := cntM_1 fr n 0 0 (by omega); exact ⟨k, by omega, z3⟩
      refine lv_aload_n hx hb dX4_volume_23 rfl (lv_at hl 0 rfl) ?_
      refine ra_cR (q := (RX4, TX4, 16)) (ci := 4) (As := []) (rest := []) (wc := [ob m0 4 [.int (nI n), .int kn, .int fz, .ref m1, .ref m2, .ref m3, .ref m4, .ref m5, .ref m6, .ref m7, .ref m8, .ref m9, .ref m10, .ref m11, .ref m12, .ref m13], ai m1 cyI 21 (f3 fh uh th), ai m2 cyI 21 (f3 fg ug tg), ai m3 cyI 21 (f3 ff uf tf), ai m4 cyI 21 (f3 fk uk tk), ai m5 cyI 3 (t3 vs us ts), ai m6 cyI 3 (t3 vb ub tb), ai m7 cyI 3 (t3 vd ud td), ai m8 cyI 3 (nF ct), ai m9 cyI 36 (q12 kd), ai m10 cyI 36 (q12 vl), ai m11 cyI 7 fr, ai m12 cyI 3 fp, ai m13 cyI 3 bp]) ⟨hx, hb, hml, hown, hts⟩ (c_X4_volumeNow l dC dI cyI cyA m0 m1 m2 m3 m4 m5 m6 m7 m8 m9 m10 m11 m12 m13 n kn fz fh fg ff fk uh ug uf uk th tg tf tk vs vb vd us ub ud ts tb td ct kd vl fr fp bp (by omega) hex) (cwV 0 hts gX4_volume_X4_volumeNow rfl rfl rfl (by decide +kernel) ⟨Nat.le_of_ble_eq_true rfl, Nat.le_of_ble_eq_true rfl⟩) hK hN hP [0, 1, 2, 3, 4, 5, 6, 7, 8, 9, 10, 11, 12, 13] rfl rfl rfl rfl hl.1 rfl (Nat.le_of_ble_eq_true rfl) dX4_volume_24 ⟨Nat.le_of_ble_eq_true rfl, Nat.le_of_ble_eq_true rfl⟩ ?_
      refine ra_top (nI ((mVol fr n n 0 0).toNatClampNeg)) (i32_cl (hvl hex)) ?_
      refine lv_iload_n hx hb dX4_volume_27 rfl (lv_at hl 1 rfl) ?_
      refine ra_cS (As := [.int (nI ((mVol fr n n 0 0).toNatClampNeg)), .int wt]) (rest := []) ⟨hx, hb, hml, hown, hts⟩ (c_X4_part l ((mVol fr n n 0 0).toNatClampNeg) wt (cl_lt _)) (va_cwS 2 hts gX4_volume_X4_part rfl rfl rfl (by decide +kernel) ⟨Nat.le_of_ble_eq_true rfl, Nat.le_of_ble_eq_true rfl⟩) hN rfl hl.1 rfl (Nat.le_of_ble_eq_true rfl) dX4_volume_28 ⟨Nat.le_of_ble_eq_true rfl, Nat.le_of_ble_eq_true rfl⟩ ?_
      rw [hQ]
      rw [sel_t c_6, sel_f n_15]
      exact ra_iretW () hx hb hr hlocks rfl hK hP hD hS rfl dX4_volume_31
    · ---- on
      have n_15 := (nq_eq (cntM fr n 0 0) 0 (by omega) (by omega)).mp c_15
      refine lv_bipush (v := (-3)) hx hb dX4_volume_18 (by decide) ?_
      refine lv_goto (tgt := 31) hx hb dX4_volume_20 (by decide) ?_
      rw [hQ]
      rw [sel_t c_6, sel_t n_15]
      exact ra_iretW () hx hb hr hlocks rfl hK hP hD hS rfl dX4_volume_31
  · ---- on
    have c_6 := bi_0 c_6
    refine lv_iconst (v := (-1)) hx hb dX4_volume_9 (by decide) ?_
    rw [hQ]
    rw [sel_f c_6]
    exact ra_iretW () hx hb hr hlocks rfl hK hP hD hS rfl dX4_volume_10

set_option maxHeartbeats 4000000 in
set_option maxRecDepth 100000 in
theorem c_X4_doubt (l : Launch) (dC : Nat → ClassId) (dI : Nat → Nat → Nat) (cyI cyA : ClassId) (m0 m1 m2 m3 m4 m5 m6 m7 m8 m9 m10 m11 m12 m13 n : Nat) (kn fz : Int32) (fh fg ff fk uh ug uf uk th tg tf tk : FN) (vs vb vd us ub ud ts tb td : Int32) (ct : Nat → Nat) (kd vl : Nat → FN) (fr fp bp : FN) (wt : Int32) (hn : n ≤ 7) (hn1 : 1 ≤ n) (hct : ∀ w, w < 3 → ct w ≤ 12) (hdb : 2 ≤ cntM fr n 0 0 → ¬ mDbt fr n (mVol fr n n 0 0) n 0 0 < 0) (sz : Nat) : Met l yX4_doubt wsX4_doubt (rm 2) (kW dC dI cyI cyA [.ref m0, .int wt] sz [ob m0 4 [.int (nI n), .int kn, .int fz, .ref m1, .ref m2, .ref m3, .ref m4, .ref m5, .ref m6, .ref m7, .ref m8, .ref m9, .ref m10, .ref m11, .ref m12, .ref m13], ai m1 cyI 21 (f3 fh uh th), ai m2 cyI 21 (f3 fg ug tg), ai m3 cyI 21 (f3 ff uf tf), ai m4 cyI 21 (f3 fk uk tk), ai m5 cyI 3 (t3 vs us ts), ai m6 cyI 3 (t3 vb ub tb), ai m7 cyI 3 (t3 vd ud td), ai m8 cyI 3 (nF ct), ai m9 cyI 36 (q12 kd), ai m10 cyI 36 (q12 vl), ai m11 cyI 7 fr, ai m12 cyI 3 fp, ai m13 cyI 3 bp]) (qI dC dI cyI cyA (fun (r : Int32) (_ : Unit) => r = sel (0 ≤ wt ∧ wt ≤ 1) (sel (2 ≤ cntM fr n 0 0) (prt (mDbt fr n (mVol fr n n 0 0) n 0 0).toNatClampNeg wt) (-3)) (-1)) (va_A [ob m0 4 [.int (nI n), .int kn, .int fz, .ref m1, .ref m2, .ref m3, .ref m4, .ref m5, .ref m6, .ref m7, .ref m8, .ref m9, .ref m10, .ref m11, .ref m12, .ref m13], ai m1 cyI 21 (f3 fh uh th), ai m2 cyI 21 (f3 fg ug tg), ai m3 cyI 21 (f3 ff uf tf), ai m4 cyI 21 (f3 fk uk tk), ai m5 cyI 3 (t3 vs us ts), ai m6 cyI 3 (t3 vb ub tb), ai m7 cyI 3 (t3 vd ud td), ai m8 cyI 3 (nF ct), ai m9 cyI 36 (q12 kd), ai m10 cyI 36 (q12 vl), ai m11 cyI 7 fr, ai m12 cyI 3 fp, ai m13 cyI 3 bp] sz) (fun _ => [ob m0 4 [.int (nI n), .int kn, .int fz, .ref m1, .ref m2, .ref m3, .ref m4, .ref m5, .ref m6, .ref m7, .ref m8, .ref m9, .ref m10, .ref m11, .ref m12, .ref m13], ai m1 cyI 21 (f3 fh uh th), ai m2 cyI 21 (f3 fg ug tg), ai m3 cyI 21 (f3 ff uf tf), ai m4 cyI 21 (f3 fk uk tk), ai m5 cyI 3 (t3 vs us ts), ai m6 cyI 3 (t3 vb ub tb), ai m7 cyI 3 (t3 vd ud td), ai m8 cyI 3 (nF ct), ai m9 cyI 36 (q12 kd), ai m10 cyI 36 (q12 vl), ai m11 cyI 7 fr, ai m12 cyI 3 fp, ai m13 cyI 3 bp])) 0 0 (va_A [ob m0 4 [.int (nI n), .int kn, .int fz, .ref m1, .ref m2, .ref m3, .ref m4, .ref m5, .ref m6, .ref m7, .ref m8, .ref m9, .ref m10, .ref m11, .ref m12, .ref m13], ai m1 cyI 21 (f3 fh uh th), ai m2 cyI 21 (f3 fg ug tg), ai m3 cyI 21 (f3 ff uf tf), ai m4 cyI 21 (f3 fk uk tk), ai m5 cyI 3 (t3 vs us ts), ai m6 cyI 3 (t3 vb ub tb), ai m7 cyI 3 (t3 vd ud td), ai m8 cyI 3 (nF ct), ai m9 cyI 36 (q12 kd), ai m10 cyI 36 (q12 vl), ai m11 cyI 7 fr, ai m12 cyI 3 fp, ai m13 cyI 3 bp] sz) := by
  refine ra_metW (cc := cX4_doubt) (maxL := 7) (Qc := fun A => qI dC dI cyI cyA (fun (r : Int32) (_ : Unit) => r = sel (0 ≤ wt ∧ wt ≤ 1) (sel (2 ≤ cntM fr n 0 0) (prt (mDbt fr n (mVol fr n n 0 0) n 0 0).toNatClampNeg wt) (-3)) (-1)) A (fun _ => [ob m0 4 [.int (nI n), .int kn, .int fz, .ref m1, .ref m2, .ref m3, .ref m4, .ref m5, .ref m6, .ref m7, .ref m8, .ref m9, .ref m10, .ref m11, .ref m12, .ref m13], ai m1 cyI 21 (f3 fh uh th), ai m2 cyI 21 (f3 fg ug tg), ai m3 cyI 21 (f3 ff uf tf), ai m4 cyI 21 (f3 fk uk tk), ai m5 cyI 3 (t3 vs us ts), ai m6 cyI 3 (t3 vb ub tb), ai m7 cyI 3 (t3 vd ud td), ai m8 cyI 3 (nF ct), ai m9 cyI 36 (q12 kd), ai m10 cyI 36 (q12 vl), ai m11 cyI 7 fr, ai m12 cyI 3 fp, ai m13 cyI 3 bp])) (by decide) rfl (Nat.le_of_ble_eq_true rfl) ?_
  intro p e s m below meth c A args Q hQ hx hb hr hlocks hml hts hown hnm hK hN hP hD hA hS ls hl
  have hl : lv_has ls 7 [(0, .ref m0), (1, .int wt)] := hl
  have hown : s.vm.findClass RX4 = some m.cls := hown
  have hw_1 := hts (.fieldLink RX4 7 "DuneBenchModel" "n" "I") (by decide +kernel)
  have hin_X4 : ∀ w ∈ u_ws RX4 TX4 16, w ∈ wsX4_doubt := by decide +kernel
  have hw_3 := hts (.fieldLink RX4 47 "DuneBenchModel" "reading" "[I") (by decide +kernel)
  obtain ⟨H, hHe⟩ : ∃ H, H = s.heap := ⟨_, rfl⟩
  obtain ⟨locs, hLe⟩ : ∃ locs : List Loc, locs = [] := ⟨_, rfl⟩
  have hP : va_P (dC, dI) vwCl [ob m0 4 [.int (nI n), .int kn, .int fz, .ref m1, .ref m2, .ref m3, .ref m4, .ref m5, .ref m6, .ref m7, .ref m8, .ref m9, .ref m10, .ref m11, .ref m12, .ref m13], ai m1 cyI 21 (f3 fh uh th), ai m2 cyI 21 (f3 fg ug tg), ai m3 cyI 21 (f3 ff uf tf), ai m4 cyI 21 (f3 fk uk tk), ai m5 cyI 3 (t3 vs us ts), ai m6 cyI 3 (t3 vb ub tb), ai m7 cyI 3 (t3 vd ud td), ai m8 cyI 3 (nF ct), ai m9 cyI 36 (q12 kd), ai m10 cyI 36 (q12 vl), ai m11 cyI 7 fr, ai m12 cyI 3 fp, ai m13 cyI 3 bp] H := by rw [hHe]; exact hP
  have hS : va_S A s.heap H locs := by rw [hHe, hLe]; exact hS
  suffices hgo : W p l e (rm 2) s m args below meth c H locs 0 0 Q (F0 m 0 ls []) by rw [hHe, hLe] at hgo; exact hgo
  have hcm := cntM_le fr n 0 0
  refine lv_iload_n hx hb dX4_doubt_0 rfl (lv_at hl 1 rfl) ?_
  refine lv_iconst (v := 0) hx hb dX4_doubt_1 (by decide) ?_
  refine lv_iconst (v := 1) hx hb dX4_doubt_2 (by decide) ?_
  refine ra_cS (As := [.int wt, .int 0, .int 1]) (rest := []) ⟨hx, hb, hml, hown, hts⟩ (c_X4_in l wt 0 1 ) (va_cwS 3 hts gX4_doubt_X4_in rfl rfl rfl (by decide +kernel) ⟨Nat.le_of_ble_eq_true rfl, Nat.le_of_ble_eq_true rfl⟩) hN rfl hl.1 rfl (Nat.le_of_ble_eq_true rfl) dX4_doubt_3 ⟨Nat.le_of_ble_eq_true rfl, Nat.le_of_ble_eq_true rfl⟩ ?_
  refine lv_if_ne (tgt := 11) hx hb dX4_doubt_6 (by decide) (fun c_6 => ?_) (fun c_6 => ?_)
  · ---- to 11
    have c_6 := bi_1 c_6
    refine lv_aload_n hx hb dX4_doubt_11 rfl (lv_at hl 0 rfl) ?_
    refine ra_cR (q := (RX4, TX4, 16)) (ci := 4) (As := []) (rest := []) (wc := [ob m0 4 [.int (nI n), .int kn, .int fz, .ref m1, .ref m2, .ref m3, .ref m4, .ref m5, .ref m6, .ref m7, .ref m8, .ref m9, .ref m10, .ref m11, .ref m12, .ref m13], ai m1 cyI 21 (f3 fh uh th), ai m2 cyI 21 (f3 fg ug tg), ai m3 cyI 21 (f3 ff uf tf), ai m4 cyI 21 (f3 fk uk tk), ai m5 cyI 3 (t3 vs us ts), ai m6 cyI 3 (t3 vb ub tb), ai m7 cyI 3 (t3 vd ud td), ai m8 cyI 3 (nF ct), ai m9 cyI 36 (q12 kd), ai m10 cyI 36 (q12 vl), ai m11 cyI 7 fr, ai m12 cyI 3 fp, ai m13 cyI 3 bp]) ⟨hx, hb, hml, hown, hts⟩ (c_X4_readings l dC dI cyI cyA m0 m1 m2 m3 m4 m5 m6 m7 m8 m9 m10 m11 m12 m13 n kn fz fh fg ff fk uh ug uf uk th tg tf tk vs vb vd us ub ud ts tb td ct kd vl fr fp bp (by omega)) (cwV 0 hts gX4_doubt_X4_readings rfl rfl rfl (by decide +kernel) ⟨Nat.le_of_ble_eq_true rfl, Nat.le_of_ble_eq_true rfl⟩) hK hN hP [0, 1, 2, 3, 4, 5, 6, 7, 8, 9, 10, 11, 12, 13] rfl rfl rfl rfl hl.1 rfl (Nat.le_of_ble_eq_true rfl) dX4_doubt_12 ⟨Nat.le_of_ble_eq_true rfl, Nat.le_of_ble_eq_true rfl⟩ ?_
    refine lv_iconst (v := 2) hx hb dX4_doubt_15 (by decide) ?_
    refine lv_icmp_ge (tgt := 22) hx hb dX4_doubt_16 (by decide) (fun c_16 => ?_) (fun c_16 => ?_)
    · ---- to 22
      have n_16 := (nq_le 2 (cntM fr n 0 0) (by omega) (by omega)).mp c_16
      have hex : ∃ k, k < n ∧ ¬ fr k < 0 := by obtain ⟨k, z1, z2, z3⟩ := cntM_1 fr n 0 0 (by omega); exact ⟨k, by omega, z3⟩
      refine lv_aload_n hx hb dX4_doubt_22 rfl (lv_at hl 0 rfl) ?_
      refine ra_cR (q := (RX4, TX4, 16)) (ci := 4) (As := []) (rest := []) (wc := [ob m0 4 [.int (nI n), .int kn, .int fz, .ref m1, .ref m2, .ref m3, .ref m4, .ref m5, .ref m6, .ref m7, .ref m8, .ref m9, .ref m10, .ref m11, .ref m12, .ref m13], ai m1 cyI 21 (f3 fh uh th), ai m2 cyI 21 (f3 fg ug tg), ai m3 cyI 21 (f3 ff uf tf), ai m4 cyI 21 (f3 fk uk tk), ai m5 cyI 3 (t3 vs us ts), ai m6 cyI 3 (t3 vb ub tb), ai m7 cyI 3 (t3 vd ud td), ai m8 cyI 3 (nF ct), ai m9 cyI 36 (q12 kd), ai m10 cyI 36 (q12 vl), ai m11 cyI 7 fr, ai m12 cyI 3 fp, ai m13 cyI 3 bp]) ⟨hx, hb, hml, hown, hts⟩ (c_X4_volumeNow l dC dI cyI cyA m0 m1 m2 m3 m4 m5 m6 m7 m8 m9 m10 m11 m12 m13 n kn fz fh fg ff fk uh ug uf uk th tg tf tk vs vb vd us ub ud ts tb td ct kd vl fr fp bp (by omega) hex) (cwV 0 hts gX4_doubt_X4_volumeNow rfl rfl rfl (by decide +kernel) ⟨Nat.le_of_ble_eq_true rfl, Nat.le_of_ble_eq_true rfl⟩) hK hN hP [0, 1, 2, 3, 4, 5, 6, 7, 8, 9, 10, 11, 12, 13] rfl rfl rfl rfl hl.1 rfl (Nat.le_of_ble_eq_true rfl) dX4_doubt_23 ⟨Nat.le_of_ble_eq_true rfl, Nat.le_of_ble_eq_true rfl⟩ ?_
      refine lv_istore_n (lv' := [(2, .int (mVol fr n n 0 0)), (0, .ref m0), (1, .int wt)]) hx hb dX4_doubt_26 rfl hl (by decide) rfl (fun ls hl => ?_)
      refine lv_iconst (v := 0) hx hb dX4_doubt_27 (by decide) ?_
      refine lv_istore_n (lv' := [(3, .int 0), (2, .int (mVol fr n n 0 0)), (0, .ref m0), (1, .int wt)]) hx hb dX4_doubt_28 rfl hl (by decide) rfl (fun ls hl => ?_)
      refine lv_iconst (v := 0) hx hb dX4_doubt_29 (by decide) ?_
      refine lv_istore (lv' := [(4, .int 0), (3, .int 0), (2, .int (mVol fr n n 0 0)), (0, .ref m0), (1, .int wt)]) hx hb dX4_doubt_30 hl (by decide) rfl (fun ls hl => ?_)
      have L_32 : ∀ (n9 : Nat) (i : Nat) (x : Int32), (i ≤ n) → (mDbt fr n (mVol fr n n 0 0) (n - i) i x = mDbt fr n (mVol fr n n 0 0) n 0 0) → (n - i) < n9 → ∀ (H : Heap) (locs : List Loc), va_P (dC, dI) vwCl [ob m0 4 [.int (nI n), .int kn, .int fz, .ref m1, .ref m2, .ref m3, .ref m4, .ref m5, .ref m6, .ref m7, .ref m8, .ref m9, .ref m10, .ref m11, .ref m12, .ref m13], ai m1 cyI 21 (f3 fh uh th), ai m2 cyI 21 (f3 fg ug tg), ai m3 cyI 21 (f3 ff uf tf), ai m4 cyI 21 (f3 fk uk tk), ai m5 cyI 3 (t3 vs us ts), ai m6 cyI 3 (t3 vb ub tb), ai m7 cyI 3 (t3 vd ud td), ai m8 cyI 3 (nF ct), ai m9 cyI 36 (q12 kd), ai m10 cyI 36 (q12 vl), ai m11 cyI 7 fr, ai m12 cyI 3 fp, ai m13 cyI 3 bp] H → va_D A [ob m0 4 [.int (nI n), .int kn, .int fz, .ref m1, .ref m2, .ref m3, .ref m4, .ref m5, .ref m6, .ref m7, .ref m8, .ref m9, .ref m10, .ref m11, .ref m12, .ref m13], ai m1 cyI 21 (f3 fh uh th), ai m2 cyI 21 (f3 fg ug tg), ai m3 cyI 21 (f3 ff uf tf), ai m4 cyI 21 (f3 fk uk tk), ai m5 cyI 3 (t3 vs us ts), ai m6 cyI 3 (t3 vb ub tb), ai m7 cyI 3 (t3 vd ud td), ai m8 cyI 3 (nF ct), ai m9 cyI 36 (q12 kd), ai m10 cyI 36 (q12 vl), ai m11 cyI 7 fr, ai m12 cyI 3 fp, ai m13 cyI 3 bp] → va_S A s.heap H locs → ∀ ls : Array Slot, lv_has ls 7 [(0, .ref m0), (1, .int wt), (2, .int (mVol fr n n 0 0)), (3, .int x), (4, .int (nI i))] → W p l e (rm 2) s m args below meth c H locs 0 0 Q (F0 m 32 ls []) := by
        intro n9
        induction n9 with
        | zero =>
          intro i x hi he hm9
          exact absurd hm9 (Nat.not_lt_zero _)
        | succ n9 ih_32 =>
          intro i x hi he hm9 H locs hP hD hS ls hl
          refine lv_iload hx hb dX4_doubt_32 (lv_at hl 4 rfl) ?_
          refine lv_aload_n hx hb dX4_doubt_34 rfl (lv_at hl 0 rfl) ?_
          refine va_get (D := (dC, dI)) (ci := 4) (v := .int (nI n)) (C := RX4) (T := TX4) (N := 16) hx hb hts hin_X4 hown hK hP 0 rfl rfl 0 (by decide) hw_1 (fun _ h9 => h9) rfl dX4_doubt_35 ?_
          refine lv_icmp_ge (tgt := 117) hx hb dX4_doubt_38 (by decide) (fun c_38 => ?_) (fun c_38 => ?_)
          · ---- to 117
            have n_38 := (nq_le n i (by omega) (by omega)).mp c_38
            have he : x = mDbt fr n (mVol fr n n 0 0) n 0 0 := by rw [← he, show n - i = 0 by omega]; rfl
            have hl : lv_has ls 7 [(0, .ref m0), (1, .int wt), (2, .int (mVol fr n n 0 0)), (3, .int (nI ((mDbt fr n (mVol fr n n 0 0) n 0 0).toNatClampNeg))), (4, .int (nI i))] := by rw [← i32_cl (hdb n_16), ← he]; exact lv_sub hl [0, 1, 2, 3, 4] rfl
            refine lv_iload_n hx hb dX4_doubt_117 rfl (lv_at hl 3 rfl) ?_
            refine lv_iload_n hx hb dX4_doubt_118 rfl (lv_at hl 1 rfl) ?_
            refine ra_cS (As := [.int (nI ((mDbt fr n (mVol fr n n 0 0) n 0 0).toNatClampNeg)), .int wt]) (rest := []) ⟨hx, hb, hml, hown, hts⟩ (c_X4_part l ((mDbt fr n (mVol fr n n 0 0) n 0 0).toNatClampNeg) wt (cl_lt _)) (va_cwS 2 hts gX4_doubt_X4_part rfl rfl rfl (by decide +kernel) ⟨Nat.le_of_ble_eq_true rfl, Nat.le_of_ble_eq_true rfl⟩) hN rfl hl.1 rfl (Nat.le_of_ble_eq_true rfl) dX4_doubt_119 ⟨Nat.le_of_ble_eq_true rfl, Nat.le_of_ble_eq_true rfl⟩ ?_
            rw [hQ]
            rw [sel_t c_6, sel_t n_16]
            exact ra_iretW () hx hb hr hlocks rfl hK hP hD hS rfl dX4_doubt_122
          · ---- on
            have n_38 := (nq_le_n n i (by omega) (by omega)).mp c_38
            refine lv_aload_n hx hb dX4_doubt_41 rfl (lv_at hl 0 rfl) ?_
            refine va_get (D := (dC, dI)) (ci := 4) (v := .ref m11) (C := RX4) (T := TX4) (N := 16) hx hb hts hin_X4 hown hK hP 0 rfl rfl 13 (by decide) hw_3 (fun _ h9 => h9) rfl dX4_doubt_42 ?_
            refine lv_iload hx hb dX4_doubt_45 (lv_at hl 4 rfl) ?_
            refine ra_iald hx hb hK hP 11 rfl i rfl (by omega) (Nat.le_of_ble_eq_true rfl) dX4_doubt_47 ?_
            refine lv_istore (lv' := [(5, .int (fr i)), (0, .ref m0), (1, .int wt), (2, .int (mVol fr n n 0 0)), (3, .int x), (4, .int (nI i))]) hx hb dX4_doubt_48 hl (by decide) rfl (fun ls hl => ?_)
            refine lv_iload hx hb dX4_doubt_50 (lv_at hl 0 rfl) ?_
            refine lv_if_ge (tgt := 58) hx hb dX4_doubt_52 (by decide) (fun c_52 => ?_) (fun c_52 => ?_)
            · ---- to 58
              refine lv_aload_n hx hb dX4_doubt_58 rfl (lv_at hl 1 rfl) ?_
              refine va_get (D := (dC, dI)) (ci := 4) (v := .ref m11) (C := RX4) (T := TX4) (N := 16) hx hb hts hin_X4 hown hK hP 0 rfl rfl 13 (by decide) hw_3 (fun _ h9 => h9) rfl dX4_doubt_59 ?_
              refine lv_iload hx hb dX4_doubt_62 (lv_at hl 5 rfl) ?_
              refine lv_iconst (v := (-1)) hx hb dX4_doubt_64 (by decide) ?_
              refine ra_iast hx hb hK hP hD hS 11 rfl i rfl (by omega) (Nat.le_of_ble_eq_true rfl) dX4_doubt_65 (fun H locs hP hD hS => ?_)
              have hP : va_P (dC, dI) vwCl [ob m0 4 [.int (nI n), .int kn, .int fz, .ref m1, .ref m2, .ref m3, .ref m4, .ref m5, .ref m6, .ref m7, .ref m8, .ref m9, .ref m10, .ref m11, .ref m12, .ref m13], ai m1 cyI 21 (f3 fh uh th), ai m2 cyI 21 (f3 fg ug tg), ai m3 cyI 21 (f3 ff uf tf), ai m4 cyI 21 (f3 fk uk tk), ai m5 cyI 3 (t3 vs us ts), ai m6 cyI 3 (t3 vb ub tb), ai m7 cyI 3 (t3 vd ud td), ai m8 cyI 3 (nF ct), ai m9 cyI 36 (q12 kd), ai m10 cyI 36 (q12 vl), ai m11 cyI 7 (upd fr i (-1)), ai m12 cyI 3 fp, ai m13 cyI 3 bp] H := hP
              have hD : va_D A [ob m0 4 [.int (nI n), .int kn, .int fz, .ref m1, .ref m2, .ref m3, .ref m4, .ref m5, .ref m6, .ref m7, .ref m8, .ref m9, .ref m10, .ref m11, .ref m12, .ref m13], ai m1 cyI 21 (f3 fh uh th), ai m2 cyI 21 (f3 fg ug tg), ai m3 cyI 21 (f3 ff uf tf), ai m4 cyI 21 (f3 fk uk tk), ai m5 cyI 3 (t3 vs us ts), ai m6 cyI 3 (t3 vb ub tb), ai m7 cyI 3 (t3 vd ud td), ai m8 cyI 3 (nF ct), ai m9 cyI 36 (q12 kd), ai m10 cyI 36 (q12 vl), ai m11 cyI 7 (upd fr i (-1)), ai m12 cyI 3 fp, ai m13 cyI 3 bp] := hD
              refine lv_aload_n hx hb dX4_doubt_66 rfl (lv_at hl 1 rfl) ?_
              refine ra_cR (q := (RX4, TX4, 16)) (ci := 4) (As := []) (rest := []) (wc := [ob m0 4 [.int (nI n), .int kn, .int fz, .ref m1, .ref m2, .ref m3, .ref m4, .ref m5, .ref m6, .ref m7, .ref m8, .ref m9, .ref m10, .ref m11, .ref m12, .ref m13], ai m1 cyI 21 (f3 fh uh th), ai m2 cyI 21 (f3 fg ug tg), ai m3 cyI 21 (f3 ff uf tf), ai m4 cyI 21 (f3 fk uk tk), ai m5 cyI 3 (t3 vs us ts), ai m6 cyI 3 (t3 vb ub tb), ai m7 cyI 3 (t3 vd ud td), ai m8 cyI 3 (nF ct), ai m9 cyI 36 (q12 kd), ai m10 cyI 36 (q12 vl), ai m11 cyI 7 (upd fr i (-1)), ai m12 cyI 3 fp, ai m13 cyI 3 bp]) ⟨hx, hb, hml, hown, hts⟩ (c_X4_volumeNow l dC dI cyI cyA m0 m1 m2 m3 m4 m5 m6 m7 m8 m9 m10 m11 m12 m13 n kn fz fh fg ff fk uh ug uf uk th tg tf tk vs vb vd us ub ud ts tb td ct kd vl (upd fr i (-1)) fp bp (by omega) (cntM_2 n_16)) (cwV 0 hts gX4_doubt_X4_volumeNow rfl rfl rfl (by decide +kernel) ⟨Nat.le_of_ble_eq_true rfl, Nat.le_of_ble_eq_true rfl⟩) hK hN hP [0, 1, 2, 3, 4, 5, 6, 7, 8, 9, 10, 11, 12, 13] rfl rfl rfl rfl hl.1 rfl (Nat.le_of_ble_eq_true rfl) dX4_doubt_67 ⟨Nat.le_of_ble_eq_true rfl, Nat.le_of_ble_eq_true rfl⟩ ?_
              refine lv_iload_n hx hb dX4_doubt_70 rfl (lv_at hl 3 rfl) ?_
              refine lv_isub hx hb dX4_doubt_71 ?_
              refine lv_istore (lv' := [(6, .int ((mVol (upd fr i (-1)) n n 0 0) - (mVol fr n n 0 0))), (5, .int (fr i)), (0, .ref m0), (1, .int wt), (2, .int (mVol fr n n 0 0)), (3, .int x), (4, .int (nI i))]) hx hb dX4_doubt_72 hl (by decide) rfl (fun ls hl => ?_)
              refine lv_aload_n hx hb dX4_doubt_74 rfl (lv_at hl 2 rfl) ?_
              refine va_get (D := (dC, dI)) (ci := 4) (v := .ref m11) (C := RX4) (T := TX4) (N := 16) hx hb hts hin_X4 hown hK hP 0 rfl rfl 13 (by decide) hw_3 (fun _ h9 => h9) rfl dX4_doubt_75 ?_
              refine lv_iload hx hb dX4_doubt_78 (lv_at hl 6 rfl) ?_
              refine lv_iload hx hb dX4_doubt_80 (lv_at hl 1 rfl) ?_
              refine ra_iast hx hb hK hP hD hS 11 rfl i rfl (by omega) (Nat.le_of_ble_eq_true rfl) dX4_doubt_82 (fun H locs hP hD hS => ?_)
              have hP : va_P (dC, dI) vwCl [ob m0 4 [.int (nI n), .int kn, .int fz, .ref m1, .ref m2, .ref m3, .ref m4, .ref m5, .ref m6, .ref m7, .ref m8, .ref m9, .ref m10, .ref m11, .ref m12, .ref m13], ai m1 cyI 21 (f3 fh uh th), ai m2 cyI 21 (f3 fg ug tg), ai m3 cyI 21 (f3 ff uf tf), ai m4 cyI 21 (f3 fk uk tk), ai m5 cyI 3 (t3 vs us ts), ai m6 cyI 3 (t3 vb ub tb), ai m7 cyI 3 (t3 vd ud td), ai m8 cyI 3 (nF ct), ai m9 cyI 36 (q12 kd), ai m10 cyI 36 (q12 vl), ai m11 cyI 7 (upd (upd fr i (-1)) i (fr i)), ai m12 cyI 3 fp, ai m13 cyI 3 bp] H := hP
              have hD : va_D A [ob m0 4 [.int (nI n), .int kn, .int fz, .ref m1, .ref m2, .ref m3, .ref m4, .ref m5, .ref m6, .ref m7, .ref m8, .ref m9, .ref m10, .ref m11, .ref m12, .ref m13], ai m1 cyI 21 (f3 fh uh th), ai m2 cyI 21 (f3 fg ug tg), ai m3 cyI 21 (f3 ff uf tf), ai m4 cyI 21 (f3 fk uk tk), ai m5 cyI 3 (t3 vs us ts), ai m6 cyI 3 (t3 vb ub tb), ai m7 cyI 3 (t3 vd ud td), ai m8 cyI 3 (nF ct), ai m9 cyI 36 (q12 kd), ai m10 cyI 36 (q12 vl), ai m11 cyI 7 (upd (upd fr i (-1)) i (fr i)), ai m12 cyI 3 fp, ai m13 cyI 3 bp] := hD
              rw [upd_back] at hP hD
              have hP : va_P (dC, dI) vwCl [ob m0 4 [.int (nI n), .int kn, .int fz, .ref m1, .ref m2, .ref m3, .ref m4, .ref m5, .ref m6, .ref m7, .ref m8, .ref m9, .ref m10, .ref m11, .ref m12, .ref m13], ai m1 cyI 21 (f3 fh uh th), ai m2 cyI 21 (f3 fg ug tg), ai m3 cyI 21 (f3 ff uf tf), ai m4 cyI 21 (f3 fk uk tk), ai m5 cyI 3 (t3 vs us ts), ai m6 cyI 3 (t3 vb ub tb), ai m7 cyI 3 (t3 vd ud td), ai m8 cyI 3 (nF ct), ai m9 cyI 36 (q12 kd), ai m10 cyI 36 (q12 vl), ai m11 cyI 7 fr, ai m12 cyI 3 fp, ai m13 cyI 3 bp] H := hP
              have hD : va_D A [ob m0 4 [.int (nI n), .int kn, .int fz, .ref m1, .ref m2, .ref m3, .ref m4, .ref m5, .ref m6, .ref m7, .ref m8, .ref m9, .ref m10, .ref m11, .ref m12, .ref m13], ai m1 cyI 21 (f3 fh uh th), ai m2 cyI 21 (f3 fg ug tg), ai m3 cyI 21 (f3 ff uf tf), ai m4 cyI 21 (f3 fk uk tk), ai m5 cyI 3 (t3 vs us ts), ai m6 cyI 3 (t3 vb ub tb), ai m7 cyI 3 (t3 vd ud td), ai m8 cyI 3 (nF ct), ai m9 cyI 36 (q12 kd), ai m10 cyI 36 (q12 vl), ai m11 cyI 7 fr, ai m12 cyI 3 fp, ai m13 cyI 3 bp] := hD
              refine lv_iload hx hb dX4_doubt_83 (lv_at hl 0 rfl) ?_
              have J_96_1 : ∀ v_96_1 : Int32, v_96_1 = (jabs (mVol (upd fr i (-1)) n n 0 0 - (mVol fr n n 0 0))) → W p l e (rm 2) s m args below meth c H locs 0 0 Q (F0 m 96 ls [.int v_96_1]) := by
                intro v_96_1 ev_96_1
                subst ev_96_1
                refine lv_istore (lv' := [(6, .int (jabs (mVol (upd fr i (-1)) n n 0 0 - (mVol fr n n 0 0)))), (5, .int (fr i)), (0, .ref m0), (1, .int wt), (2, .int (mVol fr n n 0 0)), (3, .int x), (4, .int (nI i))]) hx hb dX4_doubt_96 hl (by decide) rfl (fun ls hl => ?_)
                refine lv_iload hx hb dX4_doubt_98 (lv_at hl 0 rfl) ?_
                refine lv_iload_n hx hb dX4_doubt_100 rfl (lv_at hl 5 rfl) ?_
                have J_110_2 : ∀ v_110_2 : Int32, v_110_2 = (jmax x (jabs (mVol (upd fr i (-1)) n n 0 0 - (mVol fr n n 0 0)))) → W p l e (rm 2) s m args below meth c H locs 0 0 Q (F0 m 110 ls [.int v_110_2]) := by
                  intro v_110_2 ev_110_2
                  subst ev_110_2
                  refine lv_istore_n (lv' := [(3, .int (jmax x (jabs (mVol (upd fr i (-1)) n n 0 0 - (mVol fr n n 0 0))))), (6, .int (jabs (mVol (upd fr i (-1)) n n 0 0 - (mVol fr n n 0 0)))), (5, .int (fr i)), (0, .ref m0), (1, .int wt), (2, .int (mVol fr n n 0 0)), (4, .int (nI i))]) hx hb dX4_doubt_110 rfl hl (by decide) rfl (fun ls hl => ?_)
                  refine lv_iinc (v := nI (i + 1)) (lv' := [(4, .int (nI (i + 1))), (3, .int (jmax x (jabs (mVol (upd fr i (-1)) n n 0 0 - (mVol fr n n 0 0))))), (6, .int (jabs (mVol (upd fr i (-1)) n n 0 0 - (mVol fr n n 0 0)))), (5, .int (fr i)), (0, .ref m0), (1, .int wt), (2, .int (mVol fr n n 0 0))]) hx hb dX4_doubt_111 hl (k := 6) rfl (ra_inc1 _) (by decide) rfl (fun ls hl => ?_)
                  refine lv_goto (tgt := 32) hx hb dX4_doubt_114 (by decide) ?_
                  exact ih_32 (i + 1) (jmax x (jabs (mVol (upd fr i (-1)) n n 0 0 - (mVol fr n n 0 0)))) (by omega) (by rw [← he, show n - i = n - (i + 1) + 1 by omega]; show _ = mDbt fr n _ _ _ (if _ then _ else _); first | (rw [if_pos (Int32.not_le.mp c_52)]; done) | (rw [if_neg (Int32.not_lt.mpr c_52)]; done)) (by omega) H locs hP hD hS ls (lv_sub hl [4, 5, 6, 1, 0] rfl)
                refine lv_icmp_le (tgt := 109) hx hb dX4_doubt_101 (by decide) (fun c_101 => ?_) (fun c_101 => ?_)
                · ---- to 109
                  refine lv_iload_n hx hb dX4_doubt_109 rfl (lv_at hl 5 rfl) ?_
                  exact J_110_2 _ (if_neg (Int32.not_lt.mpr c_101)).symm
                · ---- on
                  refine lv_iload hx hb dX4_doubt_104 (lv_at hl 0 rfl) ?_
                  refine lv_goto (tgt := 110) hx hb dX4_doubt_106 (by decide) ?_
                  exact J_110_2 _ (if_pos (Int32.not_le.mp c_101)).symm
              refine lv_if_ge (tgt := 94) hx hb dX4_doubt_85 (by decide) (fun c_85 => ?_) (fun c_85 => ?_)
              · ---- to 94
                refine lv_iload hx hb dX4_doubt_94 (lv_at hl 0 rfl) ?_
                exact J_96_1 _ (if_pos c_85).symm
              · ---- on
                refine lv_iload hx hb dX4_doubt_88 (lv_at hl 0 rfl) ?_
                refine lv_ineg hx hb dX4_doubt_90 ?_
                refine lv_goto (tgt := 96) hx hb dX4_doubt_91 (by decide) ?_
                exact J_96_1 _ ((neg0 _).trans (if_neg c_85).symm)
            · ---- on
              refine lv_goto (tgt := 111) hx hb dX4_doubt_55 (by decide) ?_
              refine lv_iinc (v := nI (i + 1)) (lv' := [(4, .int (nI (i + 1))), (5, .int (fr i)), (0, .ref m0), (1, .int wt), (2, .int (mVol fr n n 0 0)), (3, .int x)]) hx hb dX4_doubt_111 hl (k := 5) rfl (ra_inc1 _) (by decide) rfl (fun ls hl => ?_)
              refine lv_goto (tgt := 32) hx hb dX4_doubt_114 (by decide) ?_
              exact ih_32 (i + 1) x (by omega) (by rw [← he, show n - i = n - (i + 1) + 1 by omega]; show _ = mDbt fr n _ _ _ (if _ then _ else _); first | (rw [if_pos (Int32.not_le.mp c_52)]; done) | (rw [if_neg (Int32.not_lt.mpr c_52)]; done)) (by omega) H locs hP hD hS ls (lv_sub hl [2, 3, 4, 5, 0] rfl)
      exact L_32 _ 0 0 (by omega) rfl (Nat.lt_succ_self _) H locs hP hD hS ls (lv_sub hl [3, 4, 2, 1, 0] rfl)
    · ---- on
      have n_16 := (nq_le_n 2 (cntM fr n 0 0) (by omega) (by omega)).mp c_16
      refine lv_bipush (v := (-3)) hx hb dX4_doubt_19 (by decide) ?_
      rw [hQ]
      rw [sel_t c_6, sel_f (show ¬ 2 ≤ cntM fr n 0 0 by omega)]
      exact ra_iretW () hx hb hr hlocks rfl hK hP hD hS rfl dX4_doubt_21
  · ---- on
    have c_6 := bi_0 c_6
    refine lv_iconst (v := (-1)) hx hb dX4_doubt_9 (by decide) ?_
    rw [hQ]
    rw [sel_f c_6]
    exact ra_iretW () hx hb hr hlocks rfl hK hP hD hS rfl dX4_doubt_10

set_option maxHeartbeats 4000000 in
set_option maxRecDepth 100000 in
theorem c_X4_sand (l : Launch) (dC : Nat → ClassId) (dI : Nat → Nat → Nat) (cyI cyA : ClassId) (m0 m1 m2 m3 m4 m5 m6 m7 m8 m9 m10 m11 m12 m13 n : Nat) (kn fz : Int32) (fh fg ff fk uh ug uf uk th tg tf tk : FN) (vs vb vd us ub ud ts tb td : Int32) (ct : Nat → Nat) (kd vl : Nat → FN) (fr fp bp : FN) (hn : n ≤ 7) : Met l yX4_sand wsX4_sand (rm 0) (kR dC dI cyI cyA [.ref m0] [ob m0 4 [.int (nI n), .int kn, .int fz, .ref m1, .ref m2, .ref m3, .ref m4, .ref m5, .ref m6, .ref m7, .ref m8, .ref m9, .ref m10, .ref m11, .ref m12, .ref m13], ai m1 cyI 21 (f3 fh uh th), ai m2 cyI 21 (f3 fg ug tg), ai m3 cyI 21 (f3 ff uf tf), ai m4 cyI 21 (f3 fk uk tk), ai m5 cyI 3 (t3 vs us ts), ai m6 cyI 3 (t3 vb ub tb), ai m7 cyI 3 (t3 vd ud td), ai m8 cyI 3 (nF ct), ai m9 cyI 36 (q12 kd), ai m10 cyI 36 (q12 vl), ai m11 cyI 7 fr, ai m12 cyI 3 fp, ai m13 cyI 3 bp]) (QcRead (sumH fh n 0 0)) 0 0 (fun _ => False) := by
  refine ra_metR (cc := cX4_sand) (maxL := 3) (by decide) rfl (Nat.le_of_ble_eq_true rfl) ?_
  intro p e s m below meth c args Q hQ hx hb hr hlocks hml hts hown hK hN hP ls hl
  have hl : lv_has ls 3 [(0, .ref m0)] := hl
  have hown : s.vm.findClass RX4 = some m.cls := hown
  have hw_1 := hts (.fieldLink RX4 7 "DuneBenchModel" "n" "I") (by decide +kernel)
  have hin_X4 : ∀ w ∈ u_ws RX4 TX4 16, w ∈ wsX4_sand := by decide +kernel
  have hw_3 := hts (.fieldLink RX4 16 "DuneBenchModel" "height" "[I") (by decide +kernel)
  refine lv_iconst (v := 0) hx hb dX4_sand_0 (by decide) ?_
  refine lv_istore_n (lv' := [(1, .int 0), (0, .ref m0)]) hx hb dX4_sand_1 rfl hl (by decide) rfl (fun ls hl => ?_)
  refine lv_iconst (v := 0) hx hb dX4_sand_2 (by decide) ?_
  refine lv_istore_n (lv' := [(2, .int 0), (1, .int 0), (0, .ref m0)]) hx hb dX4_sand_3 rfl hl (by decide) rfl (fun ls hl => ?_)
  have L_4 : ∀ (n9 : Nat) (i : Nat) (x : Int32), (i ≤ n) → (sumH fh (n - i) i x = sumH fh n 0 0) → (n - i) < n9 → ∀ ls : Array Slot, lv_has ls 3 [(0, .ref m0), (1, .int x), (2, .int (nI i))] → W p l e (rm 0) s m args below meth c s.heap [] 0 0 Q (F0 m 4 ls []) := by
    intro n9
    induction n9 with
    | zero =>
      intro i x hi he hm9
      exact absurd hm9 (Nat.not_lt_zero _)
    | succ n9 ih_4 =>
      intro i x hi he hm9 ls hl
      refine lv_iload_n hx hb dX4_sand_4 rfl (lv_at hl 2 rfl) ?_
      refine lv_aload_n hx hb dX4_sand_5 rfl (lv_at hl 0 rfl) ?_
      refine va_get (D := (dC, dI)) (ci := 4) (v := .int (nI n)) (C := RX4) (T := TX4) (N := 16) hx hb hts hin_X4 hown hK hP 0 rfl rfl 0 (by decide) hw_1 (fun _ h9 => h9) rfl dX4_sand_6 ?_
      refine lv_icmp_ge (tgt := 27) hx hb dX4_sand_9 (by decide) (fun c_9 => ?_) (fun c_9 => ?_)
      · ---- to 27
        have n_9 := (nq_le n i (by omega) (by omega)).mp c_9
        refine lv_iload_n hx hb dX4_sand_27 rfl (lv_at hl 1 rfl) ?_
        rw [hQ]
        exact ra_iretR hx hb hr hlocks rfl (by rw [← he, show n - i = 0 by omega]; rfl) dX4_sand_28
      · ---- on
        have n_9 := (nq_le_n n i (by omega) (by omega)).mp c_9
        refine lv_iload_n hx hb dX4_sand_12 rfl (lv_at hl 1 rfl) ?_
        refine lv_aload_n hx hb dX4_sand_13 rfl (lv_at hl 0 rfl) ?_
        refine va_get (D := (dC, dI)) (ci := 4) (v := .ref m1) (C := RX4) (T := TX4) (N := 16) hx hb hts hin_X4 hown hK hP 0 rfl rfl 3 (by decide) hw_3 (fun _ h9 => h9) rfl dX4_sand_14 ?_
        refine lv_iload_n hx hb dX4_sand_17 rfl (lv_at hl 2 rfl) ?_
        refine ra_iald hx hb hK hP 1 rfl i rfl (by omega) (Nat.le_of_ble_eq_true rfl) dX4_sand_18 ?_
        refine ra_top (fh i) (f3_r0 _ _ _ (by omega)) ?_
        refine lv_iadd hx hb dX4_sand_19 ?_
        refine lv_istore_n (lv' := [(1, .int (x + (fh i))), (0, .ref m0), (2, .int (nI i))]) hx hb dX4_sand_20 rfl hl (by decide) rfl (fun ls hl => ?_)
        refine lv_iinc (v := nI (i + 1)) (lv' := [(2, .int (nI (i + 1))), (1, .int (x + (fh i))), (0, .ref m0)]) hx hb dX4_sand_21 hl (k := 2) rfl (ra_inc1 _) (by decide) rfl (fun ls hl => ?_)
        refine lv_goto (tgt := 4) hx hb dX4_sand_24 (by decide) ?_
        exact ih_4 (i + 1) (x + (fh i)) (by omega) (by rw [← he, show n - i = n - (i + 1) + 1 by omega]; rfl) (by omega) ls (lv_sub hl [2, 1, 0] rfl)
  exact L_4 _ 0 0 (by omega) rfl (Nat.lt_succ_self _) ls (lv_sub hl [2, 1, 0] rfl)

set_option maxHeartbeats 4000000 in
set_option maxRecDepth 100000 in
theorem c_X4_many (l : Launch) (dC : Nat → ClassId) (dI : Nat → Nat → Nat) (cyI cyA : ClassId) (m0 m1 m2 m3 m4 m5 m6 m7 m8 m9 m10 m11 m12 m13 n : Nat) (kn fz : Int32) (fh fg ff fk uh ug uf uk th tg tf tk : FN) (vs vb vd us ub ud ts tb td : Int32) (ct : Nat → Nat) (kd vl : Nat → FN) (fr fp bp : FN) (x : Int32) (hn : n ≤ 7) (hn1 : 1 ≤ n) (hct : ∀ w, w < 3 → ct w ≤ 12) (hrd : cntM fr n 0 0 = cntR fr 7 0 0) (sz : Nat) : Met l yX4_many wsX4_many (rm 1) (kW dC dI cyI cyA [.ref m0, .int x] sz [ob m0 4 [.int (nI n), .int kn, .int fz, .ref m1, .ref m2, .ref m3, .ref m4, .ref m5, .ref m6, .ref m7, .ref m8, .ref m9, .ref m10, .ref m11, .ref m12, .ref m13], ai m1 cyI 21 (f3 fh uh th), ai m2 cyI 21 (f3 fg ug tg), ai m3 cyI 21 (f3 ff uf tf), ai m4 cyI 21 (f3 fk uk tk), ai m5 cyI 3 (t3 vs us ts), ai m6 cyI 3 (t3 vb ub tb), ai m7 cyI 3 (t3 vd ud td), ai m8 cyI 3 (nF ct), ai m9 cyI 36 (q12 kd), ai m10 cyI 36 (q12 vl), ai m11 cyI 7 fr, ai m12 cyI 3 fp, ai m13 cyI 3 bp]) (qI dC dI cyI cyA (fun (r : Int32) (_ : Unit) => r = manyV n fh fr vs vb vd ct x) (va_A [ob m0 4 [.int (nI n), .int kn, .int fz, .ref m1, .ref m2, .ref m3, .ref m4, .ref m5, .ref m6, .ref m7, .ref m8, .ref m9, .ref m10, .ref m11, .ref m12, .ref m13], ai m1 cyI 21 (f3 fh uh th), ai m2 cyI 21 (f3 fg ug tg), ai m3 cyI 21 (f3 ff uf tf), ai m4 cyI 21 (f3 fk uk tk), ai m5 cyI 3 (t3 vs us ts), ai m6 cyI 3 (t3 vb ub tb), ai m7 cyI 3 (t3 vd ud td), ai m8 cyI 3 (nF ct), ai m9 cyI 36 (q12 kd), ai m10 cyI 36 (q12 vl), ai m11 cyI 7 fr, ai m12 cyI 3 fp, ai m13 cyI 3 bp] sz) (fun _ => [ob m0 4 [.int (nI n), .int kn, .int fz, .ref m1, .ref m2, .ref m3, .ref m4, .ref m5, .ref m6, .ref m7, .ref m8, .ref m9, .ref m10, .ref m11, .ref m12, .ref m13], ai m1 cyI 21 (f3 fh uh th), ai m2 cyI 21 (f3 fg ug tg), ai m3 cyI 21 (f3 ff uf tf), ai m4 cyI 21 (f3 fk uk tk), ai m5 cyI 3 (t3 vs us ts), ai m6 cyI 3 (t3 vb ub tb), ai m7 cyI 3 (t3 vd ud td), ai m8 cyI 3 (nF ct), ai m9 cyI 36 (q12 kd), ai m10 cyI 36 (q12 vl), ai m11 cyI 7 fr, ai m12 cyI 3 fp, ai m13 cyI 3 bp])) 0 0 (va_A [ob m0 4 [.int (nI n), .int kn, .int fz, .ref m1, .ref m2, .ref m3, .ref m4, .ref m5, .ref m6, .ref m7, .ref m8, .ref m9, .ref m10, .ref m11, .ref m12, .ref m13], ai m1 cyI 21 (f3 fh uh th), ai m2 cyI 21 (f3 fg ug tg), ai m3 cyI 21 (f3 ff uf tf), ai m4 cyI 21 (f3 fk uk tk), ai m5 cyI 3 (t3 vs us ts), ai m6 cyI 3 (t3 vb ub tb), ai m7 cyI 3 (t3 vd ud td), ai m8 cyI 3 (nF ct), ai m9 cyI 36 (q12 kd), ai m10 cyI 36 (q12 vl), ai m11 cyI 7 fr, ai m12 cyI 3 fp, ai m13 cyI 3 bp] sz) := by
  refine ra_metW (cc := cX4_many) (maxL := 2) (Qc := fun A => qI dC dI cyI cyA (fun (r : Int32) (_ : Unit) => r = manyV n fh fr vs vb vd ct x) A (fun _ => [ob m0 4 [.int (nI n), .int kn, .int fz, .ref m1, .ref m2, .ref m3, .ref m4, .ref m5, .ref m6, .ref m7, .ref m8, .ref m9, .ref m10, .ref m11, .ref m12, .ref m13], ai m1 cyI 21 (f3 fh uh th), ai m2 cyI 21 (f3 fg ug tg), ai m3 cyI 21 (f3 ff uf tf), ai m4 cyI 21 (f3 fk uk tk), ai m5 cyI 3 (t3 vs us ts), ai m6 cyI 3 (t3 vb ub tb), ai m7 cyI 3 (t3 vd ud td), ai m8 cyI 3 (nF ct), ai m9 cyI 36 (q12 kd), ai m10 cyI 36 (q12 vl), ai m11 cyI 7 fr, ai m12 cyI 3 fp, ai m13 cyI 3 bp])) (by decide) rfl (Nat.le_of_ble_eq_true rfl) ?_
  intro p e s m below meth c A args Q hQ hx hb hr hlocks hml hts hown hnm hK hN hP hD hA hS ls hl
  have hl : lv_has ls 2 [(0, .ref m0), (1, .int x)] := hl
  have hown : s.vm.findClass RX4 = some m.cls := hown
  have hw_1 := hts (.fieldLink RX4 7 "DuneBenchModel" "n" "I") (by decide +kernel)
  have hin_X4 : ∀ w ∈ u_ws RX4 TX4 16, w ∈ wsX4_many := by decide +kernel
  have hw_3 := hts (.fieldLink RX4 29 "DuneBenchModel" "sea" "[I") (by decide +kernel)
  have hw_4 := hts (.fieldLink RX4 32 "DuneBenchModel" "behind" "[I") (by decide +kernel)
  have hw_5 := hts (.fieldLink RX4 35 "DuneBenchModel" "flooded" "[I") (by decide +kernel)
  have hw_6 := hts (.fieldLink RX4 38 "DuneBenchModel" "events" "[I") (by decide +kernel)
  obtain ⟨H, hHe⟩ : ∃ H, H = s.heap := ⟨_, rfl⟩
  obtain ⟨locs, hLe⟩ : ∃ locs : List Loc, locs = [] := ⟨_, rfl⟩
  have hP : va_P (dC, dI) vwCl [ob m0 4 [.int (nI n), .int kn, .int fz, .ref m1, .ref m2, .ref m3, .ref m4, .ref m5, .ref m6, .ref m7, .ref m8, .ref m9, .ref m10, .ref m11, .ref m12, .ref m13], ai m1 cyI 21 (f3 fh uh th), ai m2 cyI 21 (f3 fg ug tg), ai m3 cyI 21 (f3 ff uf tf), ai m4 cyI 21 (f3 fk uk tk), ai m5 cyI 3 (t3 vs us ts), ai m6 cyI 3 (t3 vb ub tb), ai m7 cyI 3 (t3 vd ud td), ai m8 cyI 3 (nF ct), ai m9 cyI 36 (q12 kd), ai m10 cyI 36 (q12 vl), ai m11 cyI 7 fr, ai m12 cyI 3 fp, ai m13 cyI 3 bp] H := by rw [hHe]; exact hP
  have hS : va_S A s.heap H locs := by rw [hHe, hLe]; exact hS
  suffices hgo : W p l e (rm 1) s m args below meth c H locs 0 0 Q (F0 m 0 ls []) by rw [hHe, hLe] at hgo; exact hgo
  have hc0 := hct 0 (by omega)
  have hc1 := hct 1 (by omega)
  have hc2 := hct 2 (by omega)
  refine lv_iload_n hx hb dX4_many_0 rfl (lv_at hl 1 rfl) ?_
  by_cases h0 : x = 0
  ·
    refine ra_top 0 h0 ?_
    refine lv_tableIn (off := 55) (tgt := 56) hx hb dX4_many_1 (by decide) (by decide) (by decide) (by decide) ?_
    refine lv_aload_n hx hb dX4_many_56 rfl (lv_at hl 0 rfl) ?_
    refine va_get (D := (dC, dI)) (ci := 4) (v := .int (nI n)) (C := RX4) (T := TX4) (N := 16) hx hb hts hin_X4 hown hK hP 0 rfl rfl 0 (by decide) hw_1 (fun _ h9 => h9) rfl dX4_many_57 ?_
    rw [hQ]
    exact ra_iretW () hx hb hr hlocks rfl hK hP hD hS (by unfold manyV; rw [sel_t h0]) dX4_many_60
  ·
    by_cases h1 : x = 1
    ·
      refine ra_top 1 h1 ?_
      refine lv_tableIn (off := 60) (tgt := 61) hx hb dX4_many_1 (by decide) (by decide) (by decide) (by decide) ?_
      refine lv_aload_n hx hb dX4_many_61 rfl (lv_at hl 0 rfl) ?_
      refine va_get (D := (dC, dI)) (ci := 4) (v := .ref m5) (C := RX4) (T := TX4) (N := 16) hx hb hts hin_X4 hown hK hP 0 rfl rfl 7 (by decide) hw_3 (fun _ h9 => h9) rfl dX4_many_62 ?_
      refine lv_iconst (v := 0) hx hb dX4_many_65 (by decide) ?_
      refine ra_iald hx hb hK hP 5 rfl 0 rfl (by omega) (Nat.le_of_ble_eq_true rfl) dX4_many_66 ?_
      refine ra_top vs rfl ?_
      rw [hQ]
      exact ra_iretW () hx hb hr hlocks rfl hK hP hD hS (by unfold manyV; rw [sel_f h0, sel_t h1]) dX4_many_67
    ·
      by_cases h2 : x = 2
      ·
        refine ra_top 2 h2 ?_
        refine lv_tableIn (off := 67) (tgt := 68) hx hb dX4_many_1 (by decide) (by decide) (by decide) (by decide) ?_
        refine lv_aload_n hx hb dX4_many_68 rfl (lv_at hl 0 rfl) ?_
        refine va_get (D := (dC, dI)) (ci := 4) (v := .ref m6) (C := RX4) (T := TX4) (N := 16) hx hb hts hin_X4 hown hK hP 0 rfl rfl 8 (by decide) hw_4 (fun _ h9 => h9) rfl dX4_many_69 ?_
        refine lv_iconst (v := 0) hx hb dX4_many_72 (by decide) ?_
        refine ra_iald hx hb hK hP 6 rfl 0 rfl (by omega) (Nat.le_of_ble_eq_true rfl) dX4_many_73 ?_
        refine ra_top vb rfl ?_
        rw [hQ]
        exact ra_iretW () hx hb hr hlocks rfl hK hP hD hS (by unfold manyV; rw [sel_f h0, sel_f h1, sel_t h2]) dX4_many_74
      ·
        by_cases h3 : x = 3
        ·
          refine ra_top 3 h3 ?_
          refine lv_tableIn (off := 74) (tgt := 75) hx hb dX4_many_1 (by decide) (by decide) (by decide) (by decide) ?_
          refine lv_aload_n hx hb dX4_many_75 rfl (lv_at hl 0 rfl) ?_
          refine va_get (D := (dC, dI)) (ci := 4) (v := .ref m7) (C := RX4) (T := TX4) (N := 16) hx hb hts hin_X4 hown hK hP 0 rfl rfl 9 (by decide) hw_5 (fun _ h9 => h9) rfl dX4_many_76 ?_
          refine lv_iconst (v := 0) hx hb dX4_many_79 (by decide) ?_
          refine ra_iald hx hb hK hP 7 rfl 0 rfl (by omega) (Nat.le_of_ble_eq_true rfl) dX4_many_80 ?_
          refine ra_top vd rfl ?_
          rw [hQ]
          exact ra_iretW () hx hb hr hlocks rfl hK hP hD hS (by unfold manyV; rw [sel_f h0, sel_f h1, sel_f h2, sel_t h3]) dX4_many_81
        ·
          by_cases h4 : x = 4
          ·
            refine ra_top 4 h4 ?_
            refine lv_tableIn (off := 81) (tgt := 82) hx hb dX4_many_1 (by decide) (by decide) (by decide) (by decide) ?_
            refine lv_aload_n hx hb dX4_many_82 rfl (lv_at hl 0 rfl) ?_
            refine ra_cR (q := (RX4, TX4, 16)) (ci := 4) (As := []) (rest := []) (wc := [ob m0 4 [.int (nI n), .int kn, .int fz, .ref m1, .ref m2, .ref m3, .ref m4, .ref m5, .ref m6, .ref m7, .ref m8, .ref m9, .ref m10, .ref m11, .ref m12, .ref m13], ai m1 cyI 21 (f3 fh uh th), ai m2 cyI 21 (f3 fg ug tg), ai m3 cyI 21 (f3 ff uf tf), ai m4 cyI 21 (f3 fk uk tk), ai m5 cyI 3 (t3 vs us ts), ai m6 cyI 3 (t3 vb ub tb), ai m7 cyI 3 (t3 vd ud td), ai m8 cyI 3 (nF ct), ai m9 cyI 36 (q12 kd), ai m10 cyI 36 (q12 vl), ai m11 cyI 7 fr, ai m12 cyI 3 fp, ai m13 cyI 3 bp]) ⟨hx, hb, hml, hown, hts⟩ (c_X4_sand l dC dI cyI cyA m0 m1 m2 m3 m4 m5 m6 m7 m8 m9 m10 m11 m12 m13 n kn fz fh fg ff fk uh ug uf uk th tg tf tk vs vb vd us ub ud ts tb td ct kd vl fr fp bp (by omega)) (cwV 0 hts gX4_many_X4_sand rfl rfl rfl (by decide +kernel) ⟨Nat.le_of_ble_eq_true rfl, Nat.le_of_ble_eq_true rfl⟩) hK hN hP [0, 1, 2, 3, 4, 5, 6, 7, 8, 9, 10, 11, 12, 13] rfl rfl rfl rfl hl.1 rfl (Nat.le_of_ble_eq_true rfl) dX4_many_83 ⟨Nat.le_of_ble_eq_true rfl, Nat.le_of_ble_eq_true rfl⟩ ?_
            rw [hQ]
            exact ra_iretW () hx hb hr hlocks rfl hK hP hD hS (by unfold manyV; rw [sel_f h0, sel_f h1, sel_f h2, sel_f h3, sel_t h4]) dX4_many_86
          ·
            by_cases h5 : x = 5
            ·
              refine ra_top 5 h5 ?_
              refine lv_tableIn (off := 86) (tgt := 87) hx hb dX4_many_1 (by decide) (by decide) (by decide) (by decide) ?_
              refine lv_aload_n hx hb dX4_many_87 rfl (lv_at hl 0 rfl) ?_
              refine lv_iconst (v := 0) hx hb dX4_many_88 (by decide) ?_
              refine ra_cR (q := (RX4, TX4, 16)) (ci := 4) (As := [.int 0]) (rest := []) (wc := [ob m0 4 [.int (nI n), .int kn, .int fz, .ref m1, .ref m2, .ref m3, .ref m4, .ref m5, .ref m6, .ref m7, .ref m8, .ref m9, .ref m10, .ref m11, .ref m12, .ref m13], ai m1 cyI 21 (f3 fh uh th), ai m2 cyI 21 (f3 fg ug tg), ai m3 cyI 21 (f3 ff uf tf), ai m4 cyI 21 (f3 fk uk tk), ai m5 cyI 3 (t3 vs us ts), ai m6 cyI 3 (t3 vb ub tb), ai m7 cyI 3 (t3 vd ud td), ai m8 cyI 3 (nF ct), ai m9 cyI 36 (q12 kd), ai m10 cyI 36 (q12 vl), ai m11 cyI 7 fr, ai m12 cyI 3 fp, ai m13 cyI 3 bp]) ⟨hx, hb, hml, hown, hts⟩ (c_X4_crestOf0 l dC dI cyI cyA m0 m1 m2 m3 m4 m5 m6 m7 m8 m9 m10 m11 m12 m13 n kn fz fh fg ff fk uh ug uf uk th tg tf tk vs vb vd us ub ud ts tb td ct kd vl fr fp bp (by omega)) (cwV 1 hts gX4_many_X4_crestOf rfl rfl rfl (by decide +kernel) ⟨Nat.le_of_ble_eq_true rfl, Nat.le_of_ble_eq_true rfl⟩) hK hN hP [0, 1, 2, 3, 4, 5, 6, 7, 8, 9, 10, 11, 12, 13] rfl rfl rfl rfl hl.1 rfl (Nat.le_of_ble_eq_true rfl) dX4_many_89 ⟨Nat.le_of_ble_eq_true rfl, Nat.le_of_ble_eq_true rfl⟩ ?_
              rw [hQ]
              exact ra_iretW () hx hb hr hlocks rfl hK hP hD hS (by unfold manyV; rw [sel_f h0, sel_f h1, sel_f h2, sel_f h3, sel_f h4, sel_t h5]) dX4_many_92
            ·
              by_cases h6 : x = 6
              ·
                refine ra_top 6 h6 ?_
                refine lv_tableIn (off := 92) (tgt := 93) hx hb dX4_many_1 (by decide) (by decide) (by decide) (by decide) ?_
                refine lv_aload_n hx hb dX4_many_93 rfl (lv_at hl 0 rfl) ?_
                refine ra_cR (q := (RX4, TX4, 16)) (ci := 4) (As := []) (rest := []) (wc := [ob m0 4 [.int (nI n), .int kn, .int fz, .ref m1, .ref m2, .ref m3, .ref m4, .ref m5, .ref m6, .ref m7, .ref m8, .ref m9, .ref m10, .ref m11, .ref m12, .ref m13], ai m1 cyI 21 (f3 fh uh th), ai m2 cyI 21 (f3 fg ug tg), ai m3 cyI 21 (f3 ff uf tf), ai m4 cyI 21 (f3 fk uk tk), ai m5 cyI 3 (t3 vs us ts), ai m6 cyI 3 (t3 vb ub tb), ai m7 cyI 3 (t3 vd ud td), ai m8 cyI 3 (nF ct), ai m9 cyI 36 (q12 kd), ai m10 cyI 36 (q12 vl), ai m11 cyI 7 fr, ai m12 cyI 3 fp, ai m13 cyI 3 bp]) ⟨hx, hb, hml, hown, hts⟩ (c_X4_readings l dC dI cyI cyA m0 m1 m2 m3 m4 m5 m6 m7 m8 m9 m10 m11 m12 m13 n kn fz fh fg ff fk uh ug uf uk th tg tf tk vs vb vd us ub ud ts tb td ct kd vl fr fp bp (by omega)) (cwV 0 hts gX4_many_X4_readings rfl rfl rfl (by decide +kernel) ⟨Nat.le_of_ble_eq_true rfl, Nat.le_of_ble_eq_true rfl⟩) hK hN hP [0, 1, 2, 3, 4, 5, 6, 7, 8, 9, 10, 11, 12, 13] rfl rfl rfl rfl hl.1 rfl (Nat.le_of_ble_eq_true rfl) dX4_many_94 ⟨Nat.le_of_ble_eq_true rfl, Nat.le_of_ble_eq_true rfl⟩ ?_
                refine ra_top (nI (cntR fr 7 0 0)) (by rw [hrd]) ?_
                rw [hQ]
                exact ra_iretW () hx hb hr hlocks rfl hK hP hD hS (by unfold manyV; rw [sel_f h0, sel_f h1, sel_f h2, sel_f h3, sel_f h4, sel_f h5, sel_t h6]) dX4_many_97
              ·
                by_cases h7 : x = 7
                ·
                  refine ra_top 7 h7 ?_
                  subst h7
                  refine lv_tableIn (off := 97) (tgt := 98) hx hb dX4_many_1 (by decide) (by decide) (by decide) (by decide) ?_
                  refine lv_aload_n hx hb dX4_many_98 rfl (lv_at hl 0 rfl) ?_
                  refine va_get (D := (dC, dI)) (ci := 4) (v := .ref m8) (C := RX4) (T := TX4) (N := 16) hx hb hts hin_X4 hown hK hP 0 rfl rfl 10 (by decide) hw_6 (fun _ h9 => h9) rfl dX4_many_99 ?_
                  refine lv_iload_n hx hb dX4_many_102 rfl (lv_at hl 1 rfl) ?_
                  refine lv_bipush (v := 7) hx hb dX4_many_103 (by decide) ?_
                  refine lv_isub hx hb dX4_many_105 ?_
                  refine ra_top (0) (by decide) ?_
                  refine ra_iald hx hb hK hP 8 rfl 0 rfl (by omega) (Nat.le_of_ble_eq_true rfl) dX4_many_106 ?_
                  refine ra_top (nI (ct 0)) rfl ?_
                  rw [hQ]
                  exact ra_iretW () hx hb hr hlocks rfl hK hP hD hS (by unfold manyV; rw [sel_f h0, sel_f h1, sel_f h2, sel_f h3, sel_f h4, sel_f h5, sel_f h6]; exact manyE_k 0 (by omega) rfl) dX4_many_107
                ·
                  by_cases h8 : x = 8
                  ·
                    refine ra_top 8 h8 ?_
                    subst h8
                    refine lv_tableIn (off := 97) (tgt := 98) hx hb dX4_many_1 (by decide) (by decide) (by decide) (by decide) ?_
                    refine lv_aload_n hx hb dX4_many_98 rfl (lv_at hl 0 rfl) ?_
                    refine va_get (D := (dC, dI)) (ci := 4) (v := .ref m8) (C := RX4) (T := TX4) (N := 16) hx hb hts hin_X4 hown hK hP 0 rfl rfl 10 (by decide) hw_6 (fun _ h9 => h9) rfl dX4_many_99 ?_
                    refine lv_iload_n hx hb dX4_many_102 rfl (lv_at hl 1 rfl) ?_
                    refine lv_bipush (v := 7) hx hb dX4_many_103 (by decide) ?_
                    refine lv_isub hx hb dX4_many_105 ?_
                    refine ra_top (1) (by decide) ?_
                    refine ra_iald hx hb hK hP 8 rfl 1 rfl (by omega) (Nat.le_of_ble_eq_true rfl) dX4_many_106 ?_
                    refine ra_top (nI (ct 1)) rfl ?_
                    rw [hQ]
                    exact ra_iretW () hx hb hr hlocks rfl hK hP hD hS (by unfold manyV; rw [sel_f h0, sel_f h1, sel_f h2, sel_f h3, sel_f h4, sel_f h5, sel_f h6]; exact manyE_k 1 (by omega) rfl) dX4_many_107
                  ·
                    by_cases h9 : x = 9
                    ·
                      refine ra_top 9 h9 ?_
                      subst h9
                      refine lv_tableIn (off := 97) (tgt := 98) hx hb dX4_many_1 (by decide) (by decide) (by decide) (by decide) ?_
                      refine lv_aload_n hx hb dX4_many_98 rfl (lv_at hl 0 rfl) ?_
                      refine va_get (D := (dC, dI)) (ci := 4) (v := .ref m8) (C := RX4) (T := TX4) (N := 16) hx hb hts hin_X4 hown hK hP 0 rfl rfl 10 (by decide) hw_6 (fun _ h9 => h9) rfl dX4_many_99 ?_
                      refine lv_iload_n hx hb dX4_many_102 rfl (lv_at hl 1 rfl) ?_
                      refine lv_bipush (v := 7) hx hb dX4_many_103 (by decide) ?_
                      refine lv_isub hx hb dX4_many_105 ?_
                      refine ra_top (2) (by decide) ?_
                      refine ra_iald hx hb hK hP 8 rfl 2 rfl (by omega) (Nat.le_of_ble_eq_true rfl) dX4_many_106 ?_
                      refine ra_top (nI (ct 2)) rfl ?_
                      rw [hQ]
                      exact ra_iretW () hx hb hr hlocks rfl hK hP hD hS (by unfold manyV; rw [sel_f h0, sel_f h1, sel_f h2, sel_f h3, sel_f h4, sel_f h5, sel_f h6]; exact manyE_k 2 (by omega) rfl) dX4_many_107
                    ·
                      refine lv_tableOut (tgt := 108) hx hb dX4_many_1 (out09 h0 h1 h2 h3 h4 h5 h6 h7 h8 h9) (by decide) ?_
                      refine lv_iconst (v := (-1)) hx hb dX4_many_108 (by decide) ?_
                      rw [hQ]
                      exact ra_iretW () hx hb hr hlocks rfl hK hP hD hS (by unfold manyV; rw [sel_f h0, sel_f h1, sel_f h2, sel_f h3, sel_f h4, sel_f h5, sel_f h6]; exact manyE_n (out09 h0 h1 h2 h3 h4 h5 h6 h7 h8 h9) (out06 h0 h1 h2 h3 h4 h5 h6)) dX4_many_109

set_option maxHeartbeats 4000000 in
set_option maxRecDepth 100000 in
theorem c_X4_keep (l : Launch) (dC : Nat → ClassId) (dI : Nat → Nat → Nat) (cyI cyA : ClassId) (m0 m1 m2 m3 m4 m5 m6 m7 m8 m9 m10 m11 m12 m13 n : Nat) (kn fz : Int32) (fh fg ff fk uh ug uf uk th tg tf tk : FN) (vs vb vd us ub ud ts tb td : Int32) (ct : Nat → Nat) (kd vl : Nat → FN) (fr fp bp : FN) (hn : n ≤ 7) (hn1 : 1 ≤ n) (hct : ∀ w, w < 3 → ct w ≤ 12) (sz : Nat) : Met l yX4_keep wsX4_keep (rm 1) (kW dC dI cyI cyA [.ref m0] sz [ob m0 4 [.int (nI n), .int kn, .int fz, .ref m1, .ref m2, .ref m3, .ref m4, .ref m5, .ref m6, .ref m7, .ref m8, .ref m9, .ref m10, .ref m11, .ref m12, .ref m13], ai m1 cyI 21 (f3 fh uh th), ai m2 cyI 21 (f3 fg ug tg), ai m3 cyI 21 (f3 ff uf tf), ai m4 cyI 21 (f3 fk uk tk), ai m5 cyI 3 (t3 vs us ts), ai m6 cyI 3 (t3 vb ub tb), ai m7 cyI 3 (t3 vd ud td), ai m8 cyI 3 (nF ct), ai m9 cyI 36 (q12 kd), ai m10 cyI 36 (q12 vl), ai m11 cyI 7 fr, ai m12 cyI 3 fp, ai m13 cyI 3 bp]) (qI dC dI cyI cyA (fun (r : Int32) (_ : Unit) => r = 1) (va_A [ob m0 4 [.int (nI n), .int kn, .int fz, .ref m1, .ref m2, .ref m3, .ref m4, .ref m5, .ref m6, .ref m7, .ref m8, .ref m9, .ref m10, .ref m11, .ref m12, .ref m13], ai m1 cyI 21 (f3 fh uh th), ai m2 cyI 21 (f3 fg ug tg), ai m3 cyI 21 (f3 ff uf tf), ai m4 cyI 21 (f3 fk uk tk), ai m5 cyI 3 (t3 vs us ts), ai m6 cyI 3 (t3 vb ub tb), ai m7 cyI 3 (t3 vd ud td), ai m8 cyI 3 (nF ct), ai m9 cyI 36 (q12 kd), ai m10 cyI 36 (q12 vl), ai m11 cyI 7 fr, ai m12 cyI 3 fp, ai m13 cyI 3 bp] sz) (fun _ => [ob m0 4 [.int (nI n), .int (nI n), .int fz, .ref m1, .ref m2, .ref m3, .ref m4, .ref m5, .ref m6, .ref m7, .ref m8, .ref m9, .ref m10, .ref m11, .ref m12, .ref m13], ai m1 cyI 21 (f3 fh fh th), ai m2 cyI 21 (f3 fg fg tg), ai m3 cyI 21 (f3 ff ff tf), ai m4 cyI 21 (f3 fk fk tk), ai m5 cyI 3 (t3 vs vs ts), ai m6 cyI 3 (t3 vb vb tb), ai m7 cyI 3 (t3 vd vd td), ai m8 cyI 3 (nF ct), ai m9 cyI 36 (q12 kd), ai m10 cyI 36 (q12 vl), ai m11 cyI 7 fr, ai m12 cyI 3 fp, ai m13 cyI 3 bp])) 0 0 (va_A [ob m0 4 [.int (nI n), .int kn, .int fz, .ref m1, .ref m2, .ref m3, .ref m4, .ref m5, .ref m6, .ref m7, .ref m8, .ref m9, .ref m10, .ref m11, .ref m12, .ref m13], ai m1 cyI 21 (f3 fh uh th), ai m2 cyI 21 (f3 fg ug tg), ai m3 cyI 21 (f3 ff uf tf), ai m4 cyI 21 (f3 fk uk tk), ai m5 cyI 3 (t3 vs us ts), ai m6 cyI 3 (t3 vb ub tb), ai m7 cyI 3 (t3 vd ud td), ai m8 cyI 3 (nF ct), ai m9 cyI 36 (q12 kd), ai m10 cyI 36 (q12 vl), ai m11 cyI 7 fr, ai m12 cyI 3 fp, ai m13 cyI 3 bp] sz) := by
  refine ra_metW (cc := cX4_keep) (maxL := 1) (Qc := fun A => qI dC dI cyI cyA (fun (r : Int32) (_ : Unit) => r = 1) A (fun _ => [ob m0 4 [.int (nI n), .int (nI n), .int fz, .ref m1, .ref m2, .ref m3, .ref m4, .ref m5, .ref m6, .ref m7, .ref m8, .ref m9, .ref m10, .ref m11, .ref m12, .ref m13], ai m1 cyI 21 (f3 fh fh th), ai m2 cyI 21 (f3 fg fg tg), ai m3 cyI 21 (f3 ff ff tf), ai m4 cyI 21 (f3 fk fk tk), ai m5 cyI 3 (t3 vs vs ts), ai m6 cyI 3 (t3 vb vb tb), ai m7 cyI 3 (t3 vd vd td), ai m8 cyI 3 (nF ct), ai m9 cyI 36 (q12 kd), ai m10 cyI 36 (q12 vl), ai m11 cyI 7 fr, ai m12 cyI 3 fp, ai m13 cyI 3 bp])) (by decide) rfl (Nat.le_of_ble_eq_true rfl) ?_
  intro p e s m below meth c A args Q hQ hx hb hr hlocks hml hts hown hnm hK hN hP hD hA hS ls hl
  have hl : lv_has ls 1 [(0, .ref m0)] := hl
  have hown : s.vm.findClass RX4 = some m.cls := hown
  have hw_1 := hts (.fieldLink RX4 7 "DuneBenchModel" "n" "I") (by decide +kernel)
  have hin_X4 : ∀ w ∈ u_ws RX4 TX4 16, w ∈ wsX4_keep := by decide +kernel
  have hw_3 := hts (.fieldLink RX4 130 "DuneBenchModel" "keptN" "I") (by decide +kernel)
  obtain ⟨H, hHe⟩ : ∃ H, H = s.heap := ⟨_, rfl⟩
  obtain ⟨locs, hLe⟩ : ∃ locs : List Loc, locs = [] := ⟨_, rfl⟩
  have hP : va_P (dC, dI) vwCl [ob m0 4 [.int (nI n), .int kn, .int fz, .ref m1, .ref m2, .ref m3, .ref m4, .ref m5, .ref m6, .ref m7, .ref m8, .ref m9, .ref m10, .ref m11, .ref m12, .ref m13], ai m1 cyI 21 (f3 fh uh th), ai m2 cyI 21 (f3 fg ug tg), ai m3 cyI 21 (f3 ff uf tf), ai m4 cyI 21 (f3 fk uk tk), ai m5 cyI 3 (t3 vs us ts), ai m6 cyI 3 (t3 vb ub tb), ai m7 cyI 3 (t3 vd ud td), ai m8 cyI 3 (nF ct), ai m9 cyI 36 (q12 kd), ai m10 cyI 36 (q12 vl), ai m11 cyI 7 fr, ai m12 cyI 3 fp, ai m13 cyI 3 bp] H := by rw [hHe]; exact hP
  have hS : va_S A s.heap H locs := by rw [hHe, hLe]; exact hS
  suffices hgo : W p l e (rm 1) s m args below meth c H locs 0 0 Q (F0 m 0 ls []) by rw [hHe, hLe] at hgo; exact hgo
  refine lv_aload_n hx hb dX4_keep_0 rfl (lv_at hl 0 rfl) ?_
  refine lv_iconst (v := 0) hx hb dX4_keep_1 (by decide) ?_
  refine lv_iconst (v := 1) hx hb dX4_keep_2 (by decide) ?_
  refine ra_cV (q := (RX4, TX4, 16)) (ci := 4) (As := [.int 0, .int 1]) (rest := []) (wc := [ob m0 4 [.int (nI n), .int kn, .int fz, .ref m1, .ref m2, .ref m3, .ref m4, .ref m5, .ref m6, .ref m7, .ref m8, .ref m9, .ref m10, .ref m11, .ref m12, .ref m13], ai m1 cyI 21 (f3 fh uh th), ai m2 cyI 21 (f3 fg ug tg), ai m3 cyI 21 (f3 ff uf tf), ai m4 cyI 21 (f3 fk uk tk), ai m5 cyI 3 (t3 vs us ts), ai m6 cyI 3 (t3 vb ub tb), ai m7 cyI 3 (t3 vd ud td), ai m8 cyI 3 (nF ct), ai m9 cyI 36 (q12 kd), ai m10 cyI 36 (q12 vl), ai m11 cyI 7 fr, ai m12 cyI 3 fp, ai m13 cyI 3 bp]) (wr := []) ⟨hx, hb, hml, hown, hts⟩ (c_X4_copy01 l dC dI cyI cyA m0 m1 m2 m3 m4 m5 m6 m7 m8 m9 m10 m11 m12 m13 n kn fz fh fg ff fk uh ug uf uk th tg tf tk vs vb vd us ub ud ts tb td ct kd vl fr fp bp  H.size) (cwV 2 hts gX4_keep_X4_copy rfl rfl rfl (by decide +kernel) ⟨Nat.le_of_ble_eq_true rfl, Nat.le_of_ble_eq_true rfl⟩) hK hN hP hD hA hS [0, 1, 2, 3, 4, 5, 6, 7, 8, 9, 10, 11, 12, 13] [] rfl rfl (by decide) (by decide) (by decide) rfl rfl rfl hl.1 rfl (Nat.le_of_ble_eq_true rfl) dX4_keep_3 ⟨Nat.le_of_ble_eq_true rfl, Nat.le_of_ble_eq_true rfl⟩ (fun u_1 hw_c1 H locs hP hD hS => ?_)
  have hP : va_P (dC, dI) vwCl [ob m0 4 [.int (nI n), .int kn, .int fz, .ref m1, .ref m2, .ref m3, .ref m4, .ref m5, .ref m6, .ref m7, .ref m8, .ref m9, .ref m10, .ref m11, .ref m12, .ref m13], ai m1 cyI 21 (f3 fh fh th), ai m2 cyI 21 (f3 fg fg tg), ai m3 cyI 21 (f3 ff ff tf), ai m4 cyI 21 (f3 fk fk tk), ai m5 cyI 3 (t3 vs vs ts), ai m6 cyI 3 (t3 vb vb tb), ai m7 cyI 3 (t3 vd vd td), ai m8 cyI 3 (nF ct), ai m9 cyI 36 (q12 kd), ai m10 cyI 36 (q12 vl), ai m11 cyI 7 fr, ai m12 cyI 3 fp, ai m13 cyI 3 bp] H := hP
  have hD : va_D A [ob m0 4 [.int (nI n), .int kn, .int fz, .ref m1, .ref m2, .ref m3, .ref m4, .ref m5, .ref m6, .ref m7, .ref m8, .ref m9, .ref m10, .ref m11, .ref m12, .ref m13], ai m1 cyI 21 (f3 fh fh th), ai m2 cyI 21 (f3 fg fg tg), ai m3 cyI 21 (f3 ff ff tf), ai m4 cyI 21 (f3 fk fk tk), ai m5 cyI 3 (t3 vs vs ts), ai m6 cyI 3 (t3 vb vb tb), ai m7 cyI 3 (t3 vd vd td), ai m8 cyI 3 (nF ct), ai m9 cyI 36 (q12 kd), ai m10 cyI 36 (q12 vl), ai m11 cyI 7 fr, ai m12 cyI 3 fp, ai m13 cyI 3 bp] := hD
  refine lv_aload_n hx hb dX4_keep_6 rfl (lv_at hl 0 rfl) ?_
  refine lv_aload_n hx hb dX4_keep_7 rfl (lv_at hl 0 rfl) ?_
  refine va_get (D := (dC, dI)) (ci := 4) (v := .int (nI n)) (C := RX4) (T := TX4) (N := 16) hx hb hts hin_X4 hown hK hP 0 rfl rfl 0 (by decide) hw_1 (fun _ h9 => h9) rfl dX4_keep_8 ?_
  refine va_put (D := (dC, dI)) (ci := 4) (v := .int (nI n)) (ty := .int) (C := RX4) (T := TX4) (N := 16) hx hb hts hin_X4 tyX4 tyX4_ok nmX4 hown hK hP hD hS 0 rfl rfl 1 (by decide) hw_3 (fun _ h9 => h9) rfl (by decide +kernel) rfl rfl (Nat.le_of_ble_eq_true rfl) dX4_keep_11 (fun H locs hP hD hS => ?_)
  have hP : va_P (dC, dI) vwCl [ob m0 4 [.int (nI n), .int (nI n), .int fz, .ref m1, .ref m2, .ref m3, .ref m4, .ref m5, .ref m6, .ref m7, .ref m8, .ref m9, .ref m10, .ref m11, .ref m12, .ref m13], ai m1 cyI 21 (f3 fh fh th), ai m2 cyI 21 (f3 fg fg tg), ai m3 cyI 21 (f3 ff ff tf), ai m4 cyI 21 (f3 fk fk tk), ai m5 cyI 3 (t3 vs vs ts), ai m6 cyI 3 (t3 vb vb tb), ai m7 cyI 3 (t3 vd vd td), ai m8 cyI 3 (nF ct), ai m9 cyI 36 (q12 kd), ai m10 cyI 36 (q12 vl), ai m11 cyI 7 fr, ai m12 cyI 3 fp, ai m13 cyI 3 bp] H := hP
  have hD : va_D A [ob m0 4 [.int (nI n), .int (nI n), .int fz, .ref m1, .ref m2, .ref m3, .ref m4, .ref m5, .ref m6, .ref m7, .ref m8, .ref m9, .ref m10, .ref m11, .ref m12, .ref m13], ai m1 cyI 21 (f3 fh fh th), ai m2 cyI 21 (f3 fg fg tg), ai m3 cyI 21 (f3 ff ff tf), ai m4 cyI 21 (f3 fk fk tk), ai m5 cyI 3 (t3 vs vs ts), ai m6 cyI 3 (t3 vb vb tb), ai m7 cyI 3 (t3 vd vd td), ai m8 cyI 3 (nF ct), ai m9 cyI 36 (q12 kd), ai m10 cyI 36 (q12 vl), ai m11 cyI 7 fr, ai m12 cyI 3 fp, ai m13 cyI 3 bp] := hD
  refine lv_iconst (v := 1) hx hb dX4_keep_14 (by decide) ?_
  rw [hQ]
  exact ra_iretW () hx hb hr hlocks rfl hK hP hD hS rfl dX4_keep_15

set_option maxHeartbeats 4000000 in
set_option maxRecDepth 100000 in
theorem c_X4_back (l : Launch) (dC : Nat → ClassId) (dI : Nat → Nat → Nat) (cyI cyA : ClassId) (m0 m1 m2 m3 m4 m5 m6 m7 m8 m9 m10 m11 m12 m13 n : Nat) (kn fz : Int32) (fh fg ff fk uh ug uf uk th tg tf tk : FN) (vs vb vd us ub ud ts tb td : Int32) (ct : Nat → Nat) (kd vl : Nat → FN) (fr fp bp : FN) (hn : n ≤ 7) (hn1 : 1 ≤ n) (hct : ∀ w, w < 3 → ct w ≤ 12) (sz : Nat) : Met l yX4_back wsX4_back (rm 1) (kW dC dI cyI cyA [.ref m0] sz [ob m0 4 [.int (nI n), .int kn, .int fz, .ref m1, .ref m2, .ref m3, .ref m4, .ref m5, .ref m6, .ref m7, .ref m8, .ref m9, .ref m10, .ref m11, .ref m12, .ref m13], ai m1 cyI 21 (f3 fh uh th), ai m2 cyI 21 (f3 fg ug tg), ai m3 cyI 21 (f3 ff uf tf), ai m4 cyI 21 (f3 fk uk tk), ai m5 cyI 3 (t3 vs us ts), ai m6 cyI 3 (t3 vb ub tb), ai m7 cyI 3 (t3 vd ud td), ai m8 cyI 3 (nF ct), ai m9 cyI 36 (q12 kd), ai m10 cyI 36 (q12 vl), ai m11 cyI 7 fr, ai m12 cyI 3 fp, ai m13 cyI 3 bp]) (qI dC dI cyI cyA (fun (r : Int32) (_ : Unit) => r = sel (kn = nI n) 1 (-3)) (va_A [ob m0 4 [.int (nI n), .int kn, .int fz, .ref m1, .ref m2, .ref m3, .ref m4, .ref m5, .ref m6, .ref m7, .ref m8, .ref m9, .ref m10, .ref m11, .ref m12, .ref m13], ai m1 cyI 21 (f3 fh uh th), ai m2 cyI 21 (f3 fg ug tg), ai m3 cyI 21 (f3 ff uf tf), ai m4 cyI 21 (f3 fk uk tk), ai m5 cyI 3 (t3 vs us ts), ai m6 cyI 3 (t3 vb ub tb), ai m7 cyI 3 (t3 vd ud td), ai m8 cyI 3 (nF ct), ai m9 cyI 36 (q12 kd), ai m10 cyI 36 (q12 vl), ai m11 cyI 7 fr, ai m12 cyI 3 fp, ai m13 cyI 3 bp] sz) (fun _ => [ob m0 4 [.int (nI n), .int kn, .int fz, .ref m1, .ref m2, .ref m3, .ref m4, .ref m5, .ref m6, .ref m7, .ref m8, .ref m9, .ref m10, .ref m11, .ref m12, .ref m13], ai m1 cyI 21 (f3 (sel (kn = nI n) uh fh) uh th), ai m2 cyI 21 (f3 (sel (kn = nI n) ug fg) ug tg), ai m3 cyI 21 (f3 (sel (kn = nI n) uf ff) uf tf), ai m4 cyI 21 (f3 (sel (kn = nI n) uk fk) uk tk), ai m5 cyI 3 (t3 (sel (kn = nI n) us vs) us ts), ai m6 cyI 3 (t3 (sel (kn = nI n) ub vb) ub tb), ai m7 cyI 3 (t3 (sel (kn = nI n) ud vd) ud td), ai m8 cyI 3 (nF ct), ai m9 cyI 36 (q12 kd), ai m10 cyI 36 (q12 vl), ai m11 cyI 7 fr, ai m12 cyI 3 fp, ai m13 cyI 3 bp])) 0 0 (va_A [ob m0 4 [.int (nI n), .int kn, .int fz, .ref m1, .ref m2, .ref m3, .ref m4, .ref m5, .ref m6, .ref m7, .ref m8, .ref m9, .ref m10, .ref m11, .ref m12, .ref m13], ai m1 cyI 21 (f3 fh uh th), ai m2 cyI 21 (f3 fg ug tg), ai m3 cyI 21 (f3 ff uf tf), ai m4 cyI 21 (f3 fk uk tk), ai m5 cyI 3 (t3 vs us ts), ai m6 cyI 3 (t3 vb ub tb), ai m7 cyI 3 (t3 vd ud td), ai m8 cyI 3 (nF ct), ai m9 cyI 36 (q12 kd), ai m10 cyI 36 (q12 vl), ai m11 cyI 7 fr, ai m12 cyI 3 fp, ai m13 cyI 3 bp] sz) := by
  refine ra_metW (cc := cX4_back) (maxL := 1) (Qc := fun A => qI dC dI cyI cyA (fun (r : Int32) (_ : Unit) => r = sel (kn = nI n) 1 (-3)) A (fun _ => [ob m0 4 [.int (nI n), .int kn, .int fz, .ref m1, .ref m2, .ref m3, .ref m4, .ref m5, .ref m6, .ref m7, .ref m8, .ref m9, .ref m10, .ref m11, .ref m12, .ref m13], ai m1 cyI 21 (f3 (sel (kn = nI n) uh fh) uh th), ai m2 cyI 21 (f3 (sel (kn = nI n) ug fg) ug tg), ai m3 cyI 21 (f3 (sel (kn = nI n) uf ff) uf tf), ai m4 cyI 21 (f3 (sel (kn = nI n) uk fk) uk tk), ai m5 cyI 3 (t3 (sel (kn = nI n) us vs) us ts), ai m6 cyI 3 (t3 (sel (kn = nI n) ub vb) ub tb), ai m7 cyI 3 (t3 (sel (kn = nI n) ud vd) ud td), ai m8 cyI 3 (nF ct), ai m9 cyI 36 (q12 kd), ai m10 cyI 36 (q12 vl), ai m11 cyI 7 fr, ai m12 cyI 3 fp, ai m13 cyI 3 bp])) (by decide) rfl (Nat.le_of_ble_eq_true rfl) ?_
  intro p e s m below meth c A args Q hQ hx hb hr hlocks hml hts hown hnm hK hN hP hD hA hS ls hl
  have hl : lv_has ls 1 [(0, .ref m0)] := hl
  have hown : s.vm.findClass RX4 = some m.cls := hown
  have hw_1 := hts (.fieldLink RX4 130 "DuneBenchModel" "keptN" "I") (by decide +kernel)
  have hin_X4 : ∀ w ∈ u_ws RX4 TX4 16, w ∈ wsX4_back := by decide +kernel
  have hw_3 := hts (.fieldLink RX4 7 "DuneBenchModel" "n" "I") (by decide +kernel)
  obtain ⟨H, hHe⟩ : ∃ H, H = s.heap := ⟨_, rfl⟩
  obtain ⟨locs, hLe⟩ : ∃ locs : List Loc, locs = [] := ⟨_, rfl⟩
  have hP : va_P (dC, dI) vwCl [ob m0 4 [.int (nI n), .int kn, .int fz, .ref m1, .ref m2, .ref m3, .ref m4, .ref m5, .ref m6, .ref m7, .ref m8, .ref m9, .ref m10, .ref m11, .ref m12, .ref m13], ai m1 cyI 21 (f3 fh uh th), ai m2 cyI 21 (f3 fg ug tg), ai m3 cyI 21 (f3 ff uf tf), ai m4 cyI 21 (f3 fk uk tk), ai m5 cyI 3 (t3 vs us ts), ai m6 cyI 3 (t3 vb ub tb), ai m7 cyI 3 (t3 vd ud td), ai m8 cyI 3 (nF ct), ai m9 cyI 36 (q12 kd), ai m10 cyI 36 (q12 vl), ai m11 cyI 7 fr, ai m12 cyI 3 fp, ai m13 cyI 3 bp] H := by rw [hHe]; exact hP
  have hS : va_S A s.heap H locs := by rw [hHe, hLe]; exact hS
  suffices hgo : W p l e (rm 1) s m args below meth c H locs 0 0 Q (F0 m 0 ls []) by rw [hHe, hLe] at hgo; exact hgo
  refine lv_aload_n hx hb dX4_back_0 rfl (lv_at hl 0 rfl) ?_
  refine va_get (D := (dC, dI)) (ci := 4) (v := .int kn) (C := RX4) (T := TX4) (N := 16) hx hb hts hin_X4 hown hK hP 0 rfl rfl 1 (by decide) hw_1 (fun _ h9 => h9) rfl dX4_back_1 ?_
  refine lv_aload_n hx hb dX4_back_4 rfl (lv_at hl 0 rfl) ?_
  refine va_get (D := (dC, dI)) (ci := 4) (v := .int (nI n)) (C := RX4) (T := TX4) (N := 16) hx hb hts hin_X4 hown hK hP 0 rfl rfl 0 (by decide) hw_3 (fun _ h9 => h9) rfl dX4_back_5 ?_
  refine lv_icmp_eq (tgt := 14) hx hb dX4_back_8 (by decide) (fun c_8 => ?_) (fun c_8 => ?_)
  · ---- to 14
    refine lv_aload_n hx hb dX4_back_14 rfl (lv_at hl 0 rfl) ?_
    refine lv_iconst (v := 1) hx hb dX4_back_15 (by decide) ?_
    refine lv_iconst (v := 0) hx hb dX4_back_16 (by decide) ?_
    refine ra_cV (q := (RX4, TX4, 16)) (ci := 4) (As := [.int 1, .int 0]) (rest := []) (wc := [ob m0 4 [.int (nI n), .int kn, .int fz, .ref m1, .ref m2, .ref m3, .ref m4, .ref m5, .ref m6, .ref m7, .ref m8, .ref m9, .ref m10, .ref m11, .ref m12, .ref m13], ai m1 cyI 21 (f3 fh uh th), ai m2 cyI 21 (f3 fg ug tg), ai m3 cyI 21 (f3 ff uf tf), ai m4 cyI 21 (f3 fk uk tk), ai m5 cyI 3 (t3 vs us ts), ai m6 cyI 3 (t3 vb ub tb), ai m7 cyI 3 (t3 vd ud td), ai m8 cyI 3 (nF ct), ai m9 cyI 36 (q12 kd), ai m10 cyI 36 (q12 vl), ai m11 cyI 7 fr, ai m12 cyI 3 fp, ai m13 cyI 3 bp]) (wr := []) ⟨hx, hb, hml, hown, hts⟩ (c_X4_copy10 l dC dI cyI cyA m0 m1 m2 m3 m4 m5 m6 m7 m8 m9 m10 m11 m12 m13 n kn fz fh fg ff fk uh ug uf uk th tg tf tk vs vb vd us ub ud ts tb td ct kd vl fr fp bp  H.size) (cwV 2 hts gX4_back_X4_copy rfl rfl rfl (by decide +kernel) ⟨Nat.le_of_ble_eq_true rfl, Nat.le_of_ble_eq_true rfl⟩) hK hN hP hD hA hS [0, 1, 2, 3, 4, 5, 6, 7, 8, 9, 10, 11, 12, 13] [] rfl rfl (by decide) (by decide) (by decide) rfl rfl rfl hl.1 rfl (Nat.le_of_ble_eq_true rfl) dX4_back_17 ⟨Nat.le_of_ble_eq_true rfl, Nat.le_of_ble_eq_true rfl⟩ (fun u_1 hw_c1 H locs hP hD hS => ?_)
    have hP : va_P (dC, dI) vwCl [ob m0 4 [.int (nI n), .int kn, .int fz, .ref m1, .ref m2, .ref m3, .ref m4, .ref m5, .ref m6, .ref m7, .ref m8, .ref m9, .ref m10, .ref m11, .ref m12, .ref m13], ai m1 cyI 21 (f3 uh uh th), ai m2 cyI 21 (f3 ug ug tg), ai m3 cyI 21 (f3 uf uf tf), ai m4 cyI 21 (f3 uk uk tk), ai m5 cyI 3 (t3 us us ts), ai m6 cyI 3 (t3 ub ub tb), ai m7 cyI 3 (t3 ud ud td), ai m8 cyI 3 (nF ct), ai m9 cyI 36 (q12 kd), ai m10 cyI 36 (q12 vl), ai m11 cyI 7 fr, ai m12 cyI 3 fp, ai m13 cyI 3 bp] H := hP
    have hD : va_D A [ob m0 4 [.int (nI n), .int kn, .int fz, .ref m1, .ref m2, .ref m3, .ref m4, .ref m5, .ref m6, .ref m7, .ref m8, .ref m9, .ref m10, .ref m11, .ref m12, .ref m13], ai m1 cyI 21 (f3 uh uh th), ai m2 cyI 21 (f3 ug ug tg), ai m3 cyI 21 (f3 uf uf tf), ai m4 cyI 21 (f3 uk uk tk), ai m5 cyI 3 (t3 us us ts), ai m6 cyI 3 (t3 ub ub tb), ai m7 cyI 3 (t3 ud ud td), ai m8 cyI 3 (nF ct), ai m9 cyI 36 (q12 kd), ai m10 cyI 36 (q12 vl), ai m11 cyI 7 fr, ai m12 cyI 3 fp, ai m13 cyI 3 bp] := hD
    refine lv_iconst (v := 1) hx hb dX4_back_20 (by decide) ?_
    rw [hQ]
    simp only [sel_t c_8]
    exact ra_iretW () hx hb hr hlocks rfl hK hP hD hS rfl dX4_back_21
  · ---- on
    refine lv_bipush (v := (-3)) hx hb dX4_back_11 (by decide) ?_
    rw [hQ]
    simp only [sel_f c_8]
    exact ra_iretW () hx hb hr hlocks rfl hK hP hD hS rfl dX4_back_13
