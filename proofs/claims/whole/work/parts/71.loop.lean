/-! the loop of the law -/
theorem out22 {y : Int32} (h0 : ¬ y = 0) (h1 : ¬ y = 1) (h2 : ¬ y = 2) (h3 : ¬ y = 3) (h4 : ¬ y = 4) (h5 : ¬ y = 5) (h6 : ¬ y = 6) (h7 : ¬ y = 7) (h8 : ¬ y = 8) (h9 : ¬ y = 9) (h10 : ¬ y = 10) (h11 : ¬ y = 11) (h12 : ¬ y = 12) (h13 : ¬ y = 13) (h14 : ¬ y = 14) (h15 : ¬ y = 15) (h16 : ¬ y = 16) (h17 : ¬ y = 17) (h18 : ¬ y = 18) (h19 : ¬ y = 19) (h20 : ¬ y = 20) (h21 : ¬ y = 21) (h22 : ¬ y = 22) : y.toInt < 0 ∨ 22 < y.toInt := by
  have k0 : ¬ y.toInt = 0 := fun q => h0 ((fa_eq _ _).mpr (q.trans (by decide)))
  have k1 : ¬ y.toInt = 1 := fun q => h1 ((fa_eq _ _).mpr (q.trans (by decide)))
  have k2 : ¬ y.toInt = 2 := fun q => h2 ((fa_eq _ _).mpr (q.trans (by decide)))
  have k3 : ¬ y.toInt = 3 := fun q => h3 ((fa_eq _ _).mpr (q.trans (by decide)))
  have k4 : ¬ y.toInt = 4 := fun q => h4 ((fa_eq _ _).mpr (q.trans (by decide)))
  have k5 : ¬ y.toInt = 5 := fun q => h5 ((fa_eq _ _).mpr (q.trans (by decide)))
  have k6 : ¬ y.toInt = 6 := fun q => h6 ((fa_eq _ _).mpr (q.trans (by decide)))
  have k7 : ¬ y.toInt = 7 := fun q => h7 ((fa_eq _ _).mpr (q.trans (by decide)))
  have k8 : ¬ y.toInt = 8 := fun q => h8 ((fa_eq _ _).mpr (q.trans (by decide)))
  have k9 : ¬ y.toInt = 9 := fun q => h9 ((fa_eq _ _).mpr (q.trans (by decide)))
  have k10 : ¬ y.toInt = 10 := fun q => h10 ((fa_eq _ _).mpr (q.trans (by decide)))
  have k11 : ¬ y.toInt = 11 := fun q => h11 ((fa_eq _ _).mpr (q.trans (by decide)))
  have k12 : ¬ y.toInt = 12 := fun q => h12 ((fa_eq _ _).mpr (q.trans (by decide)))
  have k13 : ¬ y.toInt = 13 := fun q => h13 ((fa_eq _ _).mpr (q.trans (by decide)))
  have k14 : ¬ y.toInt = 14 := fun q => h14 ((fa_eq _ _).mpr (q.trans (by decide)))
  have k15 : ¬ y.toInt = 15 := fun q => h15 ((fa_eq _ _).mpr (q.trans (by decide)))
  have k16 : ¬ y.toInt = 16 := fun q => h16 ((fa_eq _ _).mpr (q.trans (by decide)))
  have k17 : ¬ y.toInt = 17 := fun q => h17 ((fa_eq _ _).mpr (q.trans (by decide)))
  have k18 : ¬ y.toInt = 18 := fun q => h18 ((fa_eq _ _).mpr (q.trans (by decide)))
  have k19 : ¬ y.toInt = 19 := fun q => h19 ((fa_eq _ _).mpr (q.trans (by decide)))
  have k20 : ¬ y.toInt = 20 := fun q => h20 ((fa_eq _ _).mpr (q.trans (by decide)))
  have k21 : ¬ y.toInt = 21 := fun q => h21 ((fa_eq _ _).mpr (q.trans (by decide)))
  have k22 : ¬ y.toInt = 22 := fun q => h22 ((fa_eq _ _).mpr (q.trans (by decide)))
  omega
theorem le5 {i L : Nat} (hi : i ≤ L) (hL : L ≤ 2560) (h : ¬ nI L - 5 < nI i) : i + 5 ≤ L := by
  have e : (nI L - 5 : Int32).toInt = (L : Int) - 5 := pk_sub_toInt (a := L) (b := 5) (by omega) (by omega)
  rw [fa_lt, e, nI_toInt (by omega)] at h
  omega
set_option maxHeartbeats 4000000 in
set_option maxRecDepth 100000 in
theorem law_loop {p : Program} {l : Launch} {e : Env} {s : State} {m : MethodId} {below : List Frame} {meth : Method} {c : Code} {dC : Nat → ClassId} {dI : Nat → Nat → Nat} {cyI cyA : ClassId} {b L : Nat} {xs : Nat → Int32} {q0 a0 a1 a2 a3 a4 y0 y1 y2 y3 y4 z0 z1 z2 z3 z4 d0 d1 d2 d3 k0 k1 k2 v0 v1 v2 e0 e1 g0 : Nat} {m0 m1 m2 m3 m4 m5 m6 m7 m8 m9 m10 m11 m12 m13 : Nat} (C : LC p s m c dC dI cyI cyA b L xs) (hr : meth.sig.returnType = ret) (hlocks : meth.locks = false) : ∀ (f i : Nat), i ≤ L → L + 1 ≤ i + f → ∀ (n : Nat) (fh : FN) (fg : FN) (ff : FN) (fk : FN) (vs : Int32) (vb : Int32) (vd : Int32) (fz : Int32) (ct : Nat → Nat) (kd : Nat → FN) (vl : Nat → FN) (fr : FN) (isv : Int32) (kn : Int32) (zn : Nat) (zh : FN) (zg : FN) (zf : FN) (zk : FN) (zs : Int32) (zb : Int32) (zd : Int32) (tn : Nat) (th : FN) (tg : FN) (tf : FN) (tk : FN) (ts : Int32) (tb : Int32) (td : Int32) (fp : FN) (jh : FN) (jg : FN) (jf : FN) (jk : FN) (js : Int32) (jb : Int32) (jd : Int32) (jp : FN) (jq : FN), LI n fh fg ff fz ct kd vl fr isv kn zn zh zg zf → ∀ (H : Heap) (locs : List Loc), va_P (dC, dI) vwCl (FWl cyI cyA q0 a0 a1 a2 a3 a4 y0 y1 y2 y3 y4 z0 z1 z2 z3 z4 d0 d1 d2 d3 k0 k1 k2 v0 v1 v2 e0 e1 g0 n fh fg ff fk vs vb vd fz ct kd vl fr isv zn zh zg zf zk zs zb zd tn th tg tf tk ts tb td fp ++ MWl cyI m0 m1 m2 m3 m4 m5 m6 m7 m8 m9 m10 m11 m12 m13 n fh fg ff fk vs vb vd fz ct kd vl fr kn zh zg zf zk zs zb zd jh jg jf jk js jb jd jp jq) H → va_D (fun q : Nat => s.heap.size ≤ q) (FWl cyI cyA q0 a0 a1 a2 a3 a4 y0 y1 y2 y3 y4 z0 z1 z2 z3 z4 d0 d1 d2 d3 k0 k1 k2 v0 v1 v2 e0 e1 g0 n fh fg ff fk vs vb vd fz ct kd vl fr isv zn zh zg zf zk zs zb zd tn th tg tf tk ts tb td fp ++ MWl cyI m0 m1 m2 m3 m4 m5 m6 m7 m8 m9 m10 m11 m12 m13 n fh fg ff fk vs vb vd fz ct kd vl fr kn zh zg zf zk zs zb zd jh jg jf jk js jb jd jp jq) → va_S (fun q : Nat => s.heap.size ≤ q) s.heap H locs → ∀ (ls : Array Slot), lv_has ls 4 [(0, .ref b), (1, .ref q0), (2, .ref m0), (3, .int (nI i))] → W p l e room_1 s m #[Value.ref b] below meth c H locs 43 408 (lw_Z below #[Value.ref b] s) (F0 m 18 ls []) := by
  obtain ⟨hx, hb, hml, hown, hts, hX, hbl, hK, hN, hL⟩ := id C
  have hA : ∀ q : Nat, s.heap.size ≤ q → (fun q : Nat => s.heap.size ≤ q) q := fun _ h => h
  have hbA : ¬ (fun q : Nat => s.heap.size ≤ q) b := Nat.not_le.mpr hbl
  intro f
  induction f with
  | zero =>
    intro i h1 h2
    exact absurd h2 (by omega)
  | succ f ih =>
    intro i hi hif n fh fg ff fk vs vb vd fz ct kd vl fr isv kn zn zh zg zf zk zs zb zd tn th tg tf tk ts tb td fp jh jg jf jk js jb jd jp jq hI H locs hP hD hS ls hl
    refine lv_iload_n hx hb dL_law_18 rfl (lv_at hl 3 rfl) ?_
    refine lv_aload_n hx hb dL_law_19 rfl (lv_at hl 0 rfl) ?_
    refine va_slen hx hb hX hbl hbA hS dL_law_20 ?_
    refine lv_iconst (v := 5) hx hb dL_law_21 (by decide) ?_
    refine lv_isub hx hb dL_law_22 ?_
    refine lv_icmp_gt (tgt := 765) hx hb dL_law_23 (by decide) (fun c_23 => ?_) (fun c_23 => ?_)
    · refine lv_iconst (v := 1) hx hb dL_law_765 (by decide) ?_
      refine va_forget (fun q hq => hS.2.2 q hq) ?_
      refine W.widen (k := 600000) (n := 7302250) (by omega) (by omega) ?_
      exact lw_ret hx hb hr hlocks dL_law_766
    · have hi5 : i + 5 ≤ L := le5 hi hL c_23
      have kk : KLw p l e s m below meth c dC dI cyI cyA b q0 a0 a1 a2 a3 a4 y0 y1 y2 y3 y4 z0 z1 z2 z3 z4 d0 d1 d2 d3 k0 k1 k2 v0 v1 v2 e0 e1 g0 m0 m1 m2 m3 m4 m5 m6 m7 m8 m9 m10 m11 m12 m13 ls := fun n fh fg ff fk vs vb vd fz ct kd vl fr isv kn zn zh zg zf zk zs zb zd tn th tg tf tk ts tb td fp jh jg jf jk js jb jd jp jq hI H locs hP hD hS => by
        refine lv_iinc (v := nI (i + 5)) (lv' := [(3, .int (nI (i + 5))), (0, .ref b), (1, .ref q0), (2, .ref m0)]) hx hb dL_law_759 hl (k := 3) rfl (ra_inc5 i) (by decide) rfl (fun ls hl => ?_)
        refine lv_goto (tgt := 18) hx hb dL_law_762 (by decide) ?_
        exact ih (i + 5) hi5 (by omega) n fh fg ff fk vs vb vd fz ct kd vl fr isv kn zn zh zg zf zk zs zb zd tn th tg tf tk ts tb td fp jh jg jf jk js jb jd jp jq hI H locs hP hD hS ls (lv_sub hl [1, 2, 3, 0] rfl)
      refine lv_aload_n hx hb dL_law_26 rfl (lv_at hl 0 rfl) ?_
      refine lv_iload_n hx hb dL_law_27 rfl (lv_at hl 3 rfl) ?_
      refine va_sld hx hb hX hbl hbA hS (vp_in_nI (show i < L by omega) (by omega)) dL_law_28 ?_
      refine lv_bipush (v := 31) hx hb dL_law_29 (by decide) ?_
      refine lv_iand hx hb dL_law_31 ?_
      refine lv_topi (fun y ey => ?_)
      by_cases h0 : y = 0
      · refine ra_top 0 h0 ?_
        refine lv_tableIn (off := 108) (tgt := 140) hx hb dL_law_32 (by decide) (by decide) (by decide) (by decide) ?_
        exact cs_coast C hi5 hI hP hD hS hl kk
      by_cases h1 : y = 1
      · refine ra_top 1 h1 ?_
        refine lv_tableIn (off := 131) (tgt := 163) hx hb dL_law_32 (by decide) (by decide) (by decide) (by decide) ?_
        exact cs_set C hi5 hI hP hD hS hl kk
      by_cases h2 : y = 2
      · refine ra_top 2 h2 ?_
        refine lv_tableIn (off := 174) (tgt := 206) hx hb dL_law_32 (by decide) (by decide) (by decide) (by decide) ?_
        exact cs_of C hi5 hI hP hD hS hl kk
      by_cases h3 : y = 3
      · refine ra_top 3 h3 ?_
        refine lv_tableIn (off := 207) (tgt := 239) hx hb dL_law_32 (by decide) (by decide) (by decide) (by decide) ?_
        exact cs_wind C hi5 hI hP hD hS hl kk
      by_cases h4 : y = 4
      · refine ra_top 4 h4 ?_
        refine lv_tableIn (off := 230) (tgt := 262) hx hb dL_law_32 (by decide) (by decide) (by decide) (by decide) ?_
        exact cs_storm C hi5 hI hP hD hS hl kk
      by_cases h5 : y = 5
      · refine ra_top 5 h5 ?_
        refine lv_tableIn (off := 253) (tgt := 285) hx hb dL_law_32 (by decide) (by decide) (by decide) (by decide) ?_
        exact cs_end C hi5 hI hP hD hS hl kk
      by_cases h6 : y = 6
      · refine ra_top 6 h6 ?_
        refine lv_tableIn (off := 266) (tgt := 298) hx hb dL_law_32 (by decide) (by decide) (by decide) (by decide) ?_
        exact cs_nourish C hi5 hI hP hD hS hl kk
      by_cases h7 : y = 7
      · refine ra_top 7 h7 ?_
        refine lv_tableIn (off := 289) (tgt := 321) hx hb dL_law_32 (by decide) (by decide) (by decide) (by decide) ?_
        exact cs_event C hi5 hI hP hD hS hl kk
      by_cases h8 : y = 8
      · refine ra_top 8 h8 ?_
        refine lv_tableIn (off := 332) (tgt := 364) hx hb dL_law_32 (by decide) (by decide) (by decide) (by decide) ?_
        exact cs_calm C hi5 hI hP hD hS hl kk
      by_cases h9 : y = 9
      · refine ra_top 9 h9 ?_
        refine lv_tableIn (off := 355) (tgt := 387) hx hb dL_law_32 (by decide) (by decide) (by decide) (by decide) ?_
        exact cs_size C hi5 hI hP hD hS hl kk
      by_cases h10 : y = 10
      · refine ra_top 10 h10 ?_
        refine lv_tableIn (off := 378) (tgt := 410) hx hb dL_law_32 (by decide) (by decide) (by decide) (by decide) ?_
        exact cs_crest C hi5 hI hP hD hS hl kk
      by_cases h11 : y = 11
      · refine ra_top 11 h11 ?_
        refine lv_tableIn (off := 431) (tgt := 463) hx hb dL_law_32 (by decide) (by decide) (by decide) (by decide) ?_
        exact cs_floods C hi5 hI hP hD hS hl kk
      by_cases h12 : y = 12
      · refine ra_top 12 h12 ?_
        refine lv_tableIn (off := 484) (tgt := 516) hx hb dL_law_32 (by decide) (by decide) (by decide) (by decide) ?_
        exact cs_plan C hi5 hI hP hD hS hl kk
      by_cases h13 : y = 13
      · refine ra_top 13 h13 ?_
        refine lv_tableIn (off := 517) (tgt := 549) hx hb dL_law_32 (by decide) (by decide) (by decide) (by decide) ?_
        exact cs_fences C hi5 hI hP hD hS hl kk
      by_cases h14 : y = 14
      · refine ra_top 14 h14 ?_
        refine lv_tableIn (off := 540) (tgt := 572) hx hb dL_law_32 (by decide) (by decide) (by decide) (by decide) ?_
        exact cs_most C hi5 hI hP hD hS hl kk
      by_cases h15 : y = 15
      · refine ra_top 15 h15 ?_
        refine lv_tableIn (off := 553) (tgt := 585) hx hb dL_law_32 (by decide) (by decide) (by decide) (by decide) ?_
        exact cs_read C hi5 hI hP hD hS hl kk
      by_cases h16 : y = 16
      · refine ra_top 16 h16 ?_
        refine lv_tableIn (off := 586) (tgt := 618) hx hb dL_law_32 (by decide) (by decide) (by decide) (by decide) ?_
        exact cs_take C hi5 hI hP hD hS hl kk
      by_cases h17 : y = 17
      · refine ra_top 17 h17 ?_
        refine lv_tableIn (off := 599) (tgt := 631) hx hb dL_law_32 (by decide) (by decide) (by decide) (by decide) ?_
        exact cs_level C hi5 hI hP hD hS hl kk
      by_cases h18 : y = 18
      · refine ra_top 18 h18 ?_
        refine lv_tableIn (off := 632) (tgt := 664) hx hb dL_law_32 (by decide) (by decide) (by decide) (by decide) ?_
        exact cs_volume C hi5 hI hP hD hS hl kk
      by_cases h19 : y = 19
      · refine ra_top 19 h19 ?_
        refine lv_tableIn (off := 655) (tgt := 687) hx hb dL_law_32 (by decide) (by decide) (by decide) (by decide) ?_
        exact cs_doubt C hi5 hI hP hD hS hl kk
      by_cases h20 : y = 20
      · refine ra_top 20 h20 ?_
        refine lv_tableIn (off := 678) (tgt := 710) hx hb dL_law_32 (by decide) (by decide) (by decide) (by decide) ?_
        exact cs_many C hi5 hI hP hD hS hl kk
      by_cases h21 : y = 21
      · refine ra_top 21 h21 ?_
        refine lv_tableIn (off := 701) (tgt := 733) hx hb dL_law_32 (by decide) (by decide) (by decide) (by decide) ?_
        exact cs_keep C hi5 hI hP hD hS hl kk
      by_cases h22 : y = 22
      · refine ra_top 22 h22 ?_
        refine lv_tableIn (off := 714) (tgt := 746) hx hb dL_law_32 (by decide) (by decide) (by decide) (by decide) ?_
        exact cs_back C hi5 hI hP hD hS hl kk
      refine lv_tableOut (tgt := 759) hx hb dL_law_32 (out22 h0 h1 h2 h3 h4 h5 h6 h7 h8 h9 h10 h11 h12 h13 h14 h15 h16 h17 h18 h19 h20 h21 h22) (by decide) ?_
      exact kk n fh fg ff fk vs vb vd fz ct kd vl fr isv kn zn zh zg zf zk zs zb zd tn th tg tf tk ts tb td fp jh jg jf jk js jb jd jp jq hI H locs hP hD hS
