/-! the start of the law -/
theorem LI_0 : LI 5 zF zF zF 10 (fun _ => 0) (fun _ => zF) (fun _ => zF) mF 0 0 5 zF zF zF := ⟨⟨by omega, by omega⟩, GC_0, GC_0, ⟨by decide, by decide⟩, fun _ _ => Nat.zero_le 12, fun _ i hi => absurd hi (Nat.not_lt_zero i), fun _ i hi => absurd hi (Nat.not_lt_zero i), RD_0 5, by omega, Or.inl ⟨rfl, rfl⟩⟩
set_option maxHeartbeats 4000000 in
set_option maxRecDepth 100000 in
theorem whole_start {p : Program} {e : Env} {s : State} {m : MethodId} {below : List Frame} {meth : Method} {c : Code} (l : Launch) {b L : Nat} {xs : Nat → Int32} (hL : L ≤ 2560) (C0 : lw_At p s m meth c b L xs) : W p l e room_1 s m #[Value.ref b] below meth c s.heap [] 0 0 (lw_Z below #[Value.ref b] s) (entryFrame m ([Value.ref b] : List Value).toArray 4) := by
  obtain ⟨hx, hb, hr, hml, hown, hts, hX, hbl, hlocks, hgv⟩ := id C0
  have hb : c.code = cL_law := hb
  have hown : s.vm.findClass RL = some m.cls := hown
  have htl : ∀ w ∈ wsL_law, w.before #[Value.ref b] s = true := fun w h => hts w (wsL_law_in w h)
  have hA : ∀ q : Nat, s.heap.size ≤ q → (fun q : Nat => s.heap.size ≤ q) q := fun _ h => h
  obtain ⟨c0, iS0, hKn0⟩ := u_known (C := RX0) (T := TX0) (N := 8) (n := 8) htl inlX0 (htl (.instantiable RX0 8) (List.mem_of_getElem? (i := 13) (by decide +kernel)))
  obtain ⟨c1, iS1, hKn1⟩ := u_known (C := RX1) (T := TX1) (N := 1) (n := 1) htl inlX1 (htl (.instantiable RX1 1) (List.mem_of_getElem? (i := 24) (by decide +kernel)))
  obtain ⟨c2, iS2, hKn2⟩ := u_known (C := RX2) (T := TX2) (N := 3) (n := 3) htl inlX2 (htl (.instantiable RX2 3) (List.mem_of_getElem? (i := 20) (by decide +kernel)))
  obtain ⟨c3, iS3, hKn3⟩ := u_known (C := RX3) (T := TX3) (N := 8) (n := 8) htl inlX3 (htl (.instantiable RX3 8) (List.mem_of_getElem? (i := 1) (by decide +kernel)))
  obtain ⟨c4, iS4, hKn4⟩ := u_known (C := RX4) (T := TX4) (N := 16) (n := 16) htl inlX4 (htl (.instantiable RX4 16) (List.mem_of_getElem? (i := 4) (by decide +kernel)))
  obtain ⟨dC, dI, hKc⟩ : ∃ (dC : Nat → ClassId) (dI : Nat → Nat → Nat), ∀ (k : Nat) (q : vw_C), vwCl[k]? = some q → u_Kn s q.1 q.2.1 q.2.2 (dC k) (dI k) := by
    refine ⟨fun k => if k = 0 then c0 else if k = 1 then c1 else if k = 2 then c2 else if k = 3 then c3 else c4, fun k => if k = 0 then iS0 else if k = 1 then iS1 else if k = 2 then iS2 else if k = 3 then iS3 else iS4, ?_⟩
    intro k q hq
    match k, hq with
    | 0, hq => cases hq; exact hKn0
    | 1, hq => cases hq; exact hKn1
    | 2, hq => cases hq; exact hKn2
    | 3, hq => cases hq; exact hKn3
    | 4, hq => cases hq; exact hKn4
    | k + 5, hq => simp [vwCl] at hq
  have harr := (htl (.arrayClass .int) (List.mem_of_getElem? (i := 28) (by decide +kernel)))
  have hO : va_AOA .int s := va_AOA.of (hts (.arrayOver (.array .int)) (List.mem_of_getElem? (i := 95) (by decide +kernel)))
  have hN : va_Nw nwd s := va_Nw.of rfl (hts nwd (List.mem_of_getElem? (i := 217) (by decide +kernel)))
  obtain ⟨cyI, kI, compI, f1, f2, f3⟩ := Cond.arrayClass_spec harr
  obtain ⟨compA, cyA, kA, g1, g2, g3, g4⟩ := Cond.arrayOver_specA hO
  have hK : va_K (dC, dI) vwCl (kT cyI cyA) s := by
    refine ⟨hKc, fun k q hq => ?_⟩
    match k, hq with
    | 0, hq => cases hq; exact ⟨fun n z => ⟨fun k h => (by cases h), kI, f2, compI, f3⟩, f1⟩
    | 1, hq => cases hq; exact ⟨fun n z => ⟨fun k h => (by cases h), kA, g2, compA, g3⟩, g4⟩
    | k + 2, hq => simp [kT] at hq
  have hS : va_S (fun q : Nat => s.heap.size ≤ q) s.heap s.heap [] := va_S.rf
  have hP : va_P (dC, dI) vwCl [] s.heap := fun k q h => by simp at h
  have hD : va_D (fun q : Nat => s.heap.size ≤ q) [] := ⟨fun i j p q h => by simp at h, fun k q h => by simp at h⟩
  have hl := lv_entry ([.ref b]) (n := 4) (Nat.le_of_ble_eq_true rfl)
  rw [lg_entry_eq]
  generalize (lg_sl ([.ref b]) ++ List.replicate (4 - (lg_sl ([.ref b])).length) Slot.unset).toArray = ls at hl ⊢
  have hl : lv_has ls 4 [(0, .ref b)] := hl
  refine va_new (ci := 3) (fs := [.null, .null, .null, .int 0, .null, .null, .int 0, .null]) (C := RX3) (T := TX3) (N := 8) hx hb htl inlX3 tyX3 tyX3_ok hown (htl (.classLink RL 7 RX3) (List.mem_of_getElem? (i := 0) (by decide +kernel))) (htl (.instantiable RX3 8) (List.mem_of_getElem? (i := 1) (by decide +kernel))) (htl (.initialized RX3) (List.mem_of_getElem? (i := 2) (by decide +kernel))) hK hP hD hS hA rfl (fun j hj => by rcases (show j = 0 ∨ j = 1 ∨ j = 2 ∨ j = 3 ∨ j = 4 ∨ j = 5 ∨ j = 6 ∨ j = 7 by omega) with rfl | rfl | rfl | rfl | rfl | rfl | rfl | rfl <;> rfl) (Nat.le_of_ble_eq_true rfl) (Nat.le_of_ble_eq_true rfl) dL_law_0 (fun q0 H hP hD hS => ?_)
  have hP : va_P (dC, dI) vwCl [ob q0 3 [.null, .null, .null, .int 0, .null, .null, .int 0, .null]] H := hP
  have hD : va_D (fun q : Nat => s.heap.size ≤ q) [ob q0 3 [.null, .null, .null, .int 0, .null, .null, .int 0, .null]] := hD
  refine W.widen (k := 1) (n := 8) (by omega) (by omega) ?_
  refine lv_dup hx hb dL_law_3 rfl ?_
  refine ra_cK (As := []) (rest := [.ref q0]) (wc := [ob q0 3 [.null, .null, .null, .int 0, .null, .null, .int 0, .null]]) (wr := []) ⟨hx, hb, hml, hown, htl⟩ (c_X3_init l dC dI cyI cyA q0 H.size) (cwI 0 htl gL_law_X3_init rfl rfl rfl (htl (.initialized RX3) (List.mem_of_getElem? (i := 2) (by decide +kernel))) (htl (.methodLink RL 9 yX3_init) (List.mem_of_getElem? (i := 6) (by decide +kernel))) (htl (.instanceMethod yX3_init) (List.mem_of_getElem? (i := 7) (by decide +kernel))) rfl (by decide +kernel) ⟨(Nat.le_of_ble_eq_true rfl), (Nat.le_of_ble_eq_true rfl)⟩) hK hN hO hP hD hA hS [0] [] rfl rfl (by decide) (by decide) (by decide) rfl hl.1 rfl (Nat.le_of_ble_eq_true rfl) dL_law_4 ⟨(Nat.le_of_ble_eq_true rfl), (Nat.le_of_ble_eq_true rfl)⟩ (fun u hw_1 H locs hP hD hS => ?_)
  obtain ⟨a0, a1, a2, a3, a4, y0, y1, y2, y3, y4, z0, z1, z2, z3, z4, d0, d1, d2, d3, k0, k1, k2, v0, v1, v2, e0, e1, g0⟩ := u
  have hP : va_P (dC, dI) vwCl (FWl cyI cyA q0 a0 a1 a2 a3 a4 y0 y1 y2 y3 y4 z0 z1 z2 z3 z4 d0 d1 d2 d3 k0 k1 k2 v0 v1 v2 e0 e1 g0 5 zF zF zF zF 0 0 0 10 (fun _ => 0) (fun _ => zF) (fun _ => zF) mF 0 5 zF zF zF zF 0 0 0 5 zF zF zF zF 0 0 0 zF) H := hP
  have hD : va_D (fun q : Nat => s.heap.size ≤ q) (FWl cyI cyA q0 a0 a1 a2 a3 a4 y0 y1 y2 y3 y4 z0 z1 z2 z3 z4 d0 d1 d2 d3 k0 k1 k2 v0 v1 v2 e0 e1 g0 5 zF zF zF zF 0 0 0 10 (fun _ => 0) (fun _ => zF) (fun _ => zF) mF 0 5 zF zF zF zF 0 0 0 5 zF zF zF zF 0 0 0 zF) := hD
  refine W.widen (k := 29) (n := 211) (by omega) (by omega) ?_
  refine lv_astore_n (lv' := [(1, .ref q0), (0, .ref b)]) hx hb dL_law_7 rfl hl (by decide) rfl (fun ls hl => ?_)
  refine va_new (ci := 4) (fs := [.int 0, .int 0, .int 0, .null, .null, .null, .null, .null, .null, .null, .null, .null, .null, .null, .null, .null]) (C := RX4) (T := TX4) (N := 16) hx hb htl inlX4 tyX4 tyX4_ok hown (htl (.classLink RL 10 RX4) (List.mem_of_getElem? (i := 3) (by decide +kernel))) (htl (.instantiable RX4 16) (List.mem_of_getElem? (i := 4) (by decide +kernel))) (htl (.initialized RX4) (List.mem_of_getElem? (i := 5) (by decide +kernel))) hK hP hD hS hA rfl (fun j hj => by rcases (show j = 0 ∨ j = 1 ∨ j = 2 ∨ j = 3 ∨ j = 4 ∨ j = 5 ∨ j = 6 ∨ j = 7 ∨ j = 8 ∨ j = 9 ∨ j = 10 ∨ j = 11 ∨ j = 12 ∨ j = 13 ∨ j = 14 ∨ j = 15 by omega) with rfl | rfl | rfl | rfl | rfl | rfl | rfl | rfl | rfl | rfl | rfl | rfl | rfl | rfl | rfl | rfl <;> rfl) (Nat.le_of_ble_eq_true rfl) (Nat.le_of_ble_eq_true rfl) dL_law_8 (fun m0 H hP hD hS => ?_)
  have hP : va_P (dC, dI) vwCl (FWl cyI cyA q0 a0 a1 a2 a3 a4 y0 y1 y2 y3 y4 z0 z1 z2 z3 z4 d0 d1 d2 d3 k0 k1 k2 v0 v1 v2 e0 e1 g0 5 zF zF zF zF 0 0 0 10 (fun _ => 0) (fun _ => zF) (fun _ => zF) mF 0 5 zF zF zF zF 0 0 0 5 zF zF zF zF 0 0 0 zF ++ [ob m0 4 [.int 0, .int 0, .int 0, .null, .null, .null, .null, .null, .null, .null, .null, .null, .null, .null, .null, .null]]) H := hP
  have hD : va_D (fun q : Nat => s.heap.size ≤ q) (FWl cyI cyA q0 a0 a1 a2 a3 a4 y0 y1 y2 y3 y4 z0 z1 z2 z3 z4 d0 d1 d2 d3 k0 k1 k2 v0 v1 v2 e0 e1 g0 5 zF zF zF zF 0 0 0 10 (fun _ => 0) (fun _ => zF) (fun _ => zF) mF 0 5 zF zF zF zF 0 0 0 5 zF zF zF zF 0 0 0 zF ++ [ob m0 4 [.int 0, .int 0, .int 0, .null, .null, .null, .null, .null, .null, .null, .null, .null, .null, .null, .null, .null]]) := hD
  refine W.widen (k := 30) (n := 227) (by omega) (by omega) ?_
  refine lv_dup hx hb dL_law_11 rfl ?_
  refine ra_cK (As := []) (rest := [.ref m0]) (wc := [ob m0 4 [.int 0, .int 0, .int 0, .null, .null, .null, .null, .null, .null, .null, .null, .null, .null, .null, .null, .null]]) (wr := FWl cyI cyA q0 a0 a1 a2 a3 a4 y0 y1 y2 y3 y4 z0 z1 z2 z3 z4 d0 d1 d2 d3 k0 k1 k2 v0 v1 v2 e0 e1 g0 5 zF zF zF zF 0 0 0 10 (fun _ => 0) (fun _ => zF) (fun _ => zF) mF 0 5 zF zF zF zF 0 0 0 5 zF zF zF zF 0 0 0 zF) ⟨hx, hb, hml, hown, htl⟩ (c_X4_init l dC dI cyI cyA m0 H.size) (cwI 0 htl gL_law_X4_init rfl rfl rfl (htl (.initialized RX4) (List.mem_of_getElem? (i := 5) (by decide +kernel))) (htl (.methodLink RL 12 yX4_init) (List.mem_of_getElem? (i := 63) (by decide +kernel))) (htl (.instanceMethod yX4_init) (List.mem_of_getElem? (i := 64) (by decide +kernel))) rfl (by decide +kernel) ⟨(Nat.le_of_ble_eq_true rfl), (Nat.le_of_ble_eq_true rfl)⟩) hK hN hO hP hD hA hS [29] [0, 1, 2, 3, 4, 5, 6, 7, 8, 9, 10, 11, 12, 13, 14, 15, 16, 17, 18, 19, 20, 21, 22, 23, 24, 25, 26, 27, 28] rfl rfl (by decide) (by decide) (by decide) rfl hl.1 rfl (Nat.le_of_ble_eq_true rfl) dL_law_12 ⟨(Nat.le_of_ble_eq_true rfl), (Nat.le_of_ble_eq_true rfl)⟩ (fun u hw_2 H locs hP hD hS => ?_)
  obtain ⟨m1, m2, m3, m4, m5, m6, m7, m8, m9, m10, m11, m12, m13⟩ := u
  have hP : va_P (dC, dI) vwCl (FWl cyI cyA q0 a0 a1 a2 a3 a4 y0 y1 y2 y3 y4 z0 z1 z2 z3 z4 d0 d1 d2 d3 k0 k1 k2 v0 v1 v2 e0 e1 g0 5 zF zF zF zF 0 0 0 10 (fun _ => 0) (fun _ => zF) (fun _ => zF) mF 0 5 zF zF zF zF 0 0 0 5 zF zF zF zF 0 0 0 zF ++ MWl cyI m0 m1 m2 m3 m4 m5 m6 m7 m8 m9 m10 m11 m12 m13 5 zF zF zF zF 0 0 0 10 (fun _ => 0) (fun _ => zF) (fun _ => zF) mF 0 zF zF zF zF 0 0 0 zF zF zF zF 0 0 0 zF zF) H := hP
  have hD : va_D (fun q : Nat => s.heap.size ≤ q) (FWl cyI cyA q0 a0 a1 a2 a3 a4 y0 y1 y2 y3 y4 z0 z1 z2 z3 z4 d0 d1 d2 d3 k0 k1 k2 v0 v1 v2 e0 e1 g0 5 zF zF zF zF 0 0 0 10 (fun _ => 0) (fun _ => zF) (fun _ => zF) mF 0 5 zF zF zF zF 0 0 0 5 zF zF zF zF 0 0 0 zF ++ MWl cyI m0 m1 m2 m3 m4 m5 m6 m7 m8 m9 m10 m11 m12 m13 5 zF zF zF zF 0 0 0 10 (fun _ => 0) (fun _ => zF) (fun _ => zF) mF 0 zF zF zF zF 0 0 0 zF zF zF zF 0 0 0 zF zF) := hD
  refine W.widen (k := 43) (n := 408) (by omega) (by omega) ?_
  refine lv_astore_n (lv' := [(2, .ref m0), (1, .ref q0), (0, .ref b)]) hx hb dL_law_15 rfl hl (by decide) rfl (fun ls hl => ?_)
  refine lv_iconst (v := 0) hx hb dL_law_16 (by decide) ?_
  refine lv_istore_n (lv' := [(3, .int 0), (2, .ref m0), (1, .ref q0), (0, .ref b)]) hx hb dL_law_17 rfl hl (by decide) rfl (fun ls hl => ?_)
  have hC : LC p s m c dC dI cyI cyA b L xs := ⟨hx, hb, hml, hown, htl, hX, hbl, hK, hN, hL⟩
  exact law_loop hC hr hlocks (L + 1) 0 (by omega) (by omega) 5 zF zF zF zF 0 0 0 10 (fun _ => 0) (fun _ => zF) (fun _ => zF) mF 0 0 5 zF zF zF zF 0 0 0 5 zF zF zF zF 0 0 0 zF zF zF zF zF 0 0 0 zF zF LI_0 H locs hP hD hS ls (lv_sub hl [3, 2, 1, 0] rfl)
