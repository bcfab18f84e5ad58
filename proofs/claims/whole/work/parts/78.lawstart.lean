theorem xs_in_X0 : Cond.instantiable RX0 4 ∈ xw_tbl := List.mem_of_getElem? (i := 183) (by decide +kernel)
theorem xs_in_X1 : Cond.instantiable RX1 3 ∈ xw_tbl := List.mem_of_getElem? (i := 248) (by decide +kernel)
theorem xs_in_X2 : Cond.instantiable RX2 3 ∈ xw_tbl := List.mem_of_getElem? (i := 272) (by decide +kernel)
theorem xs_in_X3 : Cond.instantiable RX3 5 ∈ xw_tbl := List.mem_of_getElem? (i := 107) (by decide +kernel)
theorem xs_in_X4 : Cond.instantiable RX4 7 ∈ xw_tbl := List.mem_of_getElem? (i := 149) (by decide +kernel)
theorem xs_in_X5 : Cond.instantiable RX5 5 ∈ xw_tbl := List.mem_of_getElem? (i := 223) (by decide +kernel)
theorem xs_in_X6 : Cond.instantiable RX6 5 ∈ xw_tbl := List.mem_of_getElem? (i := 177) (by decide +kernel)
theorem xs_in_X8 : Cond.instantiable RX8 2 ∈ xw_tbl := List.mem_of_getElem? (i := 258) (by decide +kernel)
theorem xs_in_X9 : Cond.instantiable RX9 2 ∈ xw_tbl := List.mem_of_getElem? (i := 90) (by decide +kernel)
theorem xs_in_X10 : Cond.instantiable RX10 9 ∈ xw_tbl := List.mem_of_getElem? (i := 291) (by decide +kernel)
theorem xs_in_X11 : Cond.instantiable RX11 17 ∈ xw_tbl := List.mem_of_getElem? (i := 82) (by decide +kernel)
theorem xs_in_X12 : Cond.instantiable RX12 39 ∈ xw_tbl := List.mem_of_getElem? (i := 802) (by decide +kernel)
theorem xs_aI : Cond.arrayClass .int ∈ xw_tbl := List.mem_of_getElem? (i := 105) (by decide +kernel)
theorem xs_aZ : Cond.arrayClass .boolean ∈ xw_tbl := List.mem_of_getElem? (i := 925) (by decide +kernel)
theorem xs_nF : ∀ w ∈ nestF.map (fun q => Cond.fieldLinkNest q.1 q.2.1 q.2.2.1 q.2.2.2.1 q.2.2.2.2 "PrefixSmith"), w ∈ xw_tbl := xl_mem _ [96, 98, 99, 113, 115, 116, 117, 118, 120, 121, 122, 123, 124, 126, 127, 128, 129, 131, 132, 133, 134, 135, 136, 189, 192, 193, 194, 196, 265, 282, 297, 299, 301, 302, 304, 306, 309, 310, 312, 314] (by decide +kernel)
theorem xs_nM : ∀ w ∈ nestM.map (fun q => Cond.methodLinkNest q.1 q.2.1 q.2.2 "PrefixSmith"), w ∈ xw_tbl := xl_mem _ [91, 259, 273] (by decide +kernel)
theorem xs_dec : Cond.declares ⟨"PrefixSmith$Parting", "middle", "(LPrefixSmith$Leaves;II)I"⟩ ∈ xw_tbl := List.mem_of_getElem? (i := 555) (by decide +kernel)
set_option maxRecDepth 100000 in
set_option maxHeartbeats 4000000 in
/-- what is known of the tables at the law's entry -/
theorem xs_K {s : State} {args : Array Value} (hts : ∀ w ∈ xw_tbl, w.before args s = true) : ∃ (D : va_G) (cI cZ : ClassId), K_ D vwCl [(cI, .int), (cZ, .boolean)] s := by
  obtain ⟨c0, i0, k0⟩ := u_known (C := RX0) (T := TX0) (N := 4) (n := 4) hts xl_X0 (hts _ xs_in_X0)
  obtain ⟨c1, i1, k1⟩ := u_known (C := RX1) (T := TX1) (N := 3) (n := 3) hts xl_X1 (hts _ xs_in_X1)
  obtain ⟨c2, i2, k2⟩ := u_known (C := RX2) (T := TX2) (N := 3) (n := 3) hts xl_X2 (hts _ xs_in_X2)
  obtain ⟨c3, i3, k3⟩ := u_known (C := RX3) (T := TX3) (N := 5) (n := 5) hts xl_X3 (hts _ xs_in_X3)
  obtain ⟨c4, i4, k4⟩ := u_known (C := RX4) (T := TX4) (N := 7) (n := 7) hts xl_X4 (hts _ xs_in_X4)
  obtain ⟨c5, i5, k5⟩ := u_known (C := RX5) (T := TX5) (N := 5) (n := 5) hts xl_X5 (hts _ xs_in_X5)
  obtain ⟨c6, i6, k6⟩ := u_known (C := RX6) (T := TX6) (N := 5) (n := 5) hts xl_X6 (hts _ xs_in_X6)
  obtain ⟨c7, i7, k7⟩ := u_known (C := RX8) (T := TX8) (N := 2) (n := 2) hts xl_X8 (hts _ xs_in_X8)
  obtain ⟨c8, i8, k8⟩ := u_known (C := RX9) (T := TX9) (N := 2) (n := 2) hts xl_X9 (hts _ xs_in_X9)
  obtain ⟨c9, i9, k9⟩ := u_known (C := RX10) (T := TX10) (N := 9) (n := 9) hts xl_X10 (hts _ xs_in_X10)
  obtain ⟨c10, i10, k10⟩ := u_known (C := RX11) (T := TX11) (N := 17) (n := 17) hts xl_X11 (hts _ xs_in_X11)
  obtain ⟨c11, i11, k11⟩ := u_known (C := RX12) (T := TX12) (N := 39) (n := 39) hts xl_X12 (hts _ xs_in_X12)
  obtain ⟨cI, kI, compI, aI1, aI2, aI3⟩ := Cond.arrayClass_spec (hts _ xs_aI)
  obtain ⟨cZ, kZ, compZ, aZ1, aZ2, aZ3⟩ := Cond.arrayClass_spec (hts _ xs_aZ)
  refine ⟨(fun k => if k = 0 then c0 else if k = 1 then c1 else if k = 2 then c2 else if k = 3 then c3 else if k = 4 then c4 else if k = 5 then c5 else if k = 6 then c6 else if k = 7 then c7 else if k = 8 then c8 else if k = 9 then c9 else if k = 10 then c10 else c11, fun k => if k = 0 then i0 else if k = 1 then i1 else if k = 2 then i2 else if k = 3 then i3 else if k = 4 then i4 else if k = 5 then i5 else if k = 6 then i6 else if k = 7 then i7 else if k = 8 then i8 else if k = 9 then i9 else if k = 10 then i10 else i11), cI, cZ, ⟨?_, ?_⟩, ?_, ?_, ?_⟩
  · intro k q hq
    match k, hq with
    | 0, hq => cases hq; exact k0
    | 1, hq => cases hq; exact k1
    | 2, hq => cases hq; exact k2
    | 3, hq => cases hq; exact k3
    | 4, hq => cases hq; exact k4
    | 5, hq => cases hq; exact k5
    | 6, hq => cases hq; exact k6
    | 7, hq => cases hq; exact k7
    | 8, hq => cases hq; exact k8
    | 9, hq => cases hq; exact k9
    | 10, hq => cases hq; exact k10
    | 11, hq => cases hq; exact k11
    | k + 12, hq => simp [vwCl] at hq
  · intro k q hq
    match k, hq with
    | 0, hq => cases hq; exact ⟨fun n z => ⟨fun k h => (by cases h), kI, aI2, compI, aI3⟩, aI1⟩
    | 1, hq => cases hq; exact ⟨fun n z => ⟨fun k h => (by cases h), kZ, aZ2, compZ, aZ3⟩, aZ1⟩
    | k + 2, hq => simp at hq
  · exact fun q hq => va_Nw.of rfl (hts _ (xs_nF _ (List.mem_map_of_mem hq)))
  · exact fun q hq => va_Nw.of rfl (hts _ (xs_nM _ (List.mem_map_of_mem hq)))
  · exact va_Nw.of rfl (hts _ xs_dec)
theorem kL_cl11 : Cond.classLink RL 7 RX11 ∈ wsL_law := by decide +kernel
theorem kL_cl12 : Cond.classLink RL 18 RX12 ∈ wsL_law := by decide +kernel
theorem kL_in11 : Cond.instantiable RX11 17 ∈ wsL_law := by decide +kernel
theorem kL_in12 : Cond.instantiable RX12 39 ∈ wsL_law := by decide +kernel
theorem kL_ini11 : Cond.initialized RX11 ∈ wsL_law := by decide +kernel
theorem kL_ini12 : Cond.initialized RX12 ∈ wsL_law := by decide +kernel
theorem kL_m11 : Cond.methodLink RL 15 yX11_init ∈ wsL_law := by decide +kernel
theorem kL_m12 : Cond.methodLink RL 20 yX12_init ∈ wsL_law := by decide +kernel
theorem kL_im11 : Cond.instanceMethod yX11_init ∈ wsL_law := by decide +kernel
theorem kL_im12 : Cond.instanceMethod yX12_init ∈ wsL_law := by decide +kernel
set_option maxRecDepth 100000 in
set_option maxHeartbeats 8000000 in
theorem start_open {p : Program} {e : Env} {s : State} {m : MethodId} {below : List Frame} {meth : Method} {c : Code} (l : Launch) {b L : Nat} {xs : Nat → Int32} (hL : L ≤ 2050) (C0 : lw_At p s m meth c b L xs) {F : Nat} {Inv : (Nat → Int32) → (Nat → Nat) → (Nat → Nat → Int32) → (Nat → Int32) → (Nat → Nat) → (Nat → Nat → Int32) → Prop} (hs0 : Sim_start F Inv) (hs_feed : Sim_feed F Inv) (hs_feedAll : Sim_feedAll F Inv) (hs_clear : Sim_clear F Inv) (hs_count : Sim_count F Inv) (hs_build : Sim_build F Inv) (hs_length : Sim_length F Inv) (hs_poke : Sim_poke F Inv) (hs_load : Sim_load F Inv) (hs_code : Sim_code F Inv) (hs_encode : Sim_encode F Inv) (hs_decode : Sim_decode F Inv) (hs_pack : Sim_pack F Inv) (hs_unpack : Sim_unpack F Inv) (hs_push : Sim_push F Inv) (hs_cut : Sim_cut F Inv) (hs_bit : Sim_bit F Inv) (hs_turn : Sim_turn F Inv) (hs_out : Sim_out F Inv) (hs_place : Sim_place F Inv) (hs_key : Sim_key F Inv) (hs_keyBit : Sim_keyBit F Inv) (hs_told : Sim_told F Inv) : W p l e room_1 s m #[Value.ref b] below meth c s.heap [] 0 0 (lw_Z below #[Value.ref b] s) (entryFrame m ([Value.ref b] : List Value).toArray 4) := by
  obtain ⟨hx, hb, hr, hml, hown, htsl, hX, hbl, hlocks, hgv⟩ := C0
  have htx := xw_hts htsl
  have hts : ∀ w ∈ wsL_law, w.before #[Value.ref b] s = true := fun w h => htx w (xl_law w h)
  have S : CallFix p m c cL_law 4 s #[Value.ref b] wsL_law RL := ⟨hx, hb, hml, hown, hts⟩
  obtain ⟨D, cI, cZ, hK⟩ := xs_K htx
  have hA : ∀ q : Nat, s.heap.size ≤ q → (fun q : Nat => s.heap.size ≤ q) q := fun _ h => h
  have hbA : ¬ (fun q : Nat => s.heap.size ≤ q) b := Nat.not_le.mpr hbl
  have hL31 : L < 2 ^ 31 := by omega
  obtain ⟨r, r', g1, g2, g3⟩ := hs0 (xc L xs 0) (xc L xs 1)
  have hend : ∀ (ws : va_W) (lv : List (Nat × Value)) (pc : Nat), decode cL_law pc = .ok (.ireturn, 1) → X_ p l e room_1 s m #[Value.ref b] below meth c (lw_Z below #[Value.ref b] s) D vwCl (fun q : Nat => s.heap.size ≤ q) 4 600000 7302250 ws lv pc [.int 1] := fun ws lv pc hd H locs ls hP hD hS hl => va_forget (fun q hq => hS.2.2 q hq) (lw_ret hx hb hr hlocks hd)
  have main : X_ p l e room_1 s m #[Value.ref b] below meth c (lw_Z below #[Value.ref b] s) D vwCl (fun q : Nat => s.heap.size ≤ q) 4 0 0 [] [(0, .ref b)] 0 [] := by
    refine x_new (ci := 10) (fs := [.int 0, .int 0, .null, .null, .null, .null, .null, .null, .null, .null, .null, .null, .null, .null, .null, .null, .null]) S hK hA inlX11 tyX11 tyX11_ok kL_cl11 kL_in11 kL_ini11 rfl (fun j hj => by rcases (show j = 0 ∨ j = 1 ∨ j = 2 ∨ j = 3 ∨ j = 4 ∨ j = 5 ∨ j = 6 ∨ j = 7 ∨ j = 8 ∨ j = 9 ∨ j = 10 ∨ j = 11 ∨ j = 12 ∨ j = 13 ∨ j = 14 ∨ j = 15 ∨ j = 16 by omega) with rfl | rfl | rfl | rfl | rfl | rfl | rfl | rfl | rfl | rfl | rfl | rfl | rfl | rfl | rfl | rfl | rfl <;> rfl) (Nat.le_of_ble_eq_true rfl) (Nat.le_of_ble_eq_true rfl) dL_law_0 (fun q0 => ?_)
    refine x_we (ws' := [(q0, .inr (10, [.int 0, .int 0, .null, .null, .null, .null, .null, .null, .null, .null, .null, .null, .null, .null, .null, .null, .null]))]) rfl ?_
    refine x_dup S dL_law_3 rfl ?_
    refine x_aload_n S dL_law_4 rfl 0 rfl ?_
    refine x_iconst (v := 0) S dL_law_5 (by decide) ?_
    refine x_cell S hX hbl hbA hL31 (va_cwS 2 S.2.2.2.2 gL_law_L_cell rfl rfl rfl (by decide +kernel) ⟨(Nat.le_of_ble_eq_true rfl), (Nat.le_of_ble_eq_true rfl)⟩) (by decide) (Nat.le_of_ble_eq_true rfl) dL_law_6 ⟨(Nat.le_of_ble_eq_true rfl), (Nat.le_of_ble_eq_true rfl)⟩ ?_
    refine x_aload_n S dL_law_9 rfl 0 rfl ?_
    refine x_iconst (v := 1) S dL_law_10 (by decide) ?_
    refine x_cell S hX hbl hbA hL31 (va_cwS 2 S.2.2.2.2 gL_law_L_cell rfl rfl rfl (by decide +kernel) ⟨(Nat.le_of_ble_eq_true rfl), (Nat.le_of_ble_eq_true rfl)⟩) (by decide) (Nat.le_of_ble_eq_true rfl) dL_law_11 ⟨(Nat.le_of_ble_eq_true rfl), (Nat.le_of_ble_eq_true rfl)⟩ ?_
    refine x_callI S hK hA (c_X11_init l D cI cZ F q0 (xc L xs 0) (xc L xs 1) r g1) (cwI 2 S.2.2.2.2 gL_law_X11_init rfl rfl rfl (S.2.2.2.2 _ kL_ini11) (S.2.2.2.2 _ kL_m11) (S.2.2.2.2 _ kL_im11) rfl (by decide +kernel) ⟨(Nat.le_of_ble_eq_true rfl), (Nat.le_of_ble_eq_true rfl)⟩) [0] [] rfl (by decide) rfl (by decide) (by decide) rfl (Nat.le_of_ble_eq_true rfl) rfl dL_law_14 ⟨(Nat.le_of_ble_eq_true rfl), (Nat.le_of_ble_eq_true rfl)⟩ (fun w1 hw1 => ?_)
    obtain ⟨a1, a2, a3, a4, a5, a6, a7, a8, a9, a10, a11, a12, a13, a14, a15, a16, a17, a18, a19, a20, a21, a22, a23, a24, a25, a26, a27, a28, a29, a30, a31, a32, a33, a34, a35, a36, a37, a38, a39, a40, a41, a42, a43, a44, a45, a46, a47, a48, rfl⟩ := hw1
    refine x_we (ws' := WX cI cZ (fun k => ([q0, a1, a2, a3, a4, a5, a6, a7, a8, a9, a10, a11, a12, a13, a14, a15, a16, a17, a18, a19, a20, a21, a22, a23, a24, a25, a26, a27, a28, a29, a30, a31, a32, a33, a34, a35, a36, a37, a38, a39, a40, a41, a42, a43, a44, a45, a46, a47, a48] : List Nat).getD k 0) (sXi r) (sXn r) (sXa r)) rfl ?_
    refine x_wd (k1 := 1000) (n1 := 100000) (Nat.le_of_ble_eq_true rfl) (Nat.le_of_ble_eq_true rfl) ?_
    refine x_astore_n (lv' := [(1, .ref q0), (0, .ref b)]) S dL_law_17 rfl (by decide) rfl ?_
    refine x_new (ci := 11) (fs := [.int 0, .int 0, .null, .int 0, .null, .null, .int 0, .int 0, .null, .int 0, .null, .int 0, .int 0, .null, .null, .null, .int 0, .null, .null, .null, .null, .null, .null, .null, .null, .null, .int 0, .int 0, .null, .null, .null, .null, .null, .int 0, .null, .null, .null, .null, .int 0]) S hK hA inlX12 tyX12 tyX12_ok kL_cl12 kL_in12 kL_ini12 rfl (fun j hj => by rcases (show j = 0 ∨ j = 1 ∨ j = 2 ∨ j = 3 ∨ j = 4 ∨ j = 5 ∨ j = 6 ∨ j = 7 ∨ j = 8 ∨ j = 9 ∨ j = 10 ∨ j = 11 ∨ j = 12 ∨ j = 13 ∨ j = 14 ∨ j = 15 ∨ j = 16 ∨ j = 17 ∨ j = 18 ∨ j = 19 ∨ j = 20 ∨ j = 21 ∨ j = 22 ∨ j = 23 ∨ j = 24 ∨ j = 25 ∨ j = 26 ∨ j = 27 ∨ j = 28 ∨ j = 29 ∨ j = 30 ∨ j = 31 ∨ j = 32 ∨ j = 33 ∨ j = 34 ∨ j = 35 ∨ j = 36 ∨ j = 37 ∨ j = 38 by omega) with rfl | rfl | rfl | rfl | rfl | rfl | rfl | rfl | rfl | rfl | rfl | rfl | rfl | rfl | rfl | rfl | rfl | rfl | rfl | rfl | rfl | rfl | rfl | rfl | rfl | rfl | rfl | rfl | rfl | rfl | rfl | rfl | rfl | rfl | rfl | rfl | rfl | rfl | rfl <;> rfl) (Nat.le_of_ble_eq_true rfl) (Nat.le_of_ble_eq_true rfl) dL_law_18 (fun q18 => ?_)
    refine x_dup S dL_law_21 rfl ?_
    refine x_aload_n S dL_law_22 rfl 1 rfl ?_
    refine x_iconst (v := 0) S dL_law_23 (by decide) ?_
    refine x_cell S hX hbl hbA hL31 (va_cwS 2 S.2.2.2.2 gL_law_L_cell rfl rfl rfl (by decide +kernel) ⟨(Nat.le_of_ble_eq_true rfl), (Nat.le_of_ble_eq_true rfl)⟩) (by decide) (Nat.le_of_ble_eq_true rfl) dL_law_24 ⟨(Nat.le_of_ble_eq_true rfl), (Nat.le_of_ble_eq_true rfl)⟩ ?_
    refine x_aload_n S dL_law_27 rfl 1 rfl ?_
    refine x_iconst (v := 1) S dL_law_28 (by decide) ?_
    refine x_cell S hX hbl hbA hL31 (va_cwS 2 S.2.2.2.2 gL_law_L_cell rfl rfl rfl (by decide +kernel) ⟨(Nat.le_of_ble_eq_true rfl), (Nat.le_of_ble_eq_true rfl)⟩) (by decide) (Nat.le_of_ble_eq_true rfl) dL_law_29 ⟨(Nat.le_of_ble_eq_true rfl), (Nat.le_of_ble_eq_true rfl)⟩ ?_
    refine x_callI S hK hA (c_X12_init l D cI cZ F q18 (xc L xs 0) (xc L xs 1) r' g2) (cwI 2 S.2.2.2.2 gL_law_X12_init rfl rfl rfl (S.2.2.2.2 _ kL_ini12) (S.2.2.2.2 _ kL_m12) (S.2.2.2.2 _ kL_im12) rfl (by decide +kernel) ⟨(Nat.le_of_ble_eq_true rfl), (Nat.le_of_ble_eq_true rfl)⟩) [49] [0, 1, 2, 3, 4, 5, 6, 7, 8, 9, 10, 11, 12, 13, 14, 15, 16, 17, 18, 19, 20, 21, 22, 23, 24, 25, 26, 27, 28, 29, 30, 31, 32, 33, 34, 35, 36, 37, 38, 39, 40, 41, 42, 43, 44, 45, 46, 47, 48] rfl (by decide) rfl (by decide) (by decide) rfl (Nat.le_of_ble_eq_true rfl) rfl dL_law_32 ⟨(Nat.le_of_ble_eq_true rfl), (Nat.le_of_ble_eq_true rfl)⟩ (fun w1 hw1 => ?_)
    obtain ⟨d1, d2, d3, d4, d5, d6, d7, d8, d9, d10, d11, d12, d13, d14, d15, d16, d17, d18, d19, d20, d21, d22, d23, d24, d25, d26, rfl⟩ := hw1
    refine x_we (ws' := WX cI cZ (fun k => ([q0, a1, a2, a3, a4, a5, a6, a7, a8, a9, a10, a11, a12, a13, a14, a15, a16, a17, a18, a19, a20, a21, a22, a23, a24, a25, a26, a27, a28, a29, a30, a31, a32, a33, a34, a35, a36, a37, a38, a39, a40, a41, a42, a43, a44, a45, a46, a47, a48] : List Nat).getD k 0) (sXi r) (sXn r) (sXa r) ++ WM cI cZ (fun k => ([q18, d1, d2, d3, d4, d5, d6, d7, d8, d9, d10, d11, d12, d13, d14, d15, d16, d17, d18, d19, d20, d21, d22, d23, d24, d25, d26] : List Nat).getD k 0) (sMi r') (sMn r') (sMa r')) rfl ?_
    refine x_wd (k1 := 600000) (n1 := 7302250) (Nat.le_of_ble_eq_true rfl) (Nat.le_of_ble_eq_true rfl) ?_
    refine x_astore_n (lv' := [(2, .ref q18), (1, .ref q0), (0, .ref b)]) S dL_law_35 rfl (by decide) rfl ?_
    refine x_iconst (v := 2) S dL_law_36 (by decide) ?_
    refine x_istore_n (lv' := [(3, .int 2), (2, .ref q18), (1, .ref q0), (0, .ref b)]) S dL_law_37 rfl (by decide) rfl ?_
    refine x_lv [3, 2, 1, 0] (by rfl) ?_
    exact law_loop S hK hA hX hbl hbA hL hs_feed hs_feedAll hs_clear hs_count hs_build hs_length hs_poke hs_load hs_code hs_encode hs_decode hs_pack hs_unpack hs_push hs_cut hs_bit hs_turn hs_out hs_place hs_key hs_keyBit hs_told hend (L + 1) 2 (by omega) (by omega) (fun k => ([q0, a1, a2, a3, a4, a5, a6, a7, a8, a9, a10, a11, a12, a13, a14, a15, a16, a17, a18, a19, a20, a21, a22, a23, a24, a25, a26, a27, a28, a29, a30, a31, a32, a33, a34, a35, a36, a37, a38, a39, a40, a41, a42, a43, a44, a45, a46, a47, a48] : List Nat).getD k 0) (fun k => ([q18, d1, d2, d3, d4, d5, d6, d7, d8, d9, d10, d11, d12, d13, d14, d15, d16, d17, d18, d19, d20, d21, d22, d23, d24, d25, d26] : List Nat).getD k 0) _ _ _ _ _ _ g3
  have hl := lv_entry ([.ref b]) (n := 4) (Nat.le_of_ble_eq_true rfl)
  rw [lg_entry_eq]
  exact main s.heap [] _ (fun k q h => by simp at h) ⟨fun i j p q h => by simp at h, fun k q h => by simp at h⟩ va_S.rf hl
