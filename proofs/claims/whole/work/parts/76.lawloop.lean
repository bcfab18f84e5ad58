section
variable {p : Program} {l : Launch} {e : Env} {s : State} {m : MethodId} {args : Array Value} {below : List Frame} {meth : Method} {c : Code} {Q : State → Prop} {D : va_G} {A : Nat → Prop} {cI cZ : ClassId}
set_option maxRecDepth 100000 in
set_option maxHeartbeats 4000000 in
theorem law_loop (S : CallFix p m c cL_law 4 s args wsL_law RL) (hK : K_ D vwCl [(cI, .int), (cZ, .boolean)] s) (hA : ∀ q, s.heap.size ≤ q → A q) {b L : Nat} {xs : Nat → Int32} (hX : va_X b L xs s s.heap) (hbl : b < s.heap.size) (hbA : ¬ A b) (hL : L ≤ 2050) {F : Nat} {Inv : (Nat → Int32) → (Nat → Nat) → (Nat → Nat → Int32) → (Nat → Int32) → (Nat → Nat) → (Nat → Nat → Int32) → Prop} (hs_feed : Sim_feed F Inv) (hs_feedAll : Sim_feedAll F Inv) (hs_clear : Sim_clear F Inv) (hs_count : Sim_count F Inv) (hs_build : Sim_build F Inv) (hs_length : Sim_length F Inv) (hs_poke : Sim_poke F Inv) (hs_load : Sim_load F Inv) (hs_code : Sim_code F Inv) (hs_encode : Sim_encode F Inv) (hs_decode : Sim_decode F Inv) (hs_pack : Sim_pack F Inv) (hs_unpack : Sim_unpack F Inv) (hs_push : Sim_push F Inv) (hs_cut : Sim_cut F Inv) (hs_bit : Sim_bit F Inv) (hs_turn : Sim_turn F Inv) (hs_out : Sim_out F Inv) (hs_place : Sim_place F Inv) (hs_key : Sim_key F Inv) (hs_keyBit : Sim_keyBit F Inv) (hs_told : Sim_told F Inv)
    (hend : ∀ (ws : va_W) (lv : List (Nat × Value)) (pc : Nat), decode cL_law pc = .ok (.ireturn, 1) → X_ p l e room_1 s m args below meth c Q D vwCl A 4 600000 7302250 ws lv pc [.int 1]) : ∀ (n i : Nat), L + 1 ≤ i + n → i ≤ L + 4 → ∀ (h mh : Nat → Nat) (ci : Nat → Int32) (cn : Nat → Nat) (ca : Nat → Nat → Int32) (mi : Nat → Int32) (mn : Nat → Nat) (ma : Nat → Nat → Int32), Inv ci cn ca mi mn ma → X_ p l e room_1 s m args below meth c Q D vwCl A 4 600000 7302250 (WX cI cZ h ci cn ca ++ WM cI cZ mh mi mn ma) [(0, .ref b), (1, .ref (h 0)), (2, .ref (mh 0)), (3, .int (nI i))] 38 [] := by
  intro n
  induction n with
  | zero =>
    intro i h1 h2 h mh ci cn ca mi mn ma hI
    refine x_iload_n S dL_law_38 rfl 3 rfl ?_
    refine x_aload_n S dL_law_39 rfl 0 rfl ?_
    refine x_slen S hX hbl hbA dL_law_40 ?_
    refine x_iconst (v := 4) S dL_law_41 (by decide) ?_
    refine x_isub S dL_law_42 ?_
    have hc : nI L - 4 < nI i := by
      have e1 : (nI L - nI 4).toInt = (L : Int) - 4 := pk_sub_toInt (by omega) (by omega)
      have e2 : (nI i).toInt = (i : Int) := nI_toInt (by omega)
      exact Int32.lt_iff_toInt_lt.mpr (by show (nI L - nI 4).toInt < (nI i).toInt; omega)
    refine x_icmp_gt (u := some ()) (v := none) (r := ()) S 649 dL_law_43 (by decide) (if_pos hc) (fun _ => ?_) (fun z => by cases z)
    refine x_iconst (v := 1) S dL_law_649 (by decide) ?_
    exact hend _ _ _ dL_law_650
  | succ n ih =>
    intro i h1 h2 h mh ci cn ca mi mn ma hI
    refine x_iload_n S dL_law_38 rfl 3 rfl ?_
    refine x_aload_n S dL_law_39 rfl 0 rfl ?_
    refine x_slen S hX hbl hbA dL_law_40 ?_
    refine x_iconst (v := 4) S dL_law_41 (by decide) ?_
    refine x_isub S dL_law_42 ?_
    have e1 : (nI L - nI 4).toInt = (L : Int) - 4 := pk_sub_toInt (by omega) (by omega)
    have e2 : (nI i).toInt = (i : Int) := nI_toInt (by omega)
    by_cases hc : nI L - 4 < nI i
    · refine x_icmp_gt (u := some ()) (v := none) (r := ()) S 649 dL_law_43 (by decide) (if_pos hc) (fun _ => ?_) (fun z => by cases z)
      refine x_iconst (v := 1) S dL_law_649 (by decide) ?_
      exact hend _ _ _ dL_law_650
    refine x_icmp_gt (u := none) (v := some ()) (r := ()) S 649 dL_law_43 (by decide) (if_neg hc) (fun z => by cases z) (fun _ => ?_)
    have hlt : i + 4 ≤ L := by
      have e3 : ¬ (nI L - nI 4).toInt < (nI i).toInt := fun z => hc (Int32.lt_iff_toInt_lt.mpr z)
      omega
    have q0 : vp_in (nI i) L := vp_in_nI (by omega) (by omega)
    have q1 : vp_in (nI i + (1 : Int32)) L := by rw [show nI i + (1 : Int32) = nI (i + 1) from nI_add i 1]; exact vp_in_nI (by omega) (by omega)
    have q2 : vp_in (nI i + (2 : Int32)) L := by rw [show nI i + (2 : Int32) = nI (i + 2) from nI_add i 2]; exact vp_in_nI (by omega) (by omega)
    have q3 : vp_in (nI i + (3 : Int32)) L := by rw [show nI i + (3 : Int32) = nI (i + 3) from nI_add i 3]; exact vp_in_nI (by omega) (by omega)
    have back : ∀ (h' mh : Nat → Nat) (ci : Nat → Int32) (cn : Nat → Nat) (ca : Nat → Nat → Int32) (mi : Nat → Int32) (mn : Nat → Nat) (ma : Nat → Nat → Int32), h' 0 = h 0 → Inv ci cn ca mi mn ma → X_ p l e room_1 s m args below meth c Q D vwCl A 4 600000 7302250 (WX cI cZ h' ci cn ca ++ WM cI cZ mh mi mn ma) [(0, .ref b), (1, .ref (h 0)), (2, .ref (mh 0)), (3, .int (nI i))] 643 [] := by
      intro h' mh ci cn ca mi mn ma e0 hI
      refine x_iinc (v := nI (i + 4)) (lv' := [(3, .int (nI (i + 4))), (0, .ref b), (1, .ref (h 0)), (2, .ref (mh 0))]) S dL_law_643 3 rfl (nI_add i 4) (by decide) rfl ?_
      refine x_goto S 38 dL_law_646 (by decide) ?_
      refine x_lv [1, 2, 3, 0] (by rfl) ?_
      rw [← e0]
      exact ih (i + 4) (by omega) (by omega) h' mh ci cn ca mi mn ma hI
    refine x_aload_n S dL_law_46 rfl 0 rfl ?_
    refine x_iload_n S dL_law_47 rfl 3 rfl ?_
    refine x_sld S hX hbl hbA q0 dL_law_48 ?_
    refine x_bipush (v := 31) S dL_law_49 (by decide) ?_
    refine x_iand S dL_law_51 ?_
    by_cases c0 : (xs (nI i).toNatClampNeg &&& 31) = (0 : Int32)
    · refine x_tableIn S 156 dL_law_52 c0 (by decide) (by decide) rfl (by decide) ?_
      obtain ⟨r, r', g1, g2, g3, g4⟩ := hs_feed ci cn ca mi mn ma (xs (nI i + (1 : Int32)).toNatClampNeg) hI
      exact lc_feed S hK hA hX hbl hbA q1 q2 q3 g1 g2 g3 (fun h' e0 => back h' mh _ _ _ _ _ _ e0 g4)
    by_cases c1 : (xs (nI i).toNatClampNeg &&& 31) = (1 : Int32)
    · refine x_tableIn S 179 dL_law_52 c1 (by decide) (by decide) rfl (by decide) ?_
      obtain ⟨r, r', g1, g2, g3, g4⟩ := hs_feedAll ci cn ca mi mn ma (((xs (nI i + (1 : Int32)).toNatClampNeg)).toInt64 <<< (((32 : Int32)).toInt64 &&& 63) ||| (((xs (nI i + (2 : Int32)).toNatClampNeg)).toInt64 &&& (4294967295 : Int64))) (xs (nI i + (3 : Int32)).toNatClampNeg) hI
      exact lc_feedAll S hK hA hX hbl hbA q1 q2 q3 g1 g2 g3 (fun h' e0 => back h' mh _ _ _ _ _ _ e0 g4)
    by_cases c2 : (xs (nI i).toNatClampNeg &&& 31) = (2 : Int32)
    · refine x_tableIn S 242 dL_law_52 c2 (by decide) (by decide) rfl (by decide) ?_
      obtain ⟨r, r', g1, g2, g3, g4⟩ := hs_clear ci cn ca mi mn ma  hI
      exact lc_clear S hK hA hX hbl hbA q1 q2 q3 g1 g2 g3 (fun h' e0 => back h' mh _ _ _ _ _ _ e0 g4)
    by_cases c3 : (xs (nI i).toNatClampNeg &&& 31) = (3 : Int32)
    · refine x_tableIn S 255 dL_law_52 c3 (by decide) (by decide) rfl (by decide) ?_
      obtain ⟨r, r', g1, g2, g3, g4⟩ := hs_count ci cn ca mi mn ma (xs (nI i + (1 : Int32)).toNatClampNeg) hI
      exact lc_count S hK hA hX hbl hbA q1 q2 q3 g1 g2 g3 (fun h' e0 => back h' mh _ _ _ _ _ _ e0 g4)
    by_cases c4 : (xs (nI i).toNatClampNeg &&& 31) = (4 : Int32)
    · refine x_tableIn S 278 dL_law_52 c4 (by decide) (by decide) rfl (by decide) ?_
      obtain ⟨r, r', g1, g2, g3, g4⟩ := hs_build ci cn ca mi mn ma (xs (nI i + (1 : Int32)).toNatClampNeg) hI
      exact lc_build S hK hA hX hbl hbA q1 q2 q3 g1 g2 g3 (fun h' e0 => back h' mh _ _ _ _ _ _ e0 g4)
    by_cases c5 : (xs (nI i).toNatClampNeg &&& 31) = (5 : Int32)
    · refine x_tableIn S 302 dL_law_52 c5 (by decide) (by decide) rfl (by decide) ?_
      obtain ⟨r, r', g1, g2, g3, g4⟩ := hs_length ci cn ca mi mn ma (xs (nI i + (1 : Int32)).toNatClampNeg) hI
      exact lc_length S hK hA hX hbl hbA q1 q2 q3 g1 g2 g3 (fun h' e0 => back h' mh _ _ _ _ _ _ e0 g4)
    by_cases c6 : (xs (nI i).toNatClampNeg &&& 31) = (6 : Int32)
    · refine x_tableIn S 325 dL_law_52 c6 (by decide) (by decide) rfl (by decide) ?_
      obtain ⟨r, r', g1, g2, g3, g4⟩ := hs_poke ci cn ca mi mn ma (xs (nI i + (1 : Int32)).toNatClampNeg) (xs (nI i + (2 : Int32)).toNatClampNeg) hI
      exact lc_poke S hK hA hX hbl hbA q1 q2 q3 g1 g2 g3 (fun h' e0 => back h' mh _ _ _ _ _ _ e0 g4)
    by_cases c7 : (xs (nI i).toNatClampNeg &&& 31) = (7 : Int32)
    · refine x_tableIn S 358 dL_law_52 c7 (by decide) (by decide) rfl (by decide) ?_
      obtain ⟨r, r', g1, g2, g3, g4⟩ := hs_load ci cn ca mi mn ma  hI
      exact lc_load S hK hA hX hbl hbA q1 q2 q3 g1 g2 g3 (fun h' e0 => back h' mh _ _ _ _ _ _ e0 g4)
    by_cases c8 : (xs (nI i).toNatClampNeg &&& 31) = (8 : Int32)
    · refine x_tableIn S 371 dL_law_52 c8 (by decide) (by decide) rfl (by decide) ?_
      obtain ⟨r, r', g1, g2, g3, g4⟩ := hs_code ci cn ca mi mn ma (xs (nI i + (1 : Int32)).toNatClampNeg) hI
      exact lc_code S hK hA hX hbl hbA q1 q2 q3 g1 g2 g3 (fun h' e0 => back h' mh _ _ _ _ _ _ e0 g4)
    by_cases c9 : (xs (nI i).toNatClampNeg &&& 31) = (9 : Int32)
    · refine x_tableIn S 394 dL_law_52 c9 (by decide) (by decide) rfl (by decide) ?_
      obtain ⟨r, r', g1, g2, g3, g4⟩ := hs_encode ci cn ca mi mn ma  hI
      exact lc_encode S hK hA hX hbl hbA q1 q2 q3 g1 g2 g3 (fun h' e0 => back h' mh _ _ _ _ _ _ e0 g4)
    by_cases c10 : (xs (nI i).toNatClampNeg &&& 31) = (10 : Int32)
    · refine x_tableIn S 407 dL_law_52 c10 (by decide) (by decide) rfl (by decide) ?_
      obtain ⟨r, r', g1, g2, g3, g4⟩ := hs_decode ci cn ca mi mn ma  hI
      exact lc_decode S hK hA hX hbl hbA q1 q2 q3 g1 g2 g3 (fun h' e0 => back h' mh _ _ _ _ _ _ e0 g4)
    by_cases c11 : (xs (nI i).toNatClampNeg &&& 31) = (11 : Int32)
    · refine x_tableIn S 420 dL_law_52 c11 (by decide) (by decide) rfl (by decide) ?_
      obtain ⟨r, r', g1, g2, g3, g4⟩ := hs_pack ci cn ca mi mn ma  hI
      exact lc_pack S hK hA hX hbl hbA q1 q2 q3 g1 g2 g3 (fun h' e0 => back h' mh _ _ _ _ _ _ e0 g4)
    by_cases c12 : (xs (nI i).toNatClampNeg &&& 31) = (12 : Int32)
    · refine x_tableIn S 433 dL_law_52 c12 (by decide) (by decide) rfl (by decide) ?_
      obtain ⟨r, r', g1, g2, g3, g4⟩ := hs_unpack ci cn ca mi mn ma  hI
      exact lc_unpack S hK hA hX hbl hbA q1 q2 q3 g1 g2 g3 (fun h' e0 => back h' mh _ _ _ _ _ _ e0 g4)
    by_cases c13 : (xs (nI i).toNatClampNeg &&& 31) = (13 : Int32)
    · refine x_tableIn S 446 dL_law_52 c13 (by decide) (by decide) rfl (by decide) ?_
      obtain ⟨r, r', g1, g2, g3, g4⟩ := hs_push ci cn ca mi mn ma (xs (nI i + (1 : Int32)).toNatClampNeg) (xs (nI i + (2 : Int32)).toNatClampNeg) hI
      exact lc_push S hK hA hX hbl hbA q1 q2 q3 g1 g2 g3 (fun h' e0 => back h' mh _ _ _ _ _ _ e0 g4)
    by_cases c14 : (xs (nI i).toNatClampNeg &&& 31) = (14 : Int32)
    · refine x_tableIn S 479 dL_law_52 c14 (by decide) (by decide) rfl (by decide) ?_
      obtain ⟨r, r', g1, g2, g3, g4⟩ := hs_cut ci cn ca mi mn ma (xs (nI i + (1 : Int32)).toNatClampNeg) hI
      exact lc_cut S hK hA hX hbl hbA q1 q2 q3 g1 g2 g3 (fun h' e0 => back h' mh _ _ _ _ _ _ e0 g4)
    by_cases c15 : (xs (nI i).toNatClampNeg &&& 31) = (15 : Int32)
    · refine x_tableIn S 502 dL_law_52 c15 (by decide) (by decide) rfl (by decide) ?_
      obtain ⟨r, r', g1, g2, g3, g4⟩ := hs_bit ci cn ca mi mn ma (xs (nI i + (1 : Int32)).toNatClampNeg) hI
      exact lc_bit S hK hA hX hbl hbA q1 q2 q3 g1 g2 g3 (fun h' e0 => back h' mh _ _ _ _ _ _ e0 g4)
    by_cases c16 : (xs (nI i).toNatClampNeg &&& 31) = (16 : Int32)
    · refine x_tableIn S 525 dL_law_52 c16 (by decide) (by decide) rfl (by decide) ?_
      obtain ⟨r, r', g1, g2, g3, g4⟩ := hs_turn ci cn ca mi mn ma (xs (nI i + (1 : Int32)).toNatClampNeg) hI
      exact lc_turn S hK hA hX hbl hbA q1 q2 q3 g1 g2 g3 (fun h' e0 => back h' mh _ _ _ _ _ _ e0 g4)
    by_cases c17 : (xs (nI i).toNatClampNeg &&& 31) = (17 : Int32)
    · refine x_tableIn S 548 dL_law_52 c17 (by decide) (by decide) rfl (by decide) ?_
      obtain ⟨r, r', g1, g2, g3, g4⟩ := hs_out ci cn ca mi mn ma (xs (nI i + (1 : Int32)).toNatClampNeg) hI
      exact lc_out S hK hA hX hbl hbA q1 q2 q3 g1 g2 g3 (fun h' e0 => back h' mh _ _ _ _ _ _ e0 g4)
    by_cases c18 : (xs (nI i).toNatClampNeg &&& 31) = (18 : Int32)
    · refine x_tableIn S 571 dL_law_52 c18 (by decide) (by decide) rfl (by decide) ?_
      obtain ⟨r, r', g1, g2, g3, g4⟩ := hs_place ci cn ca mi mn ma  hI
      exact lc_place S hK hA hX hbl hbA q1 q2 q3 g1 g2 g3 (fun h' e0 => back h' mh _ _ _ _ _ _ e0 g4)
    by_cases c19 : (xs (nI i).toNatClampNeg &&& 31) = (19 : Int32)
    · refine x_tableIn S 584 dL_law_52 c19 (by decide) (by decide) rfl (by decide) ?_
      obtain ⟨r, r', g1, g2, g3, g4⟩ := hs_key ci cn ca mi mn ma  hI
      exact lc_key S hK hA hX hbl hbA q1 q2 q3 g1 g2 g3 (fun h' e0 => back h' mh _ _ _ _ _ _ e0 g4)
    by_cases c20 : (xs (nI i).toNatClampNeg &&& 31) = (20 : Int32)
    · refine x_tableIn S 597 dL_law_52 c20 (by decide) (by decide) rfl (by decide) ?_
      obtain ⟨r, r', g1, g2, g3, g4⟩ := hs_keyBit ci cn ca mi mn ma (xs (nI i + (1 : Int32)).toNatClampNeg) hI
      exact lc_keyBit S hK hA hX hbl hbA q1 q2 q3 g1 g2 g3 (fun h' e0 => back h' mh _ _ _ _ _ _ e0 g4)
    by_cases c21 : (xs (nI i).toNatClampNeg &&& 31) = (21 : Int32)
    · refine x_tableIn S 620 dL_law_52 c21 (by decide) (by decide) rfl (by decide) ?_
      obtain ⟨r, r', g1, g2, g3, g4⟩ := hs_told ci cn ca mi mn ma (xs (nI i + (1 : Int32)).toNatClampNeg) hI
      exact lc_told S hK hA hX hbl hbA q1 q2 q3 g1 g2 g3 (fun h' e0 => back h' mh _ _ _ _ _ _ e0 g4)
    have z0 := lv_neT (a := 0) c0 (by decide)
    have z1 := lv_neT (a := 1) c1 (by decide)
    have z2 := lv_neT (a := 2) c2 (by decide)
    have z3 := lv_neT (a := 3) c3 (by decide)
    have z4 := lv_neT (a := 4) c4 (by decide)
    have z5 := lv_neT (a := 5) c5 (by decide)
    have z6 := lv_neT (a := 6) c6 (by decide)
    have z7 := lv_neT (a := 7) c7 (by decide)
    have z8 := lv_neT (a := 8) c8 (by decide)
    have z9 := lv_neT (a := 9) c9 (by decide)
    have z10 := lv_neT (a := 10) c10 (by decide)
    have z11 := lv_neT (a := 11) c11 (by decide)
    have z12 := lv_neT (a := 12) c12 (by decide)
    have z13 := lv_neT (a := 13) c13 (by decide)
    have z14 := lv_neT (a := 14) c14 (by decide)
    have z15 := lv_neT (a := 15) c15 (by decide)
    have z16 := lv_neT (a := 16) c16 (by decide)
    have z17 := lv_neT (a := 17) c17 (by decide)
    have z18 := lv_neT (a := 18) c18 (by decide)
    have z19 := lv_neT (a := 19) c19 (by decide)
    have z20 := lv_neT (a := 20) c20 (by decide)
    have z21 := lv_neT (a := 21) c21 (by decide)
    refine x_tableOut S 643 dL_law_52 (by omega) (by decide) ?_
    exact back h mh ci cn ca mi mn ma rfl hI
end
