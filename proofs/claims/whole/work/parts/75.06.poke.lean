section
variable {p : Program} {l : Launch} {e : Env} {s : State} {m : MethodId} {args : Array Value} {below : List Frame} {meth : Method} {c : Code} {Q : State → Prop} {D : va_G} {A : Nat → Prop} {cI cZ : ClassId}
set_option maxRecDepth 100000 in
set_option maxHeartbeats 4000000 in
theorem lc_poke (S : CallFix p m c cL_law 4 s args wsL_law RL) (hK : K_ D vwCl [(cI, .int), (cZ, .boolean)] s) (hA : ∀ q, s.heap.size ≤ q → A q) {b L : Nat} {xs : Nat → Int32} (hX : va_X b L xs s s.heap) (hbl : b < s.heap.size) (hbA : ¬ A b) {i : Int32} (hi1 : vp_in (i + (1 : Int32)) L) (hi2 : vp_in (i + (2 : Int32)) L) (hi3 : vp_in (i + (3 : Int32)) L) {F : Nat} {h mh : Nat → Nat} {ci : Nat → Int32} {cn : Nat → Nat} {ca : Nat → Nat → Int32} {mi : Nat → Int32} {mn : Nat → Nat} {ma : Nat → Nat → Int32} {r : Int32 × Int32 × Int32 × (Nat → Int32)} {r' : Int32 × Int32 × Int32 × (Nat → Int32)} (hr : gX_poke F ci cn ca (xs (i + (1 : Int32)).toNatClampNeg) (xs (i + (2 : Int32)).toNatClampNeg) = some r) (hr' : gM_poke F mi mn ma (xs (i + (1 : Int32)).toNatClampNeg) (xs (i + (2 : Int32)).toNatClampNeg) = some r') (hq : r.1 = r'.1)
    (k : ∀ h' : Nat → Nat, h' 0 = h 0 → X_ p l e room_1 s m args below meth c Q D vwCl A 4 600000 7302250 (WX cI cZ h' (uXi_poke r ci) (uXn_poke r cn) (uXa_poke r ca) ++ WM cI cZ mh (uMi_poke r' mi) (uMn_poke r' mn) (uMa_poke r' ma)) [(0, .ref b), (1, .ref (h 0)), (2, .ref (mh 0)), (3, .int i)] 643 []) : X_ p l e room_1 s m args below meth c Q D vwCl A 4 600000 7302250 (WX cI cZ h ci cn ca ++ WM cI cZ mh mi mn ma) [(0, .ref b), (1, .ref (h 0)), (2, .ref (mh 0)), (3, .int i)] 325 [] := by
  refine x_aload_n S dL_law_325 rfl 1 rfl ?_
  refine x_aload_n S dL_law_326 rfl 0 rfl ?_
  refine x_iload_n S dL_law_327 rfl 3 rfl ?_
  refine x_iconst (v := 1) S dL_law_328 (by decide) ?_
  refine x_iadd S dL_law_329 ?_
  refine x_sld S hX hbl hbA hi1 dL_law_330 ?_
  refine x_aload_n S dL_law_331 rfl 0 rfl ?_
  refine x_iload_n S dL_law_332 rfl 3 rfl ?_
  refine x_iconst (v := 2) S dL_law_333 (by decide) ?_
  refine x_iadd S dL_law_334 ?_
  refine x_sld S hX hbl hbA hi2 dL_law_335 ?_
  refine x_callVi S hK hA (c_X11_poke l D cI cZ F (h 0) (h 1) (h 2) (h 3) (h 4) (h 5) (h 6) (h 7) (h 8) (h 9) (h 10) (h 11) (h 12) (h 13) (h 14) (h 15) (h 16) (h 17) (h 18) (h 19) (h 20) (h 21) (h 22) (h 23) (h 24) (h 25) (h 26) (h 27) (h 28) (h 29) (h 30) (h 31) (h 32) (h 33) (h 34) (h 35) (h 36) (h 37) (h 38) (h 39) (h 40) (h 41) (h 42) (h 43) (h 44) (h 45) (h 46) (h 47) (h 48) (ci 0) (ci 1) (ci 2) (cn 3) (ca 4) (cn 5) (ca 6) (ci 7) (cn 8) (ca 9) (cn 10) (ca 11) (cn 12) (ca 13) (cn 14) (ca 15) (ci 16) (ci 17) (ci 18) (cn 19) (ca 20) (cn 21) (ca 22) (cn 23) (ca 24) (cn 25) (ca 26) (ci 27) (ci 28) (cn 29) (ca 30) (cn 31) (ca 32) (ci 33) (ci 34) (ci 35) (cn 36) (ca 37) (ci 38) (cn 39) (ca 40) (cn 41) (ca 42) (cn 43) (ca 44) (cn 45) (ca 46) (ci 47) (cn 48) (ca 49) (cn 50) (ca 51) (ci 52) (ci 53) (cn 54) (ca 55) (cn 56) (ca 57) (ci 58) (ci 59) (ci 60) (cn 61) (ca 62) (ci 63) (ci 64) (ci 65) (ci 66) (ci 67) (ci 68) (cn 69) (ca 70) (cn 71) (ca 72) (cn 73) (ca 74) (ci 75) (ci 76) (ci 77) (ci 78) (ci 79) (ci 80) (cn 81) (ca 82) (cn 83) (ca 84) (cn 85) (ca 86) (ci 87) (ci 88) (ci 89) (cn 90) (ca 91) (ci 92) (ci 93) (ci 94) (cn 95) (ca 96) (ci 97) (cn 98) (ca 99) (ci 100) (cn 101) (ca 102) (xs (i + (1 : Int32)).toNatClampNeg) (xs (i + (2 : Int32)).toNatClampNeg) r hr) (cwV 2 S.2.2.2.2 gL_law_X11_poke rfl rfl rfl (by decide +kernel) ⟨(Nat.le_of_ble_eq_true rfl), (Nat.le_of_ble_eq_true rfl)⟩) [0, 1, 2, 3, 4, 5, 6, 7, 8, 9, 10, 11, 12, 13, 14, 15, 16, 17, 18, 19, 20, 21, 22, 23, 24, 25, 26, 27, 28, 29, 30, 31, 32, 33, 34, 35, 36, 37, 38, 39, 40, 41, 42, 43, 44, 45, 46, 47, 48] [49, 50, 51, 52, 53, 54, 55, 56, 57, 58, 59, 60, 61, 62, 63, 64, 65, 66, 67, 68, 69, 70, 71, 72, 73, 74, 75] rfl (by decide +kernel) rfl (by decide +kernel) (by decide +kernel) 0 10 rfl rfl rfl (Nat.le_of_ble_eq_true rfl) rfl dL_law_336 ⟨(Nat.le_of_ble_eq_true rfl), (Nat.le_of_ble_eq_true rfl)⟩ (fun w1 hw1 => ?_)
  subst hw1
  obtain ⟨h', rfl⟩ : ∃ h' : Nat → Nat, h' = h := ⟨_, rfl⟩
  have e0 : h' 0 = h' 0 := rfl
  refine x_we (ws' := WM cI cZ mh mi mn ma ++ WX cI cZ h' (uXi_poke r ci) (uXn_poke r cn) (uXa_poke r ca)) rfl ?_
  refine x_ws (ws' := WX cI cZ h' (uXi_poke r ci) (uXn_poke r cn) (uXa_poke r ca) ++ WM cI cZ mh mi mn ma) [27, 28, 29, 30, 31, 32, 33, 34, 35, 36, 37, 38, 39, 40, 41, 42, 43, 44, 45, 46, 47, 48, 49, 50, 51, 52, 53, 54, 55, 56, 57, 58, 59, 60, 61, 62, 63, 64, 65, 66, 67, 68, 69, 70, 71, 72, 73, 74, 75, 0, 1, 2, 3, 4, 5, 6, 7, 8, 9, 10, 11, 12, 13, 14, 15, 16, 17, 18, 19, 20, 21, 22, 23, 24, 25, 26] (by decide +kernel) (by rfl) ?_
  refine x_aload_n S dL_law_339 rfl 2 rfl ?_
  refine x_aload_n S dL_law_340 rfl 0 rfl ?_
  refine x_iload_n S dL_law_341 rfl 3 rfl ?_
  refine x_iconst (v := 1) S dL_law_342 (by decide) ?_
  refine x_iadd S dL_law_343 ?_
  refine x_sld S hX hbl hbA hi1 dL_law_344 ?_
  refine x_aload_n S dL_law_345 rfl 0 rfl ?_
  refine x_iload_n S dL_law_346 rfl 3 rfl ?_
  refine x_iconst (v := 2) S dL_law_347 (by decide) ?_
  refine x_iadd S dL_law_348 ?_
  refine x_sld S hX hbl hbA hi2 dL_law_349 ?_
  refine x_callVi S hK hA (c_X12_poke l D cI cZ F (mh 0) (mh 1) (mh 2) (mh 3) (mh 4) (mh 5) (mh 6) (mh 7) (mh 8) (mh 9) (mh 10) (mh 11) (mh 12) (mh 13) (mh 14) (mh 15) (mh 16) (mh 17) (mh 18) (mh 19) (mh 20) (mh 21) (mh 22) (mh 23) (mh 24) (mh 25) (mh 26) (mi 0) (mi 1) (mi 2) (mi 3) (mi 4) (mi 5) (mi 6) (mi 7) (mi 8) (mi 9) (mi 10) (mi 11) (mi 12) (mn 13) (ma 14) (mn 15) (ma 16) (mn 17) (ma 18) (mn 19) (ma 20) (mn 21) (ma 22) (mn 23) (ma 24) (mn 25) (ma 26) (mn 27) (ma 28) (mn 29) (ma 30) (mn 31) (ma 32) (mn 33) (ma 34) (mn 35) (ma 36) (mn 37) (ma 38) (mn 39) (ma 40) (mn 41) (ma 42) (mn 43) (ma 44) (mn 45) (ma 46) (mn 47) (ma 48) (mn 49) (ma 50) (mn 51) (ma 52) (mn 53) (ma 54) (mn 55) (ma 56) (mn 57) (ma 58) (mn 59) (ma 60) (mn 61) (ma 62) (mn 63) (ma 64) (xs (i + (1 : Int32)).toNatClampNeg) (xs (i + (2 : Int32)).toNatClampNeg) r' hr') (cwV 2 S.2.2.2.2 gL_law_X12_poke rfl rfl rfl (by decide +kernel) ⟨(Nat.le_of_ble_eq_true rfl), (Nat.le_of_ble_eq_true rfl)⟩) [49, 50, 51, 52, 53, 54, 55, 56, 57, 58, 59, 60, 61, 62, 63, 64, 65, 66, 67, 68, 69, 70, 71, 72, 73, 74, 75] [0, 1, 2, 3, 4, 5, 6, 7, 8, 9, 10, 11, 12, 13, 14, 15, 16, 17, 18, 19, 20, 21, 22, 23, 24, 25, 26, 27, 28, 29, 30, 31, 32, 33, 34, 35, 36, 37, 38, 39, 40, 41, 42, 43, 44, 45, 46, 47, 48] rfl (by decide +kernel) rfl (by decide +kernel) (by decide +kernel) 0 11 rfl rfl rfl (Nat.le_of_ble_eq_true rfl) rfl dL_law_350 ⟨(Nat.le_of_ble_eq_true rfl), (Nat.le_of_ble_eq_true rfl)⟩ (fun w1 hw1 => ?_)
  subst hw1
  refine x_we (ws' := WX cI cZ h' (uXi_poke r ci) (uXn_poke r cn) (uXa_poke r ca) ++ WM cI cZ mh (uMi_poke r' mi) (uMn_poke r' mn) (uMa_poke r' ma)) rfl ?_
  refine x_icmp_eq (u := some ()) (v := none) (r := ()) S 643 dL_law_353 (by decide) (if_pos hq) (fun _ => ?_) (fun z => by cases z)
  exact k h' e0
end
