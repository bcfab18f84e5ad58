/-! ===== PrefixSmith$Ordered.spot(II)I ===== -/
section
variable {p : Program} {l : Launch} {e : Env} {s : State} {m : MethodId} {args : Array Value} {below : List Frame} {meth : Method} {c : Code} {Q : State → Prop} {D : va_G} {A : Nat → Prop} {cI cZ : ClassId}
noncomputable def bf_X5_spot_0 (F : Nat)   (x0 : Int32) (x1 : Int32) : Option (Int32) :=
  (if (2 : Int32) = 0 then none else some (((x1 * (x1 + (1 : Int32))) / (2 : Int32)) + x0))
set_option maxRecDepth 100000 in
set_option maxHeartbeats 4000000 in
theorem w_X5_spot_0 (S : CallFix p m c cX5_spot 2 s args wsX5_spot RX5) (hK : K_ D vwCl [(cI, .int), (cZ, .boolean)] s) (hA : ∀ q, s.heap.size ≤ q → A q) {F : Nat}  {r : Int32} {Wp : va_W → Prop} (hend : ∀ (w1 : va_W) (pc : Nat) (lv : List (Nat × Value)), Wp w1 → decode cX5_spot pc = .ok (.ireturn, 1) → X_ p l e ({ frames := 0, cells := 0, slots := 0, locals := 0 } : Room) s m args below meth c Q D vwCl A 2 0 0 w1 lv pc [.int r]) (hWp : Wp [])   : ∀ (x0 : Int32) (x1 : Int32), bf_X5_spot_0 F x0 x1 = some r → X_ p l e ({ frames := 0, cells := 0, slots := 0, locals := 0 } : Room) s m args below meth c Q D vwCl A 2 0 0 [] [(0, .int x0), (1, .int x1)] 0 [] := by
  intro x0 x1 h
  unfold bf_X5_spot_0 at h
  refine x_iload_n S dX5_spot_0 rfl 1 rfl ?_
  refine x_iload_n S dX5_spot_1 rfl 1 rfl ?_
  refine x_iconst (v := 1) S dX5_spot_2 (by decide) ?_
  refine x_iadd S dX5_spot_3 ?_
  refine x_imul S dX5_spot_4 ?_
  refine x_iconst (v := 2) S dX5_spot_5 (by decide) ?_
  refine x_idiv S dX5_spot_6 h (fun h => ?_)
  refine x_iload_n S dX5_spot_7 rfl 0 rfl ?_
  refine x_iadd S dX5_spot_8 ?_
  obtain rfl := Option.some.inj h
  exact hend _ _ _ hWp dX5_spot_9
noncomputable def fn_X5_spot (F : Nat)  (x0 : Int32) (x1 : Int32) : Option (Int32) :=
  bf_X5_spot_0 F x0 x1
set_option maxRecDepth 100000 in
set_option maxHeartbeats 4000000 in
theorem c_X5_spot (l : Launch) (D : va_G) (cI cZ : ClassId) (F : Nat)  (x0 : Int32) (x1 : Int32) (r : Int32) (h : fn_X5_spot F x0 x1 = some r) : Ci l yX5_spot wsX5_spot ({ frames := 0, cells := 0, slots := 0, locals := 0 } : Room) D vwCl [(cI, .int), (cZ, .boolean)] [.int x0, .int x1] [] r (fun w => w = []) 0 0 :=
  Ci.ofi (by decide) rfl (Nat.le_of_ble_eq_true rfl) (fun p e s m args below meth c Q A S hK hA hname hend => w_X5_spot_0 S hK hA hend rfl x0 x1 h)
end

/-! ===== PrefixSmith$Ordered.lastOnLeft(II)I ===== -/
abbrev W_X5 (cI cZ : ClassId) (h_p0 h_p0_partStart h_p0_partEnd h_p0_best h_p0_weightBefore : Nat) (p0_parts : Int32) (n_p0_partStart : Nat) (p0_partStart : Nat → Int32) (n_p0_partEnd : Nat) (p0_partEnd : Nat → Int32) (n_p0_best : Nat) (p0_best : Nat → Int32) (n_p0_weightBefore : Nat) (p0_weightBefore : Nat → Int32) : va_W := [(h_p0, .inr (5, [.ref h_p0_partStart, .ref h_p0_partEnd, .int p0_parts, .ref h_p0_best, .ref h_p0_weightBefore])), (h_p0_partStart, .inl (cI, n_p0_partStart, .inl p0_partStart)), (h_p0_partEnd, .inl (cI, n_p0_partEnd, .inl p0_partEnd)), (h_p0_best, .inl (cI, n_p0_best, .inl p0_best)), (h_p0_weightBefore, .inl (cI, n_p0_weightBefore, .inl p0_weightBefore))]
theorem i_X5_lastOnLeft_X5 : ∀ w ∈ u_ws RX5 TX5 5, w ∈ wsX5_lastOnLeft := by decide +kernel
theorem k_X5_lastOnLeft_7 : Cond.fieldLink RX5 7 "PrefixSmith$Ordered" "best" "[I" ∈ wsX5_lastOnLeft := by decide +kernel
section
variable {p : Program} {l : Launch} {e : Env} {s : State} {m : MethodId} {args : Array Value} {below : List Frame} {meth : Method} {c : Code} {Q : State → Prop} {D : va_G} {A : Nat → Prop} {cI cZ : ClassId}
noncomputable def bf_X5_lastOnLeft_0 (F : Nat) (n_p0_best : Nat) (p0_best : Nat → Int32)  (x1 : Int32) (x2 : Int32) : Option (Int32) :=
  ((fn_X5_spot F x1 x2).bind fun v6 => (if v6 < 0 ∨ n_p0_best ≤ (v6).toNatClampNeg then none else some ((p0_best (v6).toNatClampNeg) &&& (127 : Int32))))
set_option maxRecDepth 100000 in
set_option maxHeartbeats 4000000 in
theorem w_X5_lastOnLeft_0 (S : CallFix p m c cX5_lastOnLeft 3 s args wsX5_lastOnLeft RX5) (hK : K_ D vwCl [(cI, .int), (cZ, .boolean)] s) (hA : ∀ q, s.heap.size ≤ q → A q) {F : Nat} {p0_parts : Int32} {n_p0_partStart : Nat} {p0_partStart : Nat → Int32} {n_p0_partEnd : Nat} {p0_partEnd : Nat → Int32} {n_p0_best : Nat} {p0_best : Nat → Int32} {n_p0_weightBefore : Nat} {p0_weightBefore : Nat → Int32} {h_p0 h_p0_partStart h_p0_partEnd h_p0_best h_p0_weightBefore : Nat} {r : Int32} {Wp : va_W → Prop} (hend : ∀ (w1 : va_W) (pc : Nat) (lv : List (Nat × Value)), Wp w1 → decode cX5_lastOnLeft pc = .ok (.ireturn, 1) → X_ p l e ({ frames := 1, cells := 0, slots := 0, locals := 21 } : Room) s m args below meth c Q D vwCl A 3 0 0 w1 lv pc [.int r]) (hWp : Wp (W_X5 cI cZ h_p0 h_p0_partStart h_p0_partEnd h_p0_best h_p0_weightBefore p0_parts n_p0_partStart p0_partStart n_p0_partEnd p0_partEnd n_p0_best p0_best n_p0_weightBefore p0_weightBefore))   : ∀ (x1 : Int32) (x2 : Int32), bf_X5_lastOnLeft_0 F n_p0_best p0_best x1 x2 = some r → X_ p l e ({ frames := 1, cells := 0, slots := 0, locals := 21 } : Room) s m args below meth c Q D vwCl A 3 0 0 (W_X5 cI cZ h_p0 h_p0_partStart h_p0_partEnd h_p0_best h_p0_weightBefore p0_parts n_p0_partStart p0_partStart n_p0_partEnd p0_partEnd n_p0_best p0_best n_p0_weightBefore p0_weightBefore) [(0, .ref h_p0), (1, .int x1), (2, .int x2)] 0 [] := by
  intro x1 x2 h
  unfold bf_X5_lastOnLeft_0 at h
  refine x_aload_n S dX5_lastOnLeft_0 rfl 0 rfl ?_
  refine x_get S hK i_X5_lastOnLeft_X5 0 rfl rfl 3 (by decide) k_X5_lastOnLeft_7 rfl rfl dX5_lastOnLeft_1 ?_
  refine x_iload_n S dX5_lastOnLeft_4 rfl 1 rfl ?_
  refine x_iload_n S dX5_lastOnLeft_5 rfl 2 rfl ?_
  obtain ⟨v6, h6, h⟩ := gbind h
  refine x_callSi S hK hA (c_X5_spot l D cI cZ F   x1 x2 v6 h6) (va_cwS 2 S.2.2.2.2 gX5_lastOnLeft_X5_spot rfl rfl rfl (by decide +kernel) ⟨(Nat.le_of_ble_eq_true rfl), (Nat.le_of_ble_eq_true rfl)⟩) [] [0, 1, 2, 3, 4] rfl (by decide) rfl (by decide) (by decide) rfl (Nat.le_of_ble_eq_true rfl) rfl dX5_lastOnLeft_6 ⟨(Nat.le_of_ble_eq_true rfl), (Nat.le_of_ble_eq_true rfl)⟩ (fun w1 hw1 => ?_)
  subst hw1
  refine x_ws (ws' := (W_X5 cI cZ h_p0 h_p0_partStart h_p0_partEnd h_p0_best h_p0_weightBefore p0_parts n_p0_partStart p0_partStart n_p0_partEnd p0_partEnd n_p0_best p0_best n_p0_weightBefore p0_weightBefore)) [0, 1, 2, 3, 4] (by decide) (by rfl) ?_
  refine x_iald S hK 3 0 rfl rfl dX5_lastOnLeft_9 h (fun h => ?_)
  refine x_bipush (v := 127) S dX5_lastOnLeft_10 (by decide) ?_
  refine x_iand S dX5_lastOnLeft_12 ?_
  obtain rfl := Option.some.inj h
  exact hend _ _ _ hWp dX5_lastOnLeft_13
noncomputable def fn_X5_lastOnLeft (F : Nat) (n_p0_best : Nat) (p0_best : Nat → Int32) (x1 : Int32) (x2 : Int32) : Option (Int32) :=
  bf_X5_lastOnLeft_0 F n_p0_best p0_best x1 x2
set_option maxRecDepth 100000 in
set_option maxHeartbeats 4000000 in
theorem c_X5_lastOnLeft (l : Launch) (D : va_G) (cI cZ : ClassId) (F : Nat) (h_p0 h_p0_partStart h_p0_partEnd h_p0_best h_p0_weightBefore : Nat) (p0_parts : Int32) (n_p0_partStart : Nat) (p0_partStart : Nat → Int32) (n_p0_partEnd : Nat) (p0_partEnd : Nat → Int32) (n_p0_best : Nat) (p0_best : Nat → Int32) (n_p0_weightBefore : Nat) (p0_weightBefore : Nat → Int32) (x1 : Int32) (x2 : Int32) (r : Int32) (h : fn_X5_lastOnLeft F n_p0_best p0_best x1 x2 = some r) : Ci l yX5_lastOnLeft wsX5_lastOnLeft ({ frames := 1, cells := 0, slots := 0, locals := 21 } : Room) D vwCl [(cI, .int), (cZ, .boolean)] [.ref h_p0, .int x1, .int x2] (W_X5 cI cZ h_p0 h_p0_partStart h_p0_partEnd h_p0_best h_p0_weightBefore p0_parts n_p0_partStart p0_partStart n_p0_partEnd p0_partEnd n_p0_best p0_best n_p0_weightBefore p0_weightBefore) r (fun w => w = (W_X5 cI cZ h_p0 h_p0_partStart h_p0_partEnd h_p0_best h_p0_weightBefore p0_parts n_p0_partStart p0_partStart n_p0_partEnd p0_partEnd n_p0_best p0_best n_p0_weightBefore p0_weightBefore)) 0 0 :=
  Ci.ofi (by decide) rfl (Nat.le_of_ble_eq_true rfl) (fun p e s m args below meth c Q A S hK hA hname hend => w_X5_lastOnLeft_0 S hK hA hend rfl x1 x2 h)
end

/-! ===== PrefixSmith$Ordered.parted(III)I ===== -/
theorem i_X5_parted_X5 : ∀ w ∈ u_ws RX5 TX5 5, w ∈ wsX5_parted := by decide +kernel
theorem k_X5_parted_7 : Cond.fieldLink RX5 7 "PrefixSmith$Ordered" "best" "[I" ∈ wsX5_parted := by decide +kernel
section
variable {p : Program} {l : Launch} {e : Env} {s : State} {m : MethodId} {args : Array Value} {below : List Frame} {meth : Method} {c : Code} {Q : State → Prop} {D : va_G} {A : Nat → Prop} {cI cZ : ClassId}
noncomputable def bf_X5_parted_0 (F : Nat) (n_p0_best : Nat) (p0_best : Nat → Int32)  (x1 : Int32) (x2 : Int32) (x3 : Int32) : Option (Int32) :=
  ((fn_X5_spot F x1 x2).bind fun v6 => (if v6 < 0 ∨ n_p0_best ≤ (v6).toNatClampNeg then none else ((fn_X5_spot F (x2 + (1 : Int32)) x3).bind fun v21 => (if v21 < 0 ∨ n_p0_best ≤ (v21).toNatClampNeg then none else some (((((p0_best (v6).toNatClampNeg) >>> ((7 : Int32) &&& 31)) + ((p0_best (v21).toNatClampNeg) >>> ((7 : Int32) &&& 31))) <<< ((7 : Int32) &&& 31)) + x2)))))
set_option maxRecDepth 100000 in
set_option maxHeartbeats 4000000 in
theorem w_X5_parted_0 (S : CallFix p m c cX5_parted 5 s args wsX5_parted RX5) (hK : K_ D vwCl [(cI, .int), (cZ, .boolean)] s) (hA : ∀ q, s.heap.size ≤ q → A q) {F : Nat} {p0_parts : Int32} {n_p0_partStart : Nat} {p0_partStart : Nat → Int32} {n_p0_partEnd : Nat} {p0_partEnd : Nat → Int32} {n_p0_best : Nat} {p0_best : Nat → Int32} {n_p0_weightBefore : Nat} {p0_weightBefore : Nat → Int32} {h_p0 h_p0_partStart h_p0_partEnd h_p0_best h_p0_weightBefore : Nat} {r : Int32} {Wp : va_W → Prop} (hend : ∀ (w1 : va_W) (pc : Nat) (lv : List (Nat × Value)), Wp w1 → decode cX5_parted pc = .ok (.ireturn, 1) → X_ p l e ({ frames := 1, cells := 0, slots := 0, locals := 21 } : Room) s m args below meth c Q D vwCl A 5 0 0 w1 lv pc [.int r]) (hWp : Wp (W_X5 cI cZ h_p0 h_p0_partStart h_p0_partEnd h_p0_best h_p0_weightBefore p0_parts n_p0_partStart p0_partStart n_p0_partEnd p0_partEnd n_p0_best p0_best n_p0_weightBefore p0_weightBefore))   : ∀ (x1 : Int32) (x2 : Int32) (x3 : Int32), bf_X5_parted_0 F n_p0_best p0_best x1 x2 x3 = some r → X_ p l e ({ frames := 1, cells := 0, slots := 0, locals := 21 } : Room) s m args below meth c Q D vwCl A 5 0 0 (W_X5 cI cZ h_p0 h_p0_partStart h_p0_partEnd h_p0_best h_p0_weightBefore p0_parts n_p0_partStart p0_partStart n_p0_partEnd p0_partEnd n_p0_best p0_best n_p0_weightBefore p0_weightBefore) [(0, .ref h_p0), (1, .int x1), (2, .int x2), (3, .int x3)] 0 [] := by
  intro x1 x2 x3 h
  unfold bf_X5_parted_0 at h
  refine x_aload_n S dX5_parted_0 rfl 0 rfl ?_
  refine x_get S hK i_X5_parted_X5 0 rfl rfl 3 (by decide) k_X5_parted_7 rfl rfl dX5_parted_1 ?_
  refine x_iload_n S dX5_parted_4 rfl 1 rfl ?_
  refine x_iload_n S dX5_parted_5 rfl 2 rfl ?_
  obtain ⟨v6, h6, h⟩ := gbind h
  refine x_callSi S hK hA (c_X5_spot l D cI cZ F   x1 x2 v6 h6) (va_cwS 2 S.2.2.2.2 gX5_parted_X5_spot rfl rfl rfl (by decide +kernel) ⟨(Nat.le_of_ble_eq_true rfl), (Nat.le_of_ble_eq_true rfl)⟩) [] [0, 1, 2, 3, 4] rfl (by decide) rfl (by decide) (by decide) rfl (Nat.le_of_ble_eq_true rfl) rfl dX5_parted_6 ⟨(Nat.le_of_ble_eq_true rfl), (Nat.le_of_ble_eq_true rfl)⟩ (fun w1 hw1 => ?_)
  subst hw1
  refine x_ws (ws' := (W_X5 cI cZ h_p0 h_p0_partStart h_p0_partEnd h_p0_best h_p0_weightBefore p0_parts n_p0_partStart p0_partStart n_p0_partEnd p0_partEnd n_p0_best p0_best n_p0_weightBefore p0_weightBefore)) [0, 1, 2, 3, 4] (by decide) (by rfl) ?_
  refine x_iald S hK 3 0 rfl rfl dX5_parted_9 h (fun h => ?_)
  refine x_bipush (v := 7) S dX5_parted_10 (by decide) ?_
  refine x_ishr S dX5_parted_12 ?_
  refine x_aload_n S dX5_parted_13 rfl 0 rfl ?_
  refine x_get S hK i_X5_parted_X5 0 rfl rfl 3 (by decide) k_X5_parted_7 rfl rfl dX5_parted_14 ?_
  refine x_iload_n S dX5_parted_17 rfl 2 rfl ?_
  refine x_iconst (v := 1) S dX5_parted_18 (by decide) ?_
  refine x_iadd S dX5_parted_19 ?_
  refine x_iload_n S dX5_parted_20 rfl 3 rfl ?_
  obtain ⟨v21, h21, h⟩ := gbind h
  refine x_callSi S hK hA (c_X5_spot l D cI cZ F   (x2 + (1 : Int32)) x3 v21 h21) (va_cwS 2 S.2.2.2.2 gX5_parted_X5_spot rfl rfl rfl (by decide +kernel) ⟨(Nat.le_of_ble_eq_true rfl), (Nat.le_of_ble_eq_true rfl)⟩) [] [0, 1, 2, 3, 4] rfl (by decide) rfl (by decide) (by decide) rfl (Nat.le_of_ble_eq_true rfl) rfl dX5_parted_21 ⟨(Nat.le_of_ble_eq_true rfl), (Nat.le_of_ble_eq_true rfl)⟩ (fun w1 hw1 => ?_)
  subst hw1
  refine x_ws (ws' := (W_X5 cI cZ h_p0 h_p0_partStart h_p0_partEnd h_p0_best h_p0_weightBefore p0_parts n_p0_partStart p0_partStart n_p0_partEnd p0_partEnd n_p0_best p0_best n_p0_weightBefore p0_weightBefore)) [0, 1, 2, 3, 4] (by decide) (by rfl) ?_
  refine x_iald S hK 3 0 rfl rfl dX5_parted_24 h (fun h => ?_)
  refine x_bipush (v := 7) S dX5_parted_25 (by decide) ?_
  refine x_ishr S dX5_parted_27 ?_
  refine x_iadd S dX5_parted_28 ?_
  refine x_istore (lv' := [(4, .int (((p0_best (v6).toNatClampNeg) >>> ((7 : Int32) &&& 31)) + ((p0_best (v21).toNatClampNeg) >>> ((7 : Int32) &&& 31)))), (0, .ref h_p0), (1, .int x1), (2, .int x2), (3, .int x3)]) S dX5_parted_29 (by decide) rfl ?_
  refine x_iload S dX5_parted_31 0 rfl ?_
  refine x_bipush (v := 7) S dX5_parted_33 (by decide) ?_
  refine x_ishl S dX5_parted_35 ?_
  refine x_iload_n S dX5_parted_36 rfl 3 rfl ?_
  refine x_iadd S dX5_parted_37 ?_
  obtain rfl := Option.some.inj h
  exact hend _ _ _ hWp dX5_parted_38
noncomputable def fn_X5_parted (F : Nat) (n_p0_best : Nat) (p0_best : Nat → Int32) (x1 : Int32) (x2 : Int32) (x3 : Int32) : Option (Int32) :=
  bf_X5_parted_0 F n_p0_best p0_best x1 x2 x3
set_option maxRecDepth 100000 in
set_option maxHeartbeats 4000000 in
theorem c_X5_parted (l : Launch) (D : va_G) (cI cZ : ClassId) (F : Nat) (h_p0 h_p0_partStart h_p0_partEnd h_p0_best h_p0_weightBefore : Nat) (p0_parts : Int32) (n_p0_partStart : Nat) (p0_partStart : Nat → Int32) (n_p0_partEnd : Nat) (p0_partEnd : Nat → Int32) (n_p0_best : Nat) (p0_best : Nat → Int32) (n_p0_weightBefore : Nat) (p0_weightBefore : Nat → Int32) (x1 : Int32) (x2 : Int32) (x3 : Int32) (r : Int32) (h : fn_X5_parted F n_p0_best p0_best x1 x2 x3 = some r) : Ci l yX5_parted wsX5_parted ({ frames := 1, cells := 0, slots := 0, locals := 21 } : Room) D vwCl [(cI, .int), (cZ, .boolean)] [.ref h_p0, .int x1, .int x2, .int x3] (W_X5 cI cZ h_p0 h_p0_partStart h_p0_partEnd h_p0_best h_p0_weightBefore p0_parts n_p0_partStart p0_partStart n_p0_partEnd p0_partEnd n_p0_best p0_best n_p0_weightBefore p0_weightBefore) r (fun w => w = (W_X5 cI cZ h_p0 h_p0_partStart h_p0_partEnd h_p0_best h_p0_weightBefore p0_parts n_p0_partStart p0_partStart n_p0_partEnd p0_partEnd n_p0_best p0_best n_p0_weightBefore p0_weightBefore)) 0 0 :=
  Ci.ofi (by decide) rfl (Nat.le_of_ble_eq_true rfl) (fun p e s m args below meth c Q A S hK hA hname hend => w_X5_parted_0 S hK hA hend rfl x1 x2 x3 h)
end

/-! ===== PrefixSmith$Ordered.leastOf(II)I ===== -/
theorem k_X5_leastOf_43 : Cond.methodLink RX5 43 Lib.Math.min.name ∈ wsX5_leastOf := by decide +kernel
theorem ks_X5_leastOf_min : Cond.static Lib.Math.min.name ∈ wsX5_leastOf := by decide +kernel
theorem ki_X5_leastOf_Math : Cond.initialized "java/lang/Math" ∈ wsX5_leastOf := by decide +kernel
theorem kc_X5_leastOf_min : Cond.code Lib.Math.min.name Lib.Math.min.code 2 (some .int) ∈ wsX5_leastOf := by decide +kernel
theorem i_X5_leastOf_X5 : ∀ w ∈ u_ws RX5 TX5 5, w ∈ wsX5_leastOf := by decide +kernel
theorem k_X5_leastOf_13 : Cond.fieldLink RX5 13 "PrefixSmith$Ordered" "weightBefore" "[I" ∈ wsX5_leastOf := by decide +kernel
section
variable {p : Program} {l : Launch} {e : Env} {s : State} {m : MethodId} {args : Array Value} {below : List Frame} {meth : Method} {c : Code} {Q : State → Prop} {D : va_G} {A : Nat → Prop} {cI cZ : ClassId}
noncomputable def bf_X5_leastOf_39 (F : Nat) (n_p0_best : Nat) (p0_best : Nat → Int32) (n_p0_weightBefore : Nat) (p0_weightBefore : Nat → Int32) (rec39 : Int32 → Int32 → Int32 → Int32 → Int32 → Option (Int32)) (x1 : Int32) (x2 : Int32) (x4 : Int32) (x5 : Int32) (x6 : Int32) : Option (Int32) :=
  (if x4 < x6 then (if (x2 + (1 : Int32)) < 0 ∨ n_p0_weightBefore ≤ ((x2 + (1 : Int32))).toNatClampNeg then none else (if x1 < 0 ∨ n_p0_weightBefore ≤ (x1).toNatClampNeg then none else some (x5 + (((p0_weightBefore ((x2 + (1 : Int32))).toNatClampNeg) - (p0_weightBefore (x1).toNatClampNeg)) <<< ((7 : Int32) &&& 31))))) else ((fn_X5_parted F n_p0_best p0_best x1 x6 x2).bind fun v53 => rec39 x1 x2 x4 (if v53 < x5 then v53 else x5) (x6 + (1 : Int32))))
set_option maxRecDepth 100000 in
set_option maxHeartbeats 4000000 in
theorem w_X5_leastOf_39 (S : CallFix p m c cX5_leastOf 7 s args wsX5_leastOf RX5) (hK : K_ D vwCl [(cI, .int), (cZ, .boolean)] s) (hA : ∀ q, s.heap.size ≤ q → A q) {F : Nat} {p0_parts : Int32} {n_p0_partStart : Nat} {p0_partStart : Nat → Int32} {n_p0_partEnd : Nat} {p0_partEnd : Nat → Int32} {n_p0_best : Nat} {p0_best : Nat → Int32} {n_p0_weightBefore : Nat} {p0_weightBefore : Nat → Int32} {h_p0 h_p0_partStart h_p0_partEnd h_p0_best h_p0_weightBefore : Nat} {r : Int32} {Wp : va_W → Prop} (hend : ∀ (w1 : va_W) (pc : Nat) (lv : List (Nat × Value)), Wp w1 → decode cX5_leastOf pc = .ok (.ireturn, 1) → X_ p l e ({ frames := 2, cells := 0, slots := 0, locals := 45 } : Room) s m args below meth c Q D vwCl A 7 0 0 w1 lv pc [.int r]) (hWp : Wp (W_X5 cI cZ h_p0 h_p0_partStart h_p0_partEnd h_p0_best h_p0_weightBefore p0_parts n_p0_partStart p0_partStart n_p0_partEnd p0_partEnd n_p0_best p0_best n_p0_weightBefore p0_weightBefore)) {rec39 : Int32 → Int32 → Int32 → Int32 → Int32 → Option (Int32)} (hrec39 : ∀ (x1 : Int32) (x2 : Int32) (x4 : Int32) (x5 : Int32) (x6 : Int32), rec39 x1 x2 x4 x5 x6 = some r → X_ p l e ({ frames := 2, cells := 0, slots := 0, locals := 45 } : Room) s m args below meth c Q D vwCl A 7 0 0 (W_X5 cI cZ h_p0 h_p0_partStart h_p0_partEnd h_p0_best h_p0_weightBefore p0_parts n_p0_partStart p0_partStart n_p0_partEnd p0_partEnd n_p0_best p0_best n_p0_weightBefore p0_weightBefore) [(0, .ref h_p0), (1, .int x1), (2, .int x2), (4, .int x4), (5, .int x5), (6, .int x6)] 39 []) : ∀ (x1 : Int32) (x2 : Int32) (x4 : Int32) (x5 : Int32) (x6 : Int32), bf_X5_leastOf_39 F n_p0_best p0_best n_p0_weightBefore p0_weightBefore rec39 x1 x2 x4 x5 x6 = some r → X_ p l e ({ frames := 2, cells := 0, slots := 0, locals := 45 } : Room) s m args below meth c Q D vwCl A 7 0 0 (W_X5 cI cZ h_p0 h_p0_partStart h_p0_partEnd h_p0_best h_p0_weightBefore p0_parts n_p0_partStart p0_partStart n_p0_partEnd p0_partEnd n_p0_best p0_best n_p0_weightBefore p0_weightBefore) [(0, .ref h_p0), (1, .int x1), (2, .int x2), (4, .int x4), (5, .int x5), (6, .int x6)] 39 [] := by
  intro x1 x2 x4 x5 x6 h
  unfold bf_X5_leastOf_39 at h
  refine x_iload S dX5_leastOf_39 5 rfl ?_
  refine x_iload S dX5_leastOf_41 3 rfl ?_
  refine x_icmp_gt S 67 dX5_leastOf_43 (by decide) h (fun h => ?_) (fun h => ?_)
  · refine x_iload S dX5_leastOf_67 4 rfl ?_
    refine x_aload_n S dX5_leastOf_69 rfl 0 rfl ?_
    refine x_get S hK i_X5_leastOf_X5 0 rfl rfl 4 (by decide) k_X5_leastOf_13 rfl rfl dX5_leastOf_70 ?_
    refine x_iload_n S dX5_leastOf_73 rfl 2 rfl ?_
    refine x_iconst (v := 1) S dX5_leastOf_74 (by decide) ?_
    refine x_iadd S dX5_leastOf_75 ?_
    refine x_iald S hK 4 0 rfl rfl dX5_leastOf_76 h (fun h => ?_)
    refine x_aload_n S dX5_leastOf_77 rfl 0 rfl ?_
    refine x_get S hK i_X5_leastOf_X5 0 rfl rfl 4 (by decide) k_X5_leastOf_13 rfl rfl dX5_leastOf_78 ?_
    refine x_iload_n S dX5_leastOf_81 rfl 1 rfl ?_
    refine x_iald S hK 4 0 rfl rfl dX5_leastOf_82 h (fun h => ?_)
    refine x_isub S dX5_leastOf_83 ?_
    refine x_bipush (v := 7) S dX5_leastOf_84 (by decide) ?_
    refine x_ishl S dX5_leastOf_86 ?_
    refine x_iadd S dX5_leastOf_87 ?_
    obtain rfl := Option.some.inj h
    exact hend _ _ _ hWp dX5_leastOf_88
  · refine x_iload S dX5_leastOf_46 4 rfl ?_
    refine x_aload_n S dX5_leastOf_48 rfl 0 rfl ?_
    refine x_iload_n S dX5_leastOf_49 rfl 1 rfl ?_
    refine x_iload S dX5_leastOf_50 5 rfl ?_
    refine x_iload_n S dX5_leastOf_52 rfl 2 rfl ?_
    obtain ⟨v53, h53, h⟩ := gbind h
    refine x_callVi S hK hA (c_X5_parted l D cI cZ F h_p0 h_p0_partStart h_p0_partEnd h_p0_best h_p0_weightBefore p0_parts n_p0_partStart p0_partStart n_p0_partEnd p0_partEnd n_p0_best p0_best n_p0_weightBefore p0_weightBefore x1 x6 x2 v53 h53) (cwV 3 S.2.2.2.2 gX5_leastOf_X5_parted rfl rfl rfl (by decide +kernel) ⟨(Nat.le_of_ble_eq_true rfl), (Nat.le_of_ble_eq_true rfl)⟩) [0, 1, 2, 3, 4] [] rfl (by decide) rfl (by decide) (by decide) 0 5 rfl rfl rfl (Nat.le_of_ble_eq_true rfl) rfl dX5_leastOf_53 ⟨(Nat.le_of_ble_eq_true rfl), (Nat.le_of_ble_eq_true rfl)⟩ (fun w1 hw1 => ?_)
    subst hw1
    refine x_ws (ws' := (W_X5 cI cZ h_p0 h_p0_partStart h_p0_partEnd h_p0_best h_p0_weightBefore p0_parts n_p0_partStart p0_partStart n_p0_partEnd p0_partEnd n_p0_best p0_best n_p0_weightBefore p0_weightBefore)) [0, 1, 2, 3, 4] (by decide) (by rfl) ?_
    refine x_mmin S k_X5_leastOf_43 ks_X5_leastOf_min ki_X5_leastOf_Math kc_X5_leastOf_min (Nat.le_of_ble_eq_true rfl) (Nat.le_of_ble_eq_true rfl) (Nat.le_of_ble_eq_true rfl) (Nat.le_of_ble_eq_true rfl) dX5_leastOf_56 ?_
    refine x_istore (lv' := [(5, .int (if v53 < x5 then v53 else x5)), (0, .ref h_p0), (1, .int x1), (2, .int x2), (4, .int x4), (6, .int x6)]) S dX5_leastOf_59 (by decide) rfl ?_
    refine x_iinc (v := x6 + (1 : Int32)) (lv' := [(6, .int (x6 + (1 : Int32))), (5, .int (if v53 < x5 then v53 else x5)), (0, .ref h_p0), (1, .int x1), (2, .int x2), (4, .int x4)]) S dX5_leastOf_61 5 rfl rfl (by decide) rfl ?_
    refine x_goto S 39 dX5_leastOf_64 (by decide) ?_
    refine x_lv [2, 3, 4, 5, 1, 0] (by rfl) ?_
    exact hrec39 x1 x2 x4 (if v53 < x5 then v53 else x5) (x6 + (1 : Int32)) h
noncomputable def lf_X5_leastOf_39 (F : Nat) (n_p0_best : Nat) (p0_best : Nat → Int32) (n_p0_weightBefore : Nat) (p0_weightBefore : Nat → Int32)  (k : Nat) (x1 : Int32) (x2 : Int32) (x4 : Int32) (x5 : Int32) (x6 : Int32) : Option (Int32) :=
  lp (fun (rec : Int32 × Int32 × Int32 × Int32 × Int32 → Option (Int32)) (z : Int32 × Int32 × Int32 × Int32 × Int32) => bf_X5_leastOf_39 F n_p0_best p0_best n_p0_weightBefore p0_weightBefore (fun x1 x2 x4 x5 x6 => rec (x1, x2, x4, x5, x6)) z.1 z.2.1 z.2.2.1 z.2.2.2.1 z.2.2.2.2) k (x1, x2, x4, x5, x6)
set_option maxRecDepth 100000 in
set_option maxHeartbeats 4000000 in
theorem wl_X5_leastOf_39 (S : CallFix p m c cX5_leastOf 7 s args wsX5_leastOf RX5) (hK : K_ D vwCl [(cI, .int), (cZ, .boolean)] s) (hA : ∀ q, s.heap.size ≤ q → A q) {F : Nat} {p0_parts : Int32} {n_p0_partStart : Nat} {p0_partStart : Nat → Int32} {n_p0_partEnd : Nat} {p0_partEnd : Nat → Int32} {n_p0_best : Nat} {p0_best : Nat → Int32} {n_p0_weightBefore : Nat} {p0_weightBefore : Nat → Int32} {h_p0 h_p0_partStart h_p0_partEnd h_p0_best h_p0_weightBefore : Nat} {r : Int32} {Wp : va_W → Prop} (hend : ∀ (w1 : va_W) (pc : Nat) (lv : List (Nat × Value)), Wp w1 → decode cX5_leastOf pc = .ok (.ireturn, 1) → X_ p l e ({ frames := 2, cells := 0, slots := 0, locals := 45 } : Room) s m args below meth c Q D vwCl A 7 0 0 w1 lv pc [.int r]) (hWp : Wp (W_X5 cI cZ h_p0 h_p0_partStart h_p0_partEnd h_p0_best h_p0_weightBefore p0_parts n_p0_partStart p0_partStart n_p0_partEnd p0_partEnd n_p0_best p0_best n_p0_weightBefore p0_weightBefore))   (k : Nat) : ∀ (x1 : Int32) (x2 : Int32) (x4 : Int32) (x5 : Int32) (x6 : Int32), lf_X5_leastOf_39 F n_p0_best p0_best n_p0_weightBefore p0_weightBefore k x1 x2 x4 x5 x6 = some r → X_ p l e ({ frames := 2, cells := 0, slots := 0, locals := 45 } : Room) s m args below meth c Q D vwCl A 7 0 0 (W_X5 cI cZ h_p0 h_p0_partStart h_p0_partEnd h_p0_best h_p0_weightBefore p0_parts n_p0_partStart p0_partStart n_p0_partEnd p0_partEnd n_p0_best p0_best n_p0_weightBefore p0_weightBefore) [(0, .ref h_p0), (1, .int x1), (2, .int x2), (4, .int x4), (5, .int x5), (6, .int x6)] 39 [] := by
  intro x1 x2 x4 x5 x6 h
  exact lp_W (P := fun z => X_ p l e ({ frames := 2, cells := 0, slots := 0, locals := 45 } : Room) s m args below meth c Q D vwCl A 7 0 0 (W_X5 cI cZ h_p0 h_p0_partStart h_p0_partEnd h_p0_best h_p0_weightBefore p0_parts n_p0_partStart p0_partStart n_p0_partEnd p0_partEnd n_p0_best p0_best n_p0_weightBefore p0_weightBefore) [(0, .ref h_p0), (1, .int z.1), (2, .int z.2.1), (4, .int z.2.2.1), (5, .int z.2.2.2.1), (6, .int z.2.2.2.2)] 39 []) (fun rec ih z hz => w_X5_leastOf_39 S hK hA hend hWp (fun x1 x2 x4 x5 x6 hh => ih (x1, x2, x4, x5, x6) hh)  z.1 z.2.1 z.2.2.1 z.2.2.2.1 z.2.2.2.2 hz) k (x1, x2, x4, x5, x6) h 
noncomputable def bf_X5_leastOf_0 (F : Nat) (n_p0_best : Nat) (p0_best : Nat → Int32) (n_p0_weightBefore : Nat) (p0_weightBefore : Nat → Int32)  (x1 : Int32) (x2 : Int32) : Option (Int32) :=
  ((fn_X5_lastOnLeft F n_p0_best p0_best x1 (x2 - (1 : Int32))).bind fun v5 => ((fn_X5_lastOnLeft F n_p0_best p0_best (x1 + (1 : Int32)) x2).bind fun v14 => ((fn_X5_parted F n_p0_best p0_best x1 v5 x2).bind fun v29 => lf_X5_leastOf_39 F n_p0_best p0_best n_p0_weightBefore p0_weightBefore F x1 x2 (if (x2 - (1 : Int32)) < v14 then (x2 - (1 : Int32)) else v14) v29 (v5 + (1 : Int32)))))
set_option maxRecDepth 100000 in
set_option maxHeartbeats 4000000 in
theorem w_X5_leastOf_0 (S : CallFix p m c cX5_leastOf 7 s args wsX5_leastOf RX5) (hK : K_ D vwCl [(cI, .int), (cZ, .boolean)] s) (hA : ∀ q, s.heap.size ≤ q → A q) {F : Nat} {p0_parts : Int32} {n_p0_partStart : Nat} {p0_partStart : Nat → Int32} {n_p0_partEnd : Nat} {p0_partEnd : Nat → Int32} {n_p0_best : Nat} {p0_best : Nat → Int32} {n_p0_weightBefore : Nat} {p0_weightBefore : Nat → Int32} {h_p0 h_p0_partStart h_p0_partEnd h_p0_best h_p0_weightBefore : Nat} {r : Int32} {Wp : va_W → Prop} (hend : ∀ (w1 : va_W) (pc : Nat) (lv : List (Nat × Value)), Wp w1 → decode cX5_leastOf pc = .ok (.ireturn, 1) → X_ p l e ({ frames := 2, cells := 0, slots := 0, locals := 45 } : Room) s m args below meth c Q D vwCl A 7 0 0 w1 lv pc [.int r]) (hWp : Wp (W_X5 cI cZ h_p0 h_p0_partStart h_p0_partEnd h_p0_best h_p0_weightBefore p0_parts n_p0_partStart p0_partStart n_p0_partEnd p0_partEnd n_p0_best p0_best n_p0_weightBefore p0_weightBefore))   : ∀ (x1 : Int32) (x2 : Int32), bf_X5_leastOf_0 F n_p0_best p0_best n_p0_weightBefore p0_weightBefore x1 x2 = some r → X_ p l e ({ frames := 2, cells := 0, slots := 0, locals := 45 } : Room) s m args below meth c Q D vwCl A 7 0 0 (W_X5 cI cZ h_p0 h_p0_partStart h_p0_partEnd h_p0_best h_p0_weightBefore p0_parts n_p0_partStart p0_partStart n_p0_partEnd p0_partEnd n_p0_best p0_best n_p0_weightBefore p0_weightBefore) [(0, .ref h_p0), (1, .int x1), (2, .int x2)] 0 [] := by
  intro x1 x2 h
  unfold bf_X5_leastOf_0 at h
  refine x_aload_n S dX5_leastOf_0 rfl 0 rfl ?_
  refine x_iload_n S dX5_leastOf_1 rfl 1 rfl ?_
  refine x_iload_n S dX5_leastOf_2 rfl 2 rfl ?_
  refine x_iconst (v := 1) S dX5_leastOf_3 (by decide) ?_
  refine x_isub S dX5_leastOf_4 ?_
  obtain ⟨v5, h5, h⟩ := gbind h
  refine x_callVi S hK hA (c_X5_lastOnLeft l D cI cZ F h_p0 h_p0_partStart h_p0_partEnd h_p0_best h_p0_weightBefore p0_parts n_p0_partStart p0_partStart n_p0_partEnd p0_partEnd n_p0_best p0_best n_p0_weightBefore p0_weightBefore x1 (x2 - (1 : Int32)) v5 h5) (cwV 2 S.2.2.2.2 gX5_leastOf_X5_lastOnLeft rfl rfl rfl (by decide +kernel) ⟨(Nat.le_of_ble_eq_true rfl), (Nat.le_of_ble_eq_true rfl)⟩) [0, 1, 2, 3, 4] [] rfl (by decide) rfl (by decide) (by decide) 0 5 rfl rfl rfl (Nat.le_of_ble_eq_true rfl) rfl dX5_leastOf_5 ⟨(Nat.le_of_ble_eq_true rfl), (Nat.le_of_ble_eq_true rfl)⟩ (fun w1 hw1 => ?_)
  subst hw1
  refine x_ws (ws' := (W_X5 cI cZ h_p0 h_p0_partStart h_p0_partEnd h_p0_best h_p0_weightBefore p0_parts n_p0_partStart p0_partStart n_p0_partEnd p0_partEnd n_p0_best p0_best n_p0_weightBefore p0_weightBefore)) [0, 1, 2, 3, 4] (by decide) (by rfl) ?_
  refine x_istore_n (lv' := [(3, .int v5), (0, .ref h_p0), (1, .int x1), (2, .int x2)]) S dX5_leastOf_8 rfl (by decide) rfl ?_
  refine x_aload_n S dX5_leastOf_9 rfl 1 rfl ?_
  refine x_iload_n S dX5_leastOf_10 rfl 2 rfl ?_
  refine x_iconst (v := 1) S dX5_leastOf_11 (by decide) ?_
  refine x_iadd S dX5_leastOf_12 ?_
  refine x_iload_n S dX5_leastOf_13 rfl 3 rfl ?_
  obtain ⟨v14, h14, h⟩ := gbind h
  refine x_callVi S hK hA (c_X5_lastOnLeft l D cI cZ F h_p0 h_p0_partStart h_p0_partEnd h_p0_best h_p0_weightBefore p0_parts n_p0_partStart p0_partStart n_p0_partEnd p0_partEnd n_p0_best p0_best n_p0_weightBefore p0_weightBefore (x1 + (1 : Int32)) x2 v14 h14) (cwV 2 S.2.2.2.2 gX5_leastOf_X5_lastOnLeft rfl rfl rfl (by decide +kernel) ⟨(Nat.le_of_ble_eq_true rfl), (Nat.le_of_ble_eq_true rfl)⟩) [0, 1, 2, 3, 4] [] rfl (by decide) rfl (by decide) (by decide) 0 5 rfl rfl rfl (Nat.le_of_ble_eq_true rfl) rfl dX5_leastOf_14 ⟨(Nat.le_of_ble_eq_true rfl), (Nat.le_of_ble_eq_true rfl)⟩ (fun w1 hw1 => ?_)
  subst hw1
  refine x_ws (ws' := (W_X5 cI cZ h_p0 h_p0_partStart h_p0_partEnd h_p0_best h_p0_weightBefore p0_parts n_p0_partStart p0_partStart n_p0_partEnd p0_partEnd n_p0_best p0_best n_p0_weightBefore p0_weightBefore)) [0, 1, 2, 3, 4] (by decide) (by rfl) ?_
  refine x_iload_n S dX5_leastOf_17 rfl 3 rfl ?_
  refine x_iconst (v := 1) S dX5_leastOf_18 (by decide) ?_
  refine x_isub S dX5_leastOf_19 ?_
  refine x_mmin S k_X5_leastOf_43 ks_X5_leastOf_min ki_X5_leastOf_Math kc_X5_leastOf_min (Nat.le_of_ble_eq_true rfl) (Nat.le_of_ble_eq_true rfl) (Nat.le_of_ble_eq_true rfl) (Nat.le_of_ble_eq_true rfl) dX5_leastOf_20 ?_
  refine x_istore (lv' := [(4, .int (if (x2 - (1 : Int32)) < v14 then (x2 - (1 : Int32)) else v14)), (3, .int v5), (0, .ref h_p0), (1, .int x1), (2, .int x2)]) S dX5_leastOf_23 (by decide) rfl ?_
  refine x_aload_n S dX5_leastOf_25 rfl 2 rfl ?_
  refine x_iload_n S dX5_leastOf_26 rfl 3 rfl ?_
  refine x_iload_n S dX5_leastOf_27 rfl 1 rfl ?_
  refine x_iload_n S dX5_leastOf_28 rfl 4 rfl ?_
  obtain ⟨v29, h29, h⟩ := gbind h
  refine x_callVi S hK hA (c_X5_parted l D cI cZ F h_p0 h_p0_partStart h_p0_partEnd h_p0_best h_p0_weightBefore p0_parts n_p0_partStart p0_partStart n_p0_partEnd p0_partEnd n_p0_best p0_best n_p0_weightBefore p0_weightBefore x1 v5 x2 v29 h29) (cwV 3 S.2.2.2.2 gX5_leastOf_X5_parted rfl rfl rfl (by decide +kernel) ⟨(Nat.le_of_ble_eq_true rfl), (Nat.le_of_ble_eq_true rfl)⟩) [0, 1, 2, 3, 4] [] rfl (by decide) rfl (by decide) (by decide) 0 5 rfl rfl rfl (Nat.le_of_ble_eq_true rfl) rfl dX5_leastOf_29 ⟨(Nat.le_of_ble_eq_true rfl), (Nat.le_of_ble_eq_true rfl)⟩ (fun w1 hw1 => ?_)
  subst hw1
  refine x_ws (ws' := (W_X5 cI cZ h_p0 h_p0_partStart h_p0_partEnd h_p0_best h_p0_weightBefore p0_parts n_p0_partStart p0_partStart n_p0_partEnd p0_partEnd n_p0_best p0_best n_p0_weightBefore p0_weightBefore)) [0, 1, 2, 3, 4] (by decide) (by rfl) ?_
  refine x_istore (lv' := [(5, .int v29), (4, .int (if (x2 - (1 : Int32)) < v14 then (x2 - (1 : Int32)) else v14)), (3, .int v5), (0, .ref h_p0), (1, .int x1), (2, .int x2)]) S dX5_leastOf_32 (by decide) rfl ?_
  refine x_iload_n S dX5_leastOf_34 rfl 2 rfl ?_
  refine x_iconst (v := 1) S dX5_leastOf_35 (by decide) ?_
  refine x_iadd S dX5_leastOf_36 ?_
  refine x_istore (lv' := [(6, .int (v5 + (1 : Int32))), (5, .int v29), (4, .int (if (x2 - (1 : Int32)) < v14 then (x2 - (1 : Int32)) else v14)), (3, .int v5), (0, .ref h_p0), (1, .int x1), (2, .int x2)]) S dX5_leastOf_37 (by decide) rfl ?_
  refine x_lv [4, 5, 6, 2, 1, 0] (by rfl) ?_
  exact wl_X5_leastOf_39 S hK hA hend hWp  F x1 x2 (if (x2 - (1 : Int32)) < v14 then (x2 - (1 : Int32)) else v14) v29 (v5 + (1 : Int32)) h
noncomputable def fn_X5_leastOf (F : Nat) (n_p0_best : Nat) (p0_best : Nat → Int32) (n_p0_weightBefore : Nat) (p0_weightBefore : Nat → Int32) (x1 : Int32) (x2 : Int32) : Option (Int32) :=
  bf_X5_leastOf_0 F n_p0_best p0_best n_p0_weightBefore p0_weightBefore x1 x2
set_option maxRecDepth 100000 in
set_option maxHeartbeats 4000000 in
theorem c_X5_leastOf (l : Launch) (D : va_G) (cI cZ : ClassId) (F : Nat) (h_p0 h_p0_partStart h_p0_partEnd h_p0_best h_p0_weightBefore : Nat) (p0_parts : Int32) (n_p0_partStart : Nat) (p0_partStart : Nat → Int32) (n_p0_partEnd : Nat) (p0_partEnd : Nat → Int32) (n_p0_best : Nat) (p0_best : Nat → Int32) (n_p0_weightBefore : Nat) (p0_weightBefore : Nat → Int32) (x1 : Int32) (x2 : Int32) (r : Int32) (h : fn_X5_leastOf F n_p0_best p0_best n_p0_weightBefore p0_weightBefore x1 x2 = some r) : Ci l yX5_leastOf wsX5_leastOf ({ frames := 2, cells := 0, slots := 0, locals := 45 } : Room) D vwCl [(cI, .int), (cZ, .boolean)] [.ref h_p0, .int x1, .int x2] (W_X5 cI cZ h_p0 h_p0_partStart h_p0_partEnd h_p0_best h_p0_weightBefore p0_parts n_p0_partStart p0_partStart n_p0_partEnd p0_partEnd n_p0_best p0_best n_p0_weightBefore p0_weightBefore) r (fun w => w = (W_X5 cI cZ h_p0 h_p0_partStart h_p0_partEnd h_p0_best h_p0_weightBefore p0_parts n_p0_partStart p0_partStart n_p0_partEnd p0_partEnd n_p0_best p0_best n_p0_weightBefore p0_weightBefore)) 0 0 :=
  Ci.ofi (by decide) rfl (Nat.le_of_ble_eq_true rfl) (fun p e s m args below meth c Q A S hK hA hname hend => w_X5_leastOf_0 S hK hA hend rfl x1 x2 h)
end

/-! ===== PrefixSmith$Ordered.middle(LPrefixSmith$Leaves;II)I ===== -/
abbrev W_X5_X3 (cI cZ : ClassId) (h_p0 h_p0_partStart h_p0_partEnd h_p0_best h_p0_weightBefore h_p1 h_p1_symbol h_p1_weight h_p1_depth h_p1_line : Nat) (p0_parts : Int32) (n_p0_partStart : Nat) (p0_partStart : Nat → Int32) (n_p0_partEnd : Nat) (p0_partEnd : Nat → Int32) (n_p0_best : Nat) (p0_best : Nat → Int32) (n_p0_weightBefore : Nat) (p0_weightBefore : Nat → Int32) (p1_size : Int32) (n_p1_symbol : Nat) (p1_symbol : Nat → Int32) (n_p1_weight : Nat) (p1_weight : Nat → Int32) (n_p1_depth : Nat) (p1_depth : Nat → Int32) (n_p1_line : Nat) (p1_line : Nat → Int32) : va_W := [(h_p0, .inr (5, [.ref h_p0_partStart, .ref h_p0_partEnd, .int p0_parts, .ref h_p0_best, .ref h_p0_weightBefore])), (h_p0_partStart, .inl (cI, n_p0_partStart, .inl p0_partStart)), (h_p0_partEnd, .inl (cI, n_p0_partEnd, .inl p0_partEnd)), (h_p0_best, .inl (cI, n_p0_best, .inl p0_best)), (h_p0_weightBefore, .inl (cI, n_p0_weightBefore, .inl p0_weightBefore)), (h_p1, .inr (3, [.ref h_p1_symbol, .ref h_p1_weight, .ref h_p1_depth, .ref h_p1_line, .int p1_size])), (h_p1_symbol, .inl (cI, n_p1_symbol, .inl p1_symbol)), (h_p1_weight, .inl (cI, n_p1_weight, .inl p1_weight)), (h_p1_depth, .inl (cI, n_p1_depth, .inl p1_depth)), (h_p1_line, .inl (cI, n_p1_line, .inl p1_line))]
section
variable {p : Program} {l : Launch} {e : Env} {s : State} {m : MethodId} {args : Array Value} {below : List Frame} {meth : Method} {c : Code} {Q : State → Prop} {D : va_G} {A : Nat → Prop} {cI cZ : ClassId}
noncomputable def bf_X5_middle_0 (F : Nat) (n_p0_best : Nat) (p0_best : Nat → Int32)  (x2 : Int32) (x3 : Int32) : Option (Int32) :=
  ((fn_X5_lastOnLeft F n_p0_best p0_best x2 (x3 - (1 : Int32))).bind fun v5 => some (v5 + (1 : Int32)))
set_option maxRecDepth 100000 in
set_option maxHeartbeats 4000000 in
theorem w_X5_middle_0 (S : CallFix p m c cX5_middle 4 s args wsX5_middle RX5) (hK : K_ D vwCl [(cI, .int), (cZ, .boolean)] s) (hA : ∀ q, s.heap.size ≤ q → A q) {F : Nat} {p0_parts : Int32} {n_p0_partStart : Nat} {p0_partStart : Nat → Int32} {n_p0_partEnd : Nat} {p0_partEnd : Nat → Int32} {n_p0_best : Nat} {p0_best : Nat → Int32} {n_p0_weightBefore : Nat} {p0_weightBefore : Nat → Int32} {p1_size : Int32} {n_p1_symbol : Nat} {p1_symbol : Nat → Int32} {n_p1_weight : Nat} {p1_weight : Nat → Int32} {n_p1_depth : Nat} {p1_depth : Nat → Int32} {n_p1_line : Nat} {p1_line : Nat → Int32} {h_p0 h_p1 h_p0_partStart h_p0_partEnd h_p0_best h_p0_weightBefore h_p1_symbol h_p1_weight h_p1_depth h_p1_line : Nat} {r : Int32} {Wp : va_W → Prop} (hend : ∀ (w1 : va_W) (pc : Nat) (lv : List (Nat × Value)), Wp w1 → decode cX5_middle pc = .ok (.ireturn, 1) → X_ p l e ({ frames := 2, cells := 0, slots := 0, locals := 43 } : Room) s m args below meth c Q D vwCl A 4 0 0 w1 lv pc [.int r]) (hWp : Wp (W_X5_X3 cI cZ h_p0 h_p0_partStart h_p0_partEnd h_p0_best h_p0_weightBefore h_p1 h_p1_symbol h_p1_weight h_p1_depth h_p1_line p0_parts n_p0_partStart p0_partStart n_p0_partEnd p0_partEnd n_p0_best p0_best n_p0_weightBefore p0_weightBefore p1_size n_p1_symbol p1_symbol n_p1_weight p1_weight n_p1_depth p1_depth n_p1_line p1_line))   : ∀ (x2 : Int32) (x3 : Int32), bf_X5_middle_0 F n_p0_best p0_best x2 x3 = some r → X_ p l e ({ frames := 2, cells := 0, slots := 0, locals := 43 } : Room) s m args below meth c Q D vwCl A 4 0 0 (W_X5_X3 cI cZ h_p0 h_p0_partStart h_p0_partEnd h_p0_best h_p0_weightBefore h_p1 h_p1_symbol h_p1_weight h_p1_depth h_p1_line p0_parts n_p0_partStart p0_partStart n_p0_partEnd p0_partEnd n_p0_best p0_best n_p0_weightBefore p0_weightBefore p1_size n_p1_symbol p1_symbol n_p1_weight p1_weight n_p1_depth p1_depth n_p1_line p1_line) [(0, .ref h_p0), (1, .ref h_p1), (2, .int x2), (3, .int x3)] 0 [] := by
  intro x2 x3 h
  unfold bf_X5_middle_0 at h
  refine x_aload_n S dX5_middle_0 rfl 0 rfl ?_
  refine x_iload_n S dX5_middle_1 rfl 2 rfl ?_
  refine x_iload_n S dX5_middle_2 rfl 3 rfl ?_
  refine x_iconst (v := 1) S dX5_middle_3 (by decide) ?_
  refine x_isub S dX5_middle_4 ?_
  obtain ⟨v5, h5, h⟩ := gbind h
  refine x_callVi S hK hA (c_X5_lastOnLeft l D cI cZ F h_p0 h_p0_partStart h_p0_partEnd h_p0_best h_p0_weightBefore p0_parts n_p0_partStart p0_partStart n_p0_partEnd p0_partEnd n_p0_best p0_best n_p0_weightBefore p0_weightBefore x2 (x3 - (1 : Int32)) v5 h5) (cwV 2 S.2.2.2.2 gX5_middle_X5_lastOnLeft rfl rfl rfl (by decide +kernel) ⟨(Nat.le_of_ble_eq_true rfl), (Nat.le_of_ble_eq_true rfl)⟩) [0, 1, 2, 3, 4] [5, 6, 7, 8, 9] rfl (by decide) rfl (by decide) (by decide) 0 5 rfl rfl rfl (Nat.le_of_ble_eq_true rfl) rfl dX5_middle_5 ⟨(Nat.le_of_ble_eq_true rfl), (Nat.le_of_ble_eq_true rfl)⟩ (fun w1 hw1 => ?_)
  subst hw1
  refine x_ws (ws' := (W_X5_X3 cI cZ h_p0 h_p0_partStart h_p0_partEnd h_p0_best h_p0_weightBefore h_p1 h_p1_symbol h_p1_weight h_p1_depth h_p1_line p0_parts n_p0_partStart p0_partStart n_p0_partEnd p0_partEnd n_p0_best p0_best n_p0_weightBefore p0_weightBefore p1_size n_p1_symbol p1_symbol n_p1_weight p1_weight n_p1_depth p1_depth n_p1_line p1_line)) [5, 6, 7, 8, 9, 0, 1, 2, 3, 4] (by decide) (by rfl) ?_
  refine x_iconst (v := 1) S dX5_middle_8 (by decide) ?_
  refine x_iadd S dX5_middle_9 ?_
  obtain rfl := Option.some.inj h
  exact hend _ _ _ hWp dX5_middle_10
noncomputable def fn_X5_middle (F : Nat) (n_p0_best : Nat) (p0_best : Nat → Int32) (x2 : Int32) (x3 : Int32) : Option (Int32) :=
  bf_X5_middle_0 F n_p0_best p0_best x2 x3
set_option maxRecDepth 100000 in
set_option maxHeartbeats 4000000 in
theorem c_X5_middle (l : Launch) (D : va_G) (cI cZ : ClassId) (F : Nat) (h_p0 h_p0_partStart h_p0_partEnd h_p0_best h_p0_weightBefore h_p1 h_p1_symbol h_p1_weight h_p1_depth h_p1_line : Nat) (p0_parts : Int32) (n_p0_partStart : Nat) (p0_partStart : Nat → Int32) (n_p0_partEnd : Nat) (p0_partEnd : Nat → Int32) (n_p0_best : Nat) (p0_best : Nat → Int32) (n_p0_weightBefore : Nat) (p0_weightBefore : Nat → Int32) (p1_size : Int32) (n_p1_symbol : Nat) (p1_symbol : Nat → Int32) (n_p1_weight : Nat) (p1_weight : Nat → Int32) (n_p1_depth : Nat) (p1_depth : Nat → Int32) (n_p1_line : Nat) (p1_line : Nat → Int32) (x2 : Int32) (x3 : Int32) (r : Int32) (h : fn_X5_middle F n_p0_best p0_best x2 x3 = some r) : Ci l yX5_middle wsX5_middle ({ frames := 2, cells := 0, slots := 0, locals := 43 } : Room) D vwCl [(cI, .int), (cZ, .boolean)] [.ref h_p0, .ref h_p1, .int x2, .int x3] (W_X5_X3 cI cZ h_p0 h_p0_partStart h_p0_partEnd h_p0_best h_p0_weightBefore h_p1 h_p1_symbol h_p1_weight h_p1_depth h_p1_line p0_parts n_p0_partStart p0_partStart n_p0_partEnd p0_partEnd n_p0_best p0_best n_p0_weightBefore p0_weightBefore p1_size n_p1_symbol p1_symbol n_p1_weight p1_weight n_p1_depth p1_depth n_p1_line p1_line) r (fun w => w = (W_X5_X3 cI cZ h_p0 h_p0_partStart h_p0_partEnd h_p0_best h_p0_weightBefore h_p1 h_p1_symbol h_p1_weight h_p1_depth h_p1_line p0_parts n_p0_partStart p0_partStart n_p0_partEnd p0_partEnd n_p0_best p0_best n_p0_weightBefore p0_weightBefore p1_size n_p1_symbol p1_symbol n_p1_weight p1_weight n_p1_depth p1_depth n_p1_line p1_line)) 0 0 :=
  Ci.ofi (by decide) rfl (Nat.le_of_ble_eq_true rfl) (fun p e s m args below meth c Q A S hK hA hname hend => w_X5_middle_0 S hK hA hend rfl x2 x3 h)
end

/-! ===== PrefixSmith$Parting.addPart(II)V on PrefixSmith$Ordered ===== -/
theorem i_X7_addPart_X5 : ∀ w ∈ u_ws RX5 TX5 5, w ∈ wsX7_addPart := by decide +kernel
section
variable {p : Program} {l : Launch} {e : Env} {s : State} {m : MethodId} {args : Array Value} {below : List Frame} {meth : Method} {c : Code} {Q : State → Prop} {D : va_G} {A : Nat → Prop} {cI cZ : ClassId}
noncomputable def bf_X7_addPart_X5_0 (F : Nat) (n_p0_partStart : Nat) (n_p0_partEnd : Nat)  (x1 : Int32) (x2 : Int32) (p0_parts : Int32) (p0_partStart : Nat → Int32) (p0_partEnd : Nat → Int32) : Option (Int32 × (Nat → Int32) × (Nat → Int32)) :=
  (if (nI n_p0_partStart) ≤ p0_parts then some (p0_parts, p0_partStart, p0_partEnd) else (if p0_parts < 0 ∨ n_p0_partStart ≤ (p0_parts).toNatClampNeg then none else (if p0_parts < 0 ∨ n_p0_partEnd ≤ (p0_parts).toNatClampNeg then none else some (p0_parts + (1 : Int32), upd p0_partStart (p0_parts).toNatClampNeg x1, upd p0_partEnd (p0_parts).toNatClampNeg x2))))
set_option maxRecDepth 100000 in
set_option maxHeartbeats 4000000 in
theorem w_X7_addPart_X5_0 (S : CallFix p m c cX7_addPart 3 s args wsX7_addPart RX7) (hK : K_ D vwCl [(cI, .int), (cZ, .boolean)] s) (hA : ∀ q, s.heap.size ≤ q → A q) {F : Nat} {n_p0_partStart : Nat} {n_p0_partEnd : Nat} {n_p0_best : Nat} {p0_best : Nat → Int32} {n_p0_weightBefore : Nat} {p0_weightBefore : Nat → Int32} {h_p0 h_p0_partStart h_p0_partEnd h_p0_best h_p0_weightBefore : Nat} {r : Int32 × (Nat → Int32) × (Nat → Int32)} {Wp : va_W → Prop} (hend : ∀ (w1 : va_W) (pc : Nat) (lv : List (Nat × Value)), Wp w1 → decode cX7_addPart pc = .ok (.return_, 1) → X_ p l e ({ frames := 0, cells := 0, slots := 0, locals := 0 } : Room) s m args below meth c Q D vwCl A 3 0 0 w1 lv pc []) (hWp : Wp (W_X5 cI cZ h_p0 h_p0_partStart h_p0_partEnd h_p0_best h_p0_weightBefore r.1 n_p0_partStart r.2.1 n_p0_partEnd r.2.2 n_p0_best p0_best n_p0_weightBefore p0_weightBefore))   : ∀ (x1 : Int32) (x2 : Int32) (p0_parts : Int32) (p0_partStart : Nat → Int32) (p0_partEnd : Nat → Int32), bf_X7_addPart_X5_0 F n_p0_partStart n_p0_partEnd x1 x2 p0_parts p0_partStart p0_partEnd = some r → X_ p l e ({ frames := 0, cells := 0, slots := 0, locals := 0 } : Room) s m args below meth c Q D vwCl A 3 0 0 (W_X5 cI cZ h_p0 h_p0_partStart h_p0_partEnd h_p0_best h_p0_weightBefore p0_parts n_p0_partStart p0_partStart n_p0_partEnd p0_partEnd n_p0_best p0_best n_p0_weightBefore p0_weightBefore) [(0, .ref h_p0), (1, .int x1), (2, .int x2)] 0 [] := by
  intro x1 x2 p0_parts p0_partStart p0_partEnd h
  unfold bf_X7_addPart_X5_0 at h
  refine x_aload_n S dX7_addPart_0 rfl 0 rfl ?_
  refine x_get S hK i_X7_addPart_X5 0 rfl rfl 2 (by decide) k_X7_addPart_27 rfl rfl dX7_addPart_1 ?_
  refine x_aload_n S dX7_addPart_4 rfl 0 rfl ?_
  refine x_get S hK i_X7_addPart_X5 0 rfl rfl 0 (by decide) k_X7_addPart_7 rfl rfl dX7_addPart_5 ?_
  refine x_alen S hK 1 0 rfl rfl dX7_addPart_8 ?_
  refine x_icmp_ge S 42 dX7_addPart_9 (by decide) h (fun h => ?_) (fun h => ?_)
  · obtain rfl := Option.some.inj h
    exact hend _ _ _ hWp dX7_addPart_42
  · refine x_aload_n S dX7_addPart_12 rfl 0 rfl ?_
    refine x_get S hK i_X7_addPart_X5 0 rfl rfl 0 (by decide) k_X7_addPart_7 rfl rfl dX7_addPart_13 ?_
    refine x_aload_n S dX7_addPart_16 rfl 0 rfl ?_
    refine x_get S hK i_X7_addPart_X5 0 rfl rfl 2 (by decide) k_X7_addPart_27 rfl rfl dX7_addPart_17 ?_
    refine x_iload_n S dX7_addPart_20 rfl 1 rfl ?_
    refine x_iast S hK 1 0 rfl rfl dX7_addPart_21 h rfl (fun h => ?_)
    refine x_aload_n S dX7_addPart_22 rfl 0 rfl ?_
    refine x_get S hK i_X7_addPart_X5 0 rfl rfl 1 (by decide) k_X7_addPart_13 rfl rfl dX7_addPart_23 ?_
    refine x_aload_n S dX7_addPart_26 rfl 0 rfl ?_
    refine x_get S hK i_X7_addPart_X5 0 rfl rfl 2 (by decide) k_X7_addPart_27 rfl rfl dX7_addPart_27 ?_
    refine x_iload_n S dX7_addPart_30 rfl 2 rfl ?_
    refine x_iast S hK 2 0 rfl rfl dX7_addPart_31 h rfl (fun h => ?_)
    refine x_aload_n S dX7_addPart_32 rfl 0 rfl ?_
    refine x_dup S dX7_addPart_33 rfl ?_
    refine x_get S hK i_X7_addPart_X5 0 rfl rfl 2 (by decide) k_X7_addPart_27 rfl rfl dX7_addPart_34 ?_
    refine x_iconst (v := 1) S dX7_addPart_37 (by decide) ?_
    refine x_iadd S dX7_addPart_38 ?_
    refine x_put (ty := .int) S hK i_X7_addPart_X5 tyX5 tyX5_ok nmX5 0 rfl rfl 2 (by decide) k_X7_addPart_27 rfl rfl (by decide +kernel) rfl rfl (Nat.le_of_ble_eq_true rfl) dX7_addPart_39 rfl ?_
    obtain rfl := Option.some.inj h
    exact hend _ _ _ hWp dX7_addPart_42
noncomputable def fn_X7_addPart_X5 (F : Nat) (n_p0_partStart : Nat) (n_p0_partEnd : Nat) (p0_parts : Int32) (p0_partStart : Nat → Int32) (p0_partEnd : Nat → Int32) (x1 : Int32) (x2 : Int32) : Option (Int32 × (Nat → Int32) × (Nat → Int32)) :=
  bf_X7_addPart_X5_0 F n_p0_partStart n_p0_partEnd x1 x2 p0_parts p0_partStart p0_partEnd
set_option maxRecDepth 100000 in
set_option maxHeartbeats 4000000 in
theorem c_X7_addPart_X5 (l : Launch) (D : va_G) (cI cZ : ClassId) (F : Nat) (h_p0 h_p0_partStart h_p0_partEnd h_p0_best h_p0_weightBefore : Nat) (p0_parts : Int32) (n_p0_partStart : Nat) (p0_partStart : Nat → Int32) (n_p0_partEnd : Nat) (p0_partEnd : Nat → Int32) (n_p0_best : Nat) (p0_best : Nat → Int32) (n_p0_weightBefore : Nat) (p0_weightBefore : Nat → Int32) (x1 : Int32) (x2 : Int32) (r : Int32 × (Nat → Int32) × (Nat → Int32)) (h : fn_X7_addPart_X5 F n_p0_partStart n_p0_partEnd p0_parts p0_partStart p0_partEnd x1 x2 = some r) : Cv l yX7_addPart wsX7_addPart ({ frames := 0, cells := 0, slots := 0, locals := 0 } : Room) D vwCl [(cI, .int), (cZ, .boolean)] [.ref h_p0, .int x1, .int x2] (W_X5 cI cZ h_p0 h_p0_partStart h_p0_partEnd h_p0_best h_p0_weightBefore p0_parts n_p0_partStart p0_partStart n_p0_partEnd p0_partEnd n_p0_best p0_best n_p0_weightBefore p0_weightBefore) (fun w => w = (W_X5 cI cZ h_p0 h_p0_partStart h_p0_partEnd h_p0_best h_p0_weightBefore r.1 n_p0_partStart r.2.1 n_p0_partEnd r.2.2 n_p0_best p0_best n_p0_weightBefore p0_weightBefore)) 0 0 :=
  Cv.ofv (by decide) rfl (Nat.le_of_ble_eq_true rfl) (fun p e s m args below meth c Q A S hK hA hname hend => w_X7_addPart_X5_0 S hK hA hend rfl x1 x2 p0_parts p0_partStart p0_partEnd h)
end

/-! ===== PrefixSmith$Parting.partAll(LPrefixSmith$Leaves;)V on PrefixSmith$Ordered ===== -/
theorem i_X7_partAll_X5 : ∀ w ∈ u_ws RX5 TX5 5, w ∈ wsX7_partAll := by decide +kernel
section
variable {p : Program} {l : Launch} {e : Env} {s : State} {m : MethodId} {args : Array Value} {below : List Frame} {meth : Method} {c : Code} {Q : State → Prop} {D : va_G} {A : Nat → Prop} {cI cZ : ClassId}
noncomputable def bf_X7_partAll_X5_24 (F : Nat) (n_p0_partStart : Nat) (n_p0_partEnd : Nat) (n_p0_best : Nat) (p0_best : Nat → Int32) (p1_size : Int32) (n_p1_depth : Nat) (n_p1_line : Nat) (p1_line : Nat → Int32) (rec24 : Int32 → Int32 → (Nat → Int32) → (Nat → Int32) → (Nat → Int32) → Option (Int32 × (Nat → Int32) × (Nat → Int32) × (Nat → Int32))) (x2 : Int32) (p0_parts : Int32) (p0_partStart : Nat → Int32) (p0_partEnd : Nat → Int32) (p1_depth : Nat → Int32) : Option (Int32 × (Nat → Int32) × (Nat → Int32) × (Nat → Int32)) :=
  (if ((2 : Int32) * p1_size) ≤ x2 then some (p0_parts, p0_partStart, p0_partEnd, p1_depth) else (if p0_parts ≤ 0 then some (p0_parts, p0_partStart, p0_partEnd, p1_depth) else (if (p0_parts - (1 : Int32)) < 0 ∨ n_p0_partStart ≤ ((p0_parts - (1 : Int32))).toNatClampNeg then none else (if (p0_parts - (1 : Int32)) < 0 ∨ n_p0_partEnd ≤ ((p0_parts - (1 : Int32))).toNatClampNeg then none else (if ((p0_partEnd ((p0_parts - (1 : Int32))).toNatClampNeg) - (p0_partStart ((p0_parts - (1 : Int32))).toNatClampNeg)) ≤ (1 : Int32) then rec24 (x2 + (1 : Int32)) (p0_parts - (1 : Int32)) p0_partStart p0_partEnd p1_depth else ((fn_X7_deepen F n_p1_depth n_p1_line p1_line p1_depth (p0_partStart ((p0_parts - (1 : Int32))).toNatClampNeg) (p0_partEnd ((p0_parts - (1 : Int32))).toNatClampNeg)).bind fun v84 => ((fn_X5_middle F n_p0_best p0_best (p0_partStart ((p0_parts - (1 : Int32))).toNatClampNeg) (p0_partEnd ((p0_parts - (1 : Int32))).toNatClampNeg)).bind fun v92 => ((fn_X7_addPart_X5 F n_p0_partStart n_p0_partEnd (p0_parts - (1 : Int32)) p0_partStart p0_partEnd (p0_partStart ((p0_parts - (1 : Int32))).toNatClampNeg) v92).bind fun v101 => ((fn_X7_addPart_X5 F n_p0_partStart n_p0_partEnd v101.1 v101.2.1 v101.2.2 v92 (p0_partEnd ((p0_parts - (1 : Int32))).toNatClampNeg)).bind fun v109 => rec24 (x2 + (1 : Int32)) v109.1 v109.2.1 v109.2.2 v84)))))))))
set_option maxRecDepth 100000 in
set_option maxHeartbeats 4000000 in
theorem w_X7_partAll_X5_24 (S : CallFix p m c cX7_partAll 6 s args wsX7_partAll RX7) (hK : K_ D vwCl [(cI, .int), (cZ, .boolean)] s) (hA : ∀ q, s.heap.size ≤ q → A q) {F : Nat} {n_p0_partStart : Nat} {n_p0_partEnd : Nat} {n_p0_best : Nat} {p0_best : Nat → Int32} {n_p0_weightBefore : Nat} {p0_weightBefore : Nat → Int32} {p1_size : Int32} {n_p1_symbol : Nat} {p1_symbol : Nat → Int32} {n_p1_weight : Nat} {p1_weight : Nat → Int32} {n_p1_depth : Nat} {n_p1_line : Nat} {p1_line : Nat → Int32} {h_p0 h_p1 h_p0_partStart h_p0_partEnd h_p0_best h_p0_weightBefore h_p1_symbol h_p1_weight h_p1_depth h_p1_line : Nat} {r : Int32 × (Nat → Int32) × (Nat → Int32) × (Nat → Int32)} {Wp : va_W → Prop} (hend : ∀ (w1 : va_W) (pc : Nat) (lv : List (Nat × Value)), Wp w1 → decode cX7_partAll pc = .ok (.return_, 1) → X_ p l e ({ frames := 3, cells := 0, slots := 0, locals := 66 } : Room) s m args below meth c Q D vwCl A 6 0 0 w1 lv pc []) (hWp : Wp (W_X5_X3 cI cZ h_p0 h_p0_partStart h_p0_partEnd h_p0_best h_p0_weightBefore h_p1 h_p1_symbol h_p1_weight h_p1_depth h_p1_line r.1 n_p0_partStart r.2.1 n_p0_partEnd r.2.2.1 n_p0_best p0_best n_p0_weightBefore p0_weightBefore p1_size n_p1_symbol p1_symbol n_p1_weight p1_weight n_p1_depth r.2.2.2 n_p1_line p1_line)) {rec24 : Int32 → Int32 → (Nat → Int32) → (Nat → Int32) → (Nat → Int32) → Option (Int32 × (Nat → Int32) × (Nat → Int32) × (Nat → Int32))} (hrec24 : ∀ (x2 : Int32) (p0_parts : Int32) (p0_partStart : Nat → Int32) (p0_partEnd : Nat → Int32) (p1_depth : Nat → Int32), rec24 x2 p0_parts p0_partStart p0_partEnd p1_depth = some r → X_ p l e ({ frames := 3, cells := 0, slots := 0, locals := 66 } : Room) s m args below meth c Q D vwCl A 6 0 0 (W_X5_X3 cI cZ h_p0 h_p0_partStart h_p0_partEnd h_p0_best h_p0_weightBefore h_p1 h_p1_symbol h_p1_weight h_p1_depth h_p1_line p0_parts n_p0_partStart p0_partStart n_p0_partEnd p0_partEnd n_p0_best p0_best n_p0_weightBefore p0_weightBefore p1_size n_p1_symbol p1_symbol n_p1_weight p1_weight n_p1_depth p1_depth n_p1_line p1_line) [(0, .ref h_p0), (1, .ref h_p1), (2, .int x2)] 24 []) : ∀ (x2 : Int32) (p0_parts : Int32) (p0_partStart : Nat → Int32) (p0_partEnd : Nat → Int32) (p1_depth : Nat → Int32), bf_X7_partAll_X5_24 F n_p0_partStart n_p0_partEnd n_p0_best p0_best p1_size n_p1_depth n_p1_line p1_line rec24 x2 p0_parts p0_partStart p0_partEnd p1_depth = some r → X_ p l e ({ frames := 3, cells := 0, slots := 0, locals := 66 } : Room) s m args below meth c Q D vwCl A 6 0 0 (W_X5_X3 cI cZ h_p0 h_p0_partStart h_p0_partEnd h_p0_best h_p0_weightBefore h_p1 h_p1_symbol h_p1_weight h_p1_depth h_p1_line p0_parts n_p0_partStart p0_partStart n_p0_partEnd p0_partEnd n_p0_best p0_best n_p0_weightBefore p0_weightBefore p1_size n_p1_symbol p1_symbol n_p1_weight p1_weight n_p1_depth p1_depth n_p1_line p1_line) [(0, .ref h_p0), (1, .ref h_p1), (2, .int x2)] 24 [] := by
  intro x2 p0_parts p0_partStart p0_partEnd p1_depth h
  unfold bf_X7_partAll_X5_24 at h
  refine x_iload_n S dX7_partAll_24 rfl 2 rfl ?_
  refine x_iconst (v := 2) S dX7_partAll_25 (by decide) ?_
  refine x_aload_n S dX7_partAll_26 rfl 1 rfl ?_
  refine x_getN S hK i_X7_partAll_X3 5 rfl rfl 4 (by decide) nf_X7_31 rfl rfl dX7_partAll_27 ?_
  refine x_imul S dX7_partAll_30 ?_
  refine x_icmp_ge S 118 dX7_partAll_31 (by decide) h (fun h => ?_) (fun h => ?_)
  · obtain rfl := Option.some.inj h
    exact hend _ _ _ hWp dX7_partAll_118
  · refine x_aload_n S dX7_partAll_34 rfl 0 rfl ?_
    refine x_get S hK i_X7_partAll_X5 0 rfl rfl 2 (by decide) k_X7_partAll_27 rfl rfl dX7_partAll_35 ?_
    refine x_if_le S 118 dX7_partAll_38 (by decide) h (fun h => ?_) (fun h => ?_)
    · obtain rfl := Option.some.inj h
      exact hend _ _ _ hWp dX7_partAll_118
    · refine x_aload_n S dX7_partAll_41 rfl 0 rfl ?_
      refine x_dup S dX7_partAll_42 rfl ?_
      refine x_get S hK i_X7_partAll_X5 0 rfl rfl 2 (by decide) k_X7_partAll_27 rfl rfl dX7_partAll_43 ?_
      refine x_iconst (v := 1) S dX7_partAll_46 (by decide) ?_
      refine x_isub S dX7_partAll_47 ?_
      refine x_put (ty := .int) S hK i_X7_partAll_X5 tyX5 tyX5_ok nmX5 0 rfl rfl 2 (by decide) k_X7_partAll_27 rfl rfl (by decide +kernel) rfl rfl (Nat.le_of_ble_eq_true rfl) dX7_partAll_48 rfl ?_
      refine x_aload_n S dX7_partAll_51 rfl 0 rfl ?_
      refine x_get S hK i_X7_partAll_X5 0 rfl rfl 0 (by decide) k_X7_partAll_7 rfl rfl dX7_partAll_52 ?_
      refine x_aload_n S dX7_partAll_55 rfl 0 rfl ?_
      refine x_get S hK i_X7_partAll_X5 0 rfl rfl 2 (by decide) k_X7_partAll_27 rfl rfl dX7_partAll_56 ?_
      refine x_iald S hK 1 0 rfl rfl dX7_partAll_59 h (fun h => ?_)
      refine x_istore_n (lv' := [(3, .int (p0_partStart ((p0_parts - (1 : Int32))).toNatClampNeg)), (0, .ref h_p0), (1, .ref h_p1), (2, .int x2)]) S dX7_partAll_60 rfl (by decide) rfl ?_
      refine x_aload_n S dX7_partAll_61 rfl 1 rfl ?_
      refine x_get S hK i_X7_partAll_X5 0 rfl rfl 1 (by decide) k_X7_partAll_13 rfl rfl dX7_partAll_62 ?_
      refine x_aload_n S dX7_partAll_65 rfl 1 rfl ?_
      refine x_get S hK i_X7_partAll_X5 0 rfl rfl 2 (by decide) k_X7_partAll_27 rfl rfl dX7_partAll_66 ?_
      refine x_iald S hK 2 0 rfl rfl dX7_partAll_69 h (fun h => ?_)
      refine x_istore (lv' := [(4, .int (p0_partEnd ((p0_parts - (1 : Int32))).toNatClampNeg)), (3, .int (p0_partStart ((p0_parts - (1 : Int32))).toNatClampNeg)), (0, .ref h_p0), (1, .ref h_p1), (2, .int x2)]) S dX7_partAll_70 (by decide) rfl ?_
      refine x_iload S dX7_partAll_72 0 rfl ?_
      refine x_iload_n S dX7_partAll_74 rfl 1 rfl ?_
      refine x_isub S dX7_partAll_75 ?_
      refine x_iconst (v := 1) S dX7_partAll_76 (by decide) ?_
      refine x_icmp_le S 112 dX7_partAll_77 (by decide) h (fun h => ?_) (fun h => ?_)
      · refine x_iinc (v := x2 + (1 : Int32)) (lv' := [(2, .int (x2 + (1 : Int32))), (4, .int (p0_partEnd ((p0_parts - (1 : Int32))).toNatClampNeg)), (3, .int (p0_partStart ((p0_parts - (1 : Int32))).toNatClampNeg)), (0, .ref h_p0), (1, .ref h_p1)]) S dX7_partAll_112 4 rfl rfl (by decide) rfl ?_
        refine x_goto S 24 dX7_partAll_115 (by decide) ?_
        refine x_lv [3, 4, 0] (by rfl) ?_
        exact hrec24 (x2 + (1 : Int32)) (p0_parts - (1 : Int32)) p0_partStart p0_partEnd p1_depth h
      · refine x_aload_n S dX7_partAll_80 rfl 3 rfl ?_
        refine x_iload_n S dX7_partAll_81 rfl 1 rfl ?_
        refine x_iload S dX7_partAll_82 0 rfl ?_
        obtain ⟨v84, h84, h⟩ := gbind h
        refine x_callSv S hK hA (c_X7_deepen l D cI cZ F h_p1 h_p1_symbol h_p1_weight h_p1_depth h_p1_line p1_size n_p1_symbol p1_symbol n_p1_weight p1_weight n_p1_depth p1_depth n_p1_line p1_line (p0_partStart ((p0_parts - (1 : Int32))).toNatClampNeg) (p0_partEnd ((p0_parts - (1 : Int32))).toNatClampNeg) v84 h84) (va_cwS 3 S.2.2.2.2 gX7_partAll_X7_deepen rfl rfl rfl (by decide +kernel) ⟨(Nat.le_of_ble_eq_true rfl), (Nat.le_of_ble_eq_true rfl)⟩) [5, 6, 7, 8, 9] [0, 1, 2, 3, 4] rfl (by decide) rfl (by decide) (by decide) rfl (Nat.le_of_ble_eq_true rfl) rfl dX7_partAll_84 ⟨(Nat.le_of_ble_eq_true rfl), (Nat.le_of_ble_eq_true rfl)⟩ (fun w1 hw1 => ?_)
        subst hw1
        refine x_ws (ws' := (W_X5_X3 cI cZ h_p0 h_p0_partStart h_p0_partEnd h_p0_best h_p0_weightBefore h_p1 h_p1_symbol h_p1_weight h_p1_depth h_p1_line (p0_parts - (1 : Int32)) n_p0_partStart p0_partStart n_p0_partEnd p0_partEnd n_p0_best p0_best n_p0_weightBefore p0_weightBefore p1_size n_p1_symbol p1_symbol n_p1_weight p1_weight n_p1_depth v84 n_p1_line p1_line)) [0, 1, 2, 3, 4, 5, 6, 7, 8, 9] (by decide) (by rfl) ?_
        refine x_aload_n S dX7_partAll_87 rfl 2 rfl ?_
        refine x_aload_n S dX7_partAll_88 rfl 3 rfl ?_
        refine x_iload_n S dX7_partAll_89 rfl 1 rfl ?_
        refine x_iload S dX7_partAll_90 0 rfl ?_
        obtain ⟨v92, h92, h⟩ := gbind h
        refine x_callUi S hK hA (c_X5_middle l D cI cZ F h_p0 h_p0_partStart h_p0_partEnd h_p0_best h_p0_weightBefore h_p1 h_p1_symbol h_p1_weight h_p1_depth h_p1_line (p0_parts - (1 : Int32)) n_p0_partStart p0_partStart n_p0_partEnd p0_partEnd n_p0_best p0_best n_p0_weightBefore p0_weightBefore p1_size n_p1_symbol p1_symbol n_p1_weight p1_weight n_p1_depth v84 n_p1_line p1_line (p0_partStart ((p0_parts - (1 : Int32))).toNatClampNeg) (p0_partEnd ((p0_parts - (1 : Int32))).toNatClampNeg) v92 h92) (va_cwA 3 S.2.2.2.2 gX7_partAll_X5_middle_u42X5 rfl rfl rfl hK.2.2.2 (by decide +kernel) ⟨(Nat.le_of_ble_eq_true rfl), (Nat.le_of_ble_eq_true rfl)⟩) [0, 1, 2, 3, 4, 5, 6, 7, 8, 9] [] rfl (by decide) rfl (by decide) (by decide) 0 5 rfl rfl rfl (Nat.le_of_ble_eq_true rfl) rfl dX7_partAll_92 ⟨(Nat.le_of_ble_eq_true rfl), (Nat.le_of_ble_eq_true rfl)⟩ (fun w1 hw1 => ?_)
        subst hw1
        refine x_ws (ws' := (W_X5_X3 cI cZ h_p0 h_p0_partStart h_p0_partEnd h_p0_best h_p0_weightBefore h_p1 h_p1_symbol h_p1_weight h_p1_depth h_p1_line (p0_parts - (1 : Int32)) n_p0_partStart p0_partStart n_p0_partEnd p0_partEnd n_p0_best p0_best n_p0_weightBefore p0_weightBefore p1_size n_p1_symbol p1_symbol n_p1_weight p1_weight n_p1_depth v84 n_p1_line p1_line)) [0, 1, 2, 3, 4, 5, 6, 7, 8, 9] (by decide) (by rfl) ?_
        refine x_istore (lv' := [(5, .int v92), (4, .int (p0_partEnd ((p0_parts - (1 : Int32))).toNatClampNeg)), (3, .int (p0_partStart ((p0_parts - (1 : Int32))).toNatClampNeg)), (0, .ref h_p0), (1, .ref h_p1), (2, .int x2)]) S dX7_partAll_95 (by decide) rfl ?_
        refine x_aload_n S dX7_partAll_97 rfl 3 rfl ?_
        refine x_iload_n S dX7_partAll_98 rfl 2 rfl ?_
        refine x_iload S dX7_partAll_99 0 rfl ?_
        obtain ⟨v101, h101, h⟩ := gbind h
        refine x_callUv S hK hA (c_X7_addPart_X5 l D cI cZ F h_p0 h_p0_partStart h_p0_partEnd h_p0_best h_p0_weightBefore (p0_parts - (1 : Int32)) n_p0_partStart p0_partStart n_p0_partEnd p0_partEnd n_p0_best p0_best n_p0_weightBefore p0_weightBefore (p0_partStart ((p0_parts - (1 : Int32))).toNatClampNeg) v92 v101 h101) (va_cwU 2 S.2.2.2.2 gX7_partAll_X7_addPart_u34X5 rfl rfl rfl rfl (by decide +kernel) ⟨(Nat.le_of_ble_eq_true rfl), (Nat.le_of_ble_eq_true rfl)⟩) [0, 1, 2, 3, 4] [5, 6, 7, 8, 9] rfl (by decide) rfl (by decide) (by decide) 0 5 rfl rfl rfl (Nat.le_of_ble_eq_true rfl) rfl dX7_partAll_101 ⟨(Nat.le_of_ble_eq_true rfl), (Nat.le_of_ble_eq_true rfl)⟩ (fun w1 hw1 => ?_)
        subst hw1
        refine x_ws (ws' := (W_X5_X3 cI cZ h_p0 h_p0_partStart h_p0_partEnd h_p0_best h_p0_weightBefore h_p1 h_p1_symbol h_p1_weight h_p1_depth h_p1_line v101.1 n_p0_partStart v101.2.1 n_p0_partEnd v101.2.2 n_p0_best p0_best n_p0_weightBefore p0_weightBefore p1_size n_p1_symbol p1_symbol n_p1_weight p1_weight n_p1_depth v84 n_p1_line p1_line)) [5, 6, 7, 8, 9, 0, 1, 2, 3, 4] (by decide) (by rfl) ?_
        refine x_aload_n S dX7_partAll_104 rfl 3 rfl ?_
        refine x_iload S dX7_partAll_105 0 rfl ?_
        refine x_iload S dX7_partAll_107 1 rfl ?_
        obtain ⟨v109, h109, h⟩ := gbind h
        refine x_callUv S hK hA (c_X7_addPart_X5 l D cI cZ F h_p0 h_p0_partStart h_p0_partEnd h_p0_best h_p0_weightBefore v101.1 n_p0_partStart v101.2.1 n_p0_partEnd v101.2.2 n_p0_best p0_best n_p0_weightBefore p0_weightBefore v92 (p0_partEnd ((p0_parts - (1 : Int32))).toNatClampNeg) v109 h109) (va_cwU 2 S.2.2.2.2 gX7_partAll_X7_addPart_u34X5 rfl rfl rfl rfl (by decide +kernel) ⟨(Nat.le_of_ble_eq_true rfl), (Nat.le_of_ble_eq_true rfl)⟩) [0, 1, 2, 3, 4] [5, 6, 7, 8, 9] rfl (by decide) rfl (by decide) (by decide) 0 5 rfl rfl rfl (Nat.le_of_ble_eq_true rfl) rfl dX7_partAll_109 ⟨(Nat.le_of_ble_eq_true rfl), (Nat.le_of_ble_eq_true rfl)⟩ (fun w1 hw1 => ?_)
        subst hw1
        refine x_ws (ws' := (W_X5_X3 cI cZ h_p0 h_p0_partStart h_p0_partEnd h_p0_best h_p0_weightBefore h_p1 h_p1_symbol h_p1_weight h_p1_depth h_p1_line v109.1 n_p0_partStart v109.2.1 n_p0_partEnd v109.2.2 n_p0_best p0_best n_p0_weightBefore p0_weightBefore p1_size n_p1_symbol p1_symbol n_p1_weight p1_weight n_p1_depth v84 n_p1_line p1_line)) [5, 6, 7, 8, 9, 0, 1, 2, 3, 4] (by decide) (by rfl) ?_
        refine x_iinc (v := x2 + (1 : Int32)) (lv' := [(2, .int (x2 + (1 : Int32))), (5, .int v92), (4, .int (p0_partEnd ((p0_parts - (1 : Int32))).toNatClampNeg)), (3, .int (p0_partStart ((p0_parts - (1 : Int32))).toNatClampNeg)), (0, .ref h_p0), (1, .ref h_p1)]) S dX7_partAll_112 5 rfl rfl (by decide) rfl ?_
        refine x_goto S 24 dX7_partAll_115 (by decide) ?_
        refine x_lv [4, 5, 0] (by rfl) ?_
        exact hrec24 (x2 + (1 : Int32)) v109.1 v109.2.1 v109.2.2 v84 h
noncomputable def lf_X7_partAll_X5_24 (F : Nat) (n_p0_partStart : Nat) (n_p0_partEnd : Nat) (n_p0_best : Nat) (p0_best : Nat → Int32) (p1_size : Int32) (n_p1_depth : Nat) (n_p1_line : Nat) (p1_line : Nat → Int32)  (k : Nat) (x2 : Int32) (p0_parts : Int32) (p0_partStart : Nat → Int32) (p0_partEnd : Nat → Int32) (p1_depth : Nat → Int32) : Option (Int32 × (Nat → Int32) × (Nat → Int32) × (Nat → Int32)) :=
  lp (fun (rec : Int32 × Int32 × (Nat → Int32) × (Nat → Int32) × (Nat → Int32) → Option (Int32 × (Nat → Int32) × (Nat → Int32) × (Nat → Int32))) (z : Int32 × Int32 × (Nat → Int32) × (Nat → Int32) × (Nat → Int32)) => bf_X7_partAll_X5_24 F n_p0_partStart n_p0_partEnd n_p0_best p0_best p1_size n_p1_depth n_p1_line p1_line (fun x2 p0_parts p0_partStart p0_partEnd p1_depth => rec (x2, p0_parts, p0_partStart, p0_partEnd, p1_depth)) z.1 z.2.1 z.2.2.1 z.2.2.2.1 z.2.2.2.2) k (x2, p0_parts, p0_partStart, p0_partEnd, p1_depth)
set_option maxRecDepth 100000 in
set_option maxHeartbeats 4000000 in
theorem wl_X7_partAll_X5_24 (S : CallFix p m c cX7_partAll 6 s args wsX7_partAll RX7) (hK : K_ D vwCl [(cI, .int), (cZ, .boolean)] s) (hA : ∀ q, s.heap.size ≤ q → A q) {F : Nat} {n_p0_partStart : Nat} {n_p0_partEnd : Nat} {n_p0_best : Nat} {p0_best : Nat → Int32} {n_p0_weightBefore : Nat} {p0_weightBefore : Nat → Int32} {p1_size : Int32} {n_p1_symbol : Nat} {p1_symbol : Nat → Int32} {n_p1_weight : Nat} {p1_weight : Nat → Int32} {n_p1_depth : Nat} {n_p1_line : Nat} {p1_line : Nat → Int32} {h_p0 h_p1 h_p0_partStart h_p0_partEnd h_p0_best h_p0_weightBefore h_p1_symbol h_p1_weight h_p1_depth h_p1_line : Nat} {r : Int32 × (Nat → Int32) × (Nat → Int32) × (Nat → Int32)} {Wp : va_W → Prop} (hend : ∀ (w1 : va_W) (pc : Nat) (lv : List (Nat × Value)), Wp w1 → decode cX7_partAll pc = .ok (.return_, 1) → X_ p l e ({ frames := 3, cells := 0, slots := 0, locals := 66 } : Room) s m args below meth c Q D vwCl A 6 0 0 w1 lv pc []) (hWp : Wp (W_X5_X3 cI cZ h_p0 h_p0_partStart h_p0_partEnd h_p0_best h_p0_weightBefore h_p1 h_p1_symbol h_p1_weight h_p1_depth h_p1_line r.1 n_p0_partStart r.2.1 n_p0_partEnd r.2.2.1 n_p0_best p0_best n_p0_weightBefore p0_weightBefore p1_size n_p1_symbol p1_symbol n_p1_weight p1_weight n_p1_depth r.2.2.2 n_p1_line p1_line))   (k : Nat) : ∀ (x2 : Int32) (p0_parts : Int32) (p0_partStart : Nat → Int32) (p0_partEnd : Nat → Int32) (p1_depth : Nat → Int32), lf_X7_partAll_X5_24 F n_p0_partStart n_p0_partEnd n_p0_best p0_best p1_size n_p1_depth n_p1_line p1_line k x2 p0_parts p0_partStart p0_partEnd p1_depth = some r → X_ p l e ({ frames := 3, cells := 0, slots := 0, locals := 66 } : Room) s m args below meth c Q D vwCl A 6 0 0 (W_X5_X3 cI cZ h_p0 h_p0_partStart h_p0_partEnd h_p0_best h_p0_weightBefore h_p1 h_p1_symbol h_p1_weight h_p1_depth h_p1_line p0_parts n_p0_partStart p0_partStart n_p0_partEnd p0_partEnd n_p0_best p0_best n_p0_weightBefore p0_weightBefore p1_size n_p1_symbol p1_symbol n_p1_weight p1_weight n_p1_depth p1_depth n_p1_line p1_line) [(0, .ref h_p0), (1, .ref h_p1), (2, .int x2)] 24 [] := by
  intro x2 p0_parts p0_partStart p0_partEnd p1_depth h
  exact lp_W (P := fun z => X_ p l e ({ frames := 3, cells := 0, slots := 0, locals := 66 } : Room) s m args below meth c Q D vwCl A 6 0 0 (W_X5_X3 cI cZ h_p0 h_p0_partStart h_p0_partEnd h_p0_best h_p0_weightBefore h_p1 h_p1_symbol h_p1_weight h_p1_depth h_p1_line z.2.1 n_p0_partStart z.2.2.1 n_p0_partEnd z.2.2.2.1 n_p0_best p0_best n_p0_weightBefore p0_weightBefore p1_size n_p1_symbol p1_symbol n_p1_weight p1_weight n_p1_depth z.2.2.2.2 n_p1_line p1_line) [(0, .ref h_p0), (1, .ref h_p1), (2, .int z.1)] 24 []) (fun rec ih z hz => w_X7_partAll_X5_24 S hK hA hend hWp (fun x2 p0_parts p0_partStart p0_partEnd p1_depth hh => ih (x2, p0_parts, p0_partStart, p0_partEnd, p1_depth) hh)  z.1 z.2.1 z.2.2.1 z.2.2.2.1 z.2.2.2.2 hz) k (x2, p0_parts, p0_partStart, p0_partEnd, p1_depth) h 
noncomputable def bf_X7_partAll_X5_0 (F : Nat) (n_p0_partStart : Nat) (n_p0_partEnd : Nat) (n_p0_best : Nat) (p0_best : Nat → Int32) (p1_size : Int32) (n_p1_depth : Nat) (n_p1_line : Nat) (p1_line : Nat → Int32)  (p0_parts : Int32) (p0_partStart : Nat → Int32) (p0_partEnd : Nat → Int32) (p1_depth : Nat → Int32) : Option (Int32 × (Nat → Int32) × (Nat → Int32) × (Nat → Int32)) :=
  ((fn_J7_fill_53178 F n_p1_depth p1_depth (0 : Int32)).bind fun v5 => ((fn_X7_addPart_X5 F n_p0_partStart n_p0_partEnd (0 : Int32) p0_partStart p0_partEnd (0 : Int32) p1_size).bind fun v19 => lf_X7_partAll_X5_24 F n_p0_partStart n_p0_partEnd n_p0_best p0_best p1_size n_p1_depth n_p1_line p1_line F (0 : Int32) v19.1 v19.2.1 v19.2.2 v5))
set_option maxRecDepth 100000 in
set_option maxHeartbeats 4000000 in
theorem w_X7_partAll_X5_0 (S : CallFix p m c cX7_partAll 6 s args wsX7_partAll RX7) (hK : K_ D vwCl [(cI, .int), (cZ, .boolean)] s) (hA : ∀ q, s.heap.size ≤ q → A q) {F : Nat} {n_p0_partStart : Nat} {n_p0_partEnd : Nat} {n_p0_best : Nat} {p0_best : Nat → Int32} {n_p0_weightBefore : Nat} {p0_weightBefore : Nat → Int32} {p1_size : Int32} {n_p1_symbol : Nat} {p1_symbol : Nat → Int32} {n_p1_weight : Nat} {p1_weight : Nat → Int32} {n_p1_depth : Nat} {n_p1_line : Nat} {p1_line : Nat → Int32} {h_p0 h_p1 h_p0_partStart h_p0_partEnd h_p0_best h_p0_weightBefore h_p1_symbol h_p1_weight h_p1_depth h_p1_line : Nat} {r : Int32 × (Nat → Int32) × (Nat → Int32) × (Nat → Int32)} {Wp : va_W → Prop} (hend : ∀ (w1 : va_W) (pc : Nat) (lv : List (Nat × Value)), Wp w1 → decode cX7_partAll pc = .ok (.return_, 1) → X_ p l e ({ frames := 3, cells := 0, slots := 0, locals := 66 } : Room) s m args below meth c Q D vwCl A 6 0 0 w1 lv pc []) (hWp : Wp (W_X5_X3 cI cZ h_p0 h_p0_partStart h_p0_partEnd h_p0_best h_p0_weightBefore h_p1 h_p1_symbol h_p1_weight h_p1_depth h_p1_line r.1 n_p0_partStart r.2.1 n_p0_partEnd r.2.2.1 n_p0_best p0_best n_p0_weightBefore p0_weightBefore p1_size n_p1_symbol p1_symbol n_p1_weight p1_weight n_p1_depth r.2.2.2 n_p1_line p1_line))   : ∀ (p0_parts : Int32) (p0_partStart : Nat → Int32) (p0_partEnd : Nat → Int32) (p1_depth : Nat → Int32), bf_X7_partAll_X5_0 F n_p0_partStart n_p0_partEnd n_p0_best p0_best p1_size n_p1_depth n_p1_line p1_line p0_parts p0_partStart p0_partEnd p1_depth = some r → X_ p l e ({ frames := 3, cells := 0, slots := 0, locals := 66 } : Room) s m args below meth c Q D vwCl A 6 0 0 (W_X5_X3 cI cZ h_p0 h_p0_partStart h_p0_partEnd h_p0_best h_p0_weightBefore h_p1 h_p1_symbol h_p1_weight h_p1_depth h_p1_line p0_parts n_p0_partStart p0_partStart n_p0_partEnd p0_partEnd n_p0_best p0_best n_p0_weightBefore p0_weightBefore p1_size n_p1_symbol p1_symbol n_p1_weight p1_weight n_p1_depth p1_depth n_p1_line p1_line) [(0, .ref h_p0), (1, .ref h_p1)] 0 [] := by
  intro p0_parts p0_partStart p0_partEnd p1_depth h
  unfold bf_X7_partAll_X5_0 at h
  refine x_aload_n S dX7_partAll_0 rfl 1 rfl ?_
  refine x_getN S hK i_X7_partAll_X3 5 rfl rfl 2 (by decide) nf_X7_16 rfl rfl dX7_partAll_1 ?_
  refine x_iconst (v := 0) S dX7_partAll_4 (by decide) ?_
  obtain ⟨v5, h5, h⟩ := gbind h
  refine x_callSv S hK hA (c_J7_fill_53178 l D cI cZ F h_p1_depth n_p1_depth p1_depth (0 : Int32) v5 h5) (va_cwS 2 S.2.2.2.2 gX7_partAll_J7_fill_53178 rfl rfl rfl (by decide +kernel) ⟨(Nat.le_of_ble_eq_true rfl), (Nat.le_of_ble_eq_true rfl)⟩) [8] [0, 1, 2, 3, 4, 5, 6, 7, 9] rfl (by decide) rfl (by decide) (by decide) rfl (Nat.le_of_ble_eq_true rfl) rfl dX7_partAll_5 ⟨(Nat.le_of_ble_eq_true rfl), (Nat.le_of_ble_eq_true rfl)⟩ (fun w1 hw1 => ?_)
  subst hw1
  refine x_ws (ws' := (W_X5_X3 cI cZ h_p0 h_p0_partStart h_p0_partEnd h_p0_best h_p0_weightBefore h_p1 h_p1_symbol h_p1_weight h_p1_depth h_p1_line p0_parts n_p0_partStart p0_partStart n_p0_partEnd p0_partEnd n_p0_best p0_best n_p0_weightBefore p0_weightBefore p1_size n_p1_symbol p1_symbol n_p1_weight p1_weight n_p1_depth v5 n_p1_line p1_line)) [0, 1, 2, 3, 4, 5, 6, 7, 9, 8] (by decide) (by rfl) ?_
  refine x_aload_n S dX7_partAll_8 rfl 0 rfl ?_
  refine x_iconst (v := 0) S dX7_partAll_9 (by decide) ?_
  refine x_put (ty := .int) S hK i_X7_partAll_X5 tyX5 tyX5_ok nmX5 0 rfl rfl 2 (by decide) k_X7_partAll_27 rfl rfl (by decide +kernel) rfl rfl (Nat.le_of_ble_eq_true rfl) dX7_partAll_10 rfl ?_
  refine x_aload_n S dX7_partAll_13 rfl 0 rfl ?_
  refine x_iconst (v := 0) S dX7_partAll_14 (by decide) ?_
  refine x_aload_n S dX7_partAll_15 rfl 1 rfl ?_
  refine x_getN S hK i_X7_partAll_X3 5 rfl rfl 4 (by decide) nf_X7_31 rfl rfl dX7_partAll_16 ?_
  obtain ⟨v19, h19, h⟩ := gbind h
  refine x_callUv S hK hA (c_X7_addPart_X5 l D cI cZ F h_p0 h_p0_partStart h_p0_partEnd h_p0_best h_p0_weightBefore (0 : Int32) n_p0_partStart p0_partStart n_p0_partEnd p0_partEnd n_p0_best p0_best n_p0_weightBefore p0_weightBefore (0 : Int32) p1_size v19 h19) (va_cwU 2 S.2.2.2.2 gX7_partAll_X7_addPart_u34X5 rfl rfl rfl rfl (by decide +kernel) ⟨(Nat.le_of_ble_eq_true rfl), (Nat.le_of_ble_eq_true rfl)⟩) [0, 1, 2, 3, 4] [5, 6, 7, 8, 9] rfl (by decide) rfl (by decide) (by decide) 0 5 rfl rfl rfl (Nat.le_of_ble_eq_true rfl) rfl dX7_partAll_19 ⟨(Nat.le_of_ble_eq_true rfl), (Nat.le_of_ble_eq_true rfl)⟩ (fun w1 hw1 => ?_)
  subst hw1
  refine x_ws (ws' := (W_X5_X3 cI cZ h_p0 h_p0_partStart h_p0_partEnd h_p0_best h_p0_weightBefore h_p1 h_p1_symbol h_p1_weight h_p1_depth h_p1_line v19.1 n_p0_partStart v19.2.1 n_p0_partEnd v19.2.2 n_p0_best p0_best n_p0_weightBefore p0_weightBefore p1_size n_p1_symbol p1_symbol n_p1_weight p1_weight n_p1_depth v5 n_p1_line p1_line)) [5, 6, 7, 8, 9, 0, 1, 2, 3, 4] (by decide) (by rfl) ?_
  refine x_iconst (v := 0) S dX7_partAll_22 (by decide) ?_
  refine x_istore_n (lv' := [(2, .int (0 : Int32)), (0, .ref h_p0), (1, .ref h_p1)]) S dX7_partAll_23 rfl (by decide) rfl ?_
  refine x_lv [1, 2, 0] (by rfl) ?_
  exact wl_X7_partAll_X5_24 S hK hA hend hWp  F (0 : Int32) v19.1 v19.2.1 v19.2.2 v5 h
noncomputable def fn_X7_partAll_X5 (F : Nat) (n_p0_partStart : Nat) (n_p0_partEnd : Nat) (n_p0_best : Nat) (p0_best : Nat → Int32) (p1_size : Int32) (n_p1_depth : Nat) (n_p1_line : Nat) (p1_line : Nat → Int32) (p0_parts : Int32) (p0_partStart : Nat → Int32) (p0_partEnd : Nat → Int32) (p1_depth : Nat → Int32)  : Option (Int32 × (Nat → Int32) × (Nat → Int32) × (Nat → Int32)) :=
  bf_X7_partAll_X5_0 F n_p0_partStart n_p0_partEnd n_p0_best p0_best p1_size n_p1_depth n_p1_line p1_line p0_parts p0_partStart p0_partEnd p1_depth
set_option maxRecDepth 100000 in
set_option maxHeartbeats 4000000 in
theorem c_X7_partAll_X5 (l : Launch) (D : va_G) (cI cZ : ClassId) (F : Nat) (h_p0 h_p0_partStart h_p0_partEnd h_p0_best h_p0_weightBefore h_p1 h_p1_symbol h_p1_weight h_p1_depth h_p1_line : Nat) (p0_parts : Int32) (n_p0_partStart : Nat) (p0_partStart : Nat → Int32) (n_p0_partEnd : Nat) (p0_partEnd : Nat → Int32) (n_p0_best : Nat) (p0_best : Nat → Int32) (n_p0_weightBefore : Nat) (p0_weightBefore : Nat → Int32) (p1_size : Int32) (n_p1_symbol : Nat) (p1_symbol : Nat → Int32) (n_p1_weight : Nat) (p1_weight : Nat → Int32) (n_p1_depth : Nat) (p1_depth : Nat → Int32) (n_p1_line : Nat) (p1_line : Nat → Int32)  (r : Int32 × (Nat → Int32) × (Nat → Int32) × (Nat → Int32)) (h : fn_X7_partAll_X5 F n_p0_partStart n_p0_partEnd n_p0_best p0_best p1_size n_p1_depth n_p1_line p1_line p0_parts p0_partStart p0_partEnd p1_depth = some r) : Cv l yX7_partAll wsX7_partAll ({ frames := 3, cells := 0, slots := 0, locals := 66 } : Room) D vwCl [(cI, .int), (cZ, .boolean)] [.ref h_p0, .ref h_p1] (W_X5_X3 cI cZ h_p0 h_p0_partStart h_p0_partEnd h_p0_best h_p0_weightBefore h_p1 h_p1_symbol h_p1_weight h_p1_depth h_p1_line p0_parts n_p0_partStart p0_partStart n_p0_partEnd p0_partEnd n_p0_best p0_best n_p0_weightBefore p0_weightBefore p1_size n_p1_symbol p1_symbol n_p1_weight p1_weight n_p1_depth p1_depth n_p1_line p1_line) (fun w => w = (W_X5_X3 cI cZ h_p0 h_p0_partStart h_p0_partEnd h_p0_best h_p0_weightBefore h_p1 h_p1_symbol h_p1_weight h_p1_depth h_p1_line r.1 n_p0_partStart r.2.1 n_p0_partEnd r.2.2.1 n_p0_best p0_best n_p0_weightBefore p0_weightBefore p1_size n_p1_symbol p1_symbol n_p1_weight p1_weight n_p1_depth r.2.2.2 n_p1_line p1_line)) 0 0 :=
  Cv.ofv (by decide) rfl (Nat.le_of_ble_eq_true rfl) (fun p e s m args below meth c Q A S hK hA hname hend => w_X7_partAll_X5_0 S hK hA hend rfl p0_parts p0_partStart p0_partEnd p1_depth h)
end

/-! ===== PrefixSmith$Ordered.measure(LPrefixSmith$Leaves;)V ===== -/
theorem i_X5_measure_X5 : ∀ w ∈ u_ws RX5 TX5 5, w ∈ wsX5_measure := by decide +kernel
theorem k_X5_measure_13 : Cond.fieldLink RX5 13 "PrefixSmith$Ordered" "weightBefore" "[I" ∈ wsX5_measure := by decide +kernel
theorem i_X5_measure_X3 : ∀ w ∈ u_ws RX3 TX3 5, w ∈ wsX5_measure := by decide +kernel
theorem k_X5_measure_7 : Cond.fieldLink RX5 7 "PrefixSmith$Ordered" "best" "[I" ∈ wsX5_measure := by decide +kernel
section
variable {p : Program} {l : Launch} {e : Env} {s : State} {m : MethodId} {args : Array Value} {below : List Frame} {meth : Method} {c : Code} {Q : State → Prop} {D : va_G} {A : Nat → Prop} {cI cZ : ClassId}
noncomputable def bf_X5_measure_57 (F : Nat) (n_p0_partStart : Nat) (n_p0_partEnd : Nat) (n_p0_best : Nat) (n_p0_weightBefore : Nat) (p1_size : Int32) (n_p1_weight : Nat) (p1_weight : Nat → Int32) (n_p1_depth : Nat) (n_p1_line : Nat) (rec13 : Int32 → Int32 → (Nat → Int32) → (Nat → Int32) → (Nat → Int32) → (Nat → Int32) → (Nat → Int32) → (Nat → Int32) → Option (Int32 × (Nat → Int32) × (Nat → Int32) × (Nat → Int32) × (Nat → Int32) × (Nat → Int32) × (Nat → Int32))) (rec57 : Int32 → Int32 → Int32 → (Nat → Int32) → (Nat → Int32) → (Nat → Int32) → (Nat → Int32) → (Nat → Int32) → (Nat → Int32) → Option (Int32 × (Nat → Int32) × (Nat → Int32) × (Nat → Int32) × (Nat → Int32) × (Nat → Int32) × (Nat → Int32))) (x2 : Int32) (x3 : Int32) (p0_parts : Int32) (p0_partStart : Nat → Int32) (p0_partEnd : Nat → Int32) (p0_best : Nat → Int32) (p0_weightBefore : Nat → Int32) (p1_depth : Nat → Int32) (p1_line : Nat → Int32) : Option (Int32 × (Nat → Int32) × (Nat → Int32) × (Nat → Int32) × (Nat → Int32) × (Nat → Int32) × (Nat → Int32)) :=
  (if x3 < 0 then rec13 (x2 + (1 : Int32)) p0_parts p0_partStart p0_partEnd p0_best p0_weightBefore p1_depth p1_line else ((fn_X5_spot F x3 x2).bind fun v67 => ((fn_X5_leastOf F n_p0_best p0_best n_p0_weightBefore p0_weightBefore x3 x2).bind fun v73 => (if v67 < 0 ∨ n_p0_best ≤ (v67).toNatClampNeg then none else rec57 x2 (x3 + (-1 : Int32)) p0_parts p0_partStart p0_partEnd (upd p0_best (v67).toNatClampNeg v73) p0_weightBefore p1_depth p1_line))))
set_option maxRecDepth 100000 in
set_option maxHeartbeats 4000000 in
theorem w_X5_measure_57 (S : CallFix p m c cX5_measure 4 s args wsX5_measure RX5) (hK : K_ D vwCl [(cI, .int), (cZ, .boolean)] s) (hA : ∀ q, s.heap.size ≤ q → A q) {F : Nat} {n_p0_partStart : Nat} {n_p0_partEnd : Nat} {n_p0_best : Nat} {n_p0_weightBefore : Nat} {p1_size : Int32} {n_p1_symbol : Nat} {p1_symbol : Nat → Int32} {n_p1_weight : Nat} {p1_weight : Nat → Int32} {n_p1_depth : Nat} {n_p1_line : Nat} {h_p0 h_p1 h_p0_partStart h_p0_partEnd h_p0_best h_p0_weightBefore h_p1_symbol h_p1_weight h_p1_depth h_p1_line : Nat} {r : Int32 × (Nat → Int32) × (Nat → Int32) × (Nat → Int32) × (Nat → Int32) × (Nat → Int32) × (Nat → Int32)} {Wp : va_W → Prop} (hend : ∀ (w1 : va_W) (pc : Nat) (lv : List (Nat × Value)), Wp w1 → decode cX5_measure pc = .ok (.return_, 1) → X_ p l e ({ frames := 4, cells := 0, slots := 0, locals := 91 } : Room) s m args below meth c Q D vwCl A 4 0 0 w1 lv pc []) (hWp : Wp (W_X5_X3 cI cZ h_p0 h_p0_partStart h_p0_partEnd h_p0_best h_p0_weightBefore h_p1 h_p1_symbol h_p1_weight h_p1_depth h_p1_line r.1 n_p0_partStart r.2.1 n_p0_partEnd r.2.2.1 n_p0_best r.2.2.2.1 n_p0_weightBefore r.2.2.2.2.1 p1_size n_p1_symbol p1_symbol n_p1_weight p1_weight n_p1_depth r.2.2.2.2.2.1 n_p1_line r.2.2.2.2.2.2)) {rec13 : Int32 → Int32 → (Nat → Int32) → (Nat → Int32) → (Nat → Int32) → (Nat → Int32) → (Nat → Int32) → (Nat → Int32) → Option (Int32 × (Nat → Int32) × (Nat → Int32) × (Nat → Int32) × (Nat → Int32) × (Nat → Int32) × (Nat → Int32))} {rec57 : Int32 → Int32 → Int32 → (Nat → Int32) → (Nat → Int32) → (Nat → Int32) → (Nat → Int32) → (Nat → Int32) → (Nat → Int32) → Option (Int32 × (Nat → Int32) × (Nat → Int32) × (Nat → Int32) × (Nat → Int32) × (Nat → Int32) × (Nat → Int32))} (hrec13 : ∀ (x2 : Int32) (p0_parts : Int32) (p0_partStart : Nat → Int32) (p0_partEnd : Nat → Int32) (p0_best : Nat → Int32) (p0_weightBefore : Nat → Int32) (p1_depth : Nat → Int32) (p1_line : Nat → Int32), rec13 x2 p0_parts p0_partStart p0_partEnd p0_best p0_weightBefore p1_depth p1_line = some r → X_ p l e ({ frames := 4, cells := 0, slots := 0, locals := 91 } : Room) s m args below meth c Q D vwCl A 4 0 0 (W_X5_X3 cI cZ h_p0 h_p0_partStart h_p0_partEnd h_p0_best h_p0_weightBefore h_p1 h_p1_symbol h_p1_weight h_p1_depth h_p1_line p0_parts n_p0_partStart p0_partStart n_p0_partEnd p0_partEnd n_p0_best p0_best n_p0_weightBefore p0_weightBefore p1_size n_p1_symbol p1_symbol n_p1_weight p1_weight n_p1_depth p1_depth n_p1_line p1_line) [(0, .ref h_p0), (1, .ref h_p1), (2, .int x2)] 13 []) (hrec57 : ∀ (x2 : Int32) (x3 : Int32) (p0_parts : Int32) (p0_partStart : Nat → Int32) (p0_partEnd : Nat → Int32) (p0_best : Nat → Int32) (p0_weightBefore : Nat → Int32) (p1_depth : Nat → Int32) (p1_line : Nat → Int32), rec57 x2 x3 p0_parts p0_partStart p0_partEnd p0_best p0_weightBefore p1_depth p1_line = some r → X_ p l e ({ frames := 4, cells := 0, slots := 0, locals := 91 } : Room) s m args below meth c Q D vwCl A 4 0 0 (W_X5_X3 cI cZ h_p0 h_p0_partStart h_p0_partEnd h_p0_best h_p0_weightBefore h_p1 h_p1_symbol h_p1_weight h_p1_depth h_p1_line p0_parts n_p0_partStart p0_partStart n_p0_partEnd p0_partEnd n_p0_best p0_best n_p0_weightBefore p0_weightBefore p1_size n_p1_symbol p1_symbol n_p1_weight p1_weight n_p1_depth p1_depth n_p1_line p1_line) [(0, .ref h_p0), (1, .ref h_p1), (2, .int x2), (3, .int x3)] 57 []) : ∀ (x2 : Int32) (x3 : Int32) (p0_parts : Int32) (p0_partStart : Nat → Int32) (p0_partEnd : Nat → Int32) (p0_best : Nat → Int32) (p0_weightBefore : Nat → Int32) (p1_depth : Nat → Int32) (p1_line : Nat → Int32), bf_X5_measure_57 F n_p0_partStart n_p0_partEnd n_p0_best n_p0_weightBefore p1_size n_p1_weight p1_weight n_p1_depth n_p1_line rec13 rec57 x2 x3 p0_parts p0_partStart p0_partEnd p0_best p0_weightBefore p1_depth p1_line = some r → X_ p l e ({ frames := 4, cells := 0, slots := 0, locals := 91 } : Room) s m args below meth c Q D vwCl A 4 0 0 (W_X5_X3 cI cZ h_p0 h_p0_partStart h_p0_partEnd h_p0_best h_p0_weightBefore h_p1 h_p1_symbol h_p1_weight h_p1_depth h_p1_line p0_parts n_p0_partStart p0_partStart n_p0_partEnd p0_partEnd n_p0_best p0_best n_p0_weightBefore p0_weightBefore p1_size n_p1_symbol p1_symbol n_p1_weight p1_weight n_p1_depth p1_depth n_p1_line p1_line) [(0, .ref h_p0), (1, .ref h_p1), (2, .int x2), (3, .int x3)] 57 [] := by
  intro x2 x3 p0_parts p0_partStart p0_partEnd p0_best p0_weightBefore p1_depth p1_line h
  unfold bf_X5_measure_57 at h
  refine x_iload_n S dX5_measure_57 rfl 3 rfl ?_
  refine x_if_lt S 83 dX5_measure_58 (by decide) h (fun h => ?_) (fun h => ?_)
  · refine x_iinc (v := x2 + (1 : Int32)) (lv' := [(2, .int (x2 + (1 : Int32))), (0, .ref h_p0), (1, .ref h_p1), (3, .int x3)]) S dX5_measure_83 2 rfl rfl (by decide) rfl ?_
    refine x_goto S 13 dX5_measure_86 (by decide) ?_
    refine x_lv [1, 2, 0] (by rfl) ?_
    exact hrec13 (x2 + (1 : Int32)) p0_parts p0_partStart p0_partEnd p0_best p0_weightBefore p1_depth p1_line h
  · refine x_aload_n S dX5_measure_61 rfl 0 rfl ?_
    refine x_get S hK i_X5_measure_X5 0 rfl rfl 3 (by decide) k_X5_measure_7 rfl rfl dX5_measure_62 ?_
    refine x_iload_n S dX5_measure_65 rfl 3 rfl ?_
    refine x_iload_n S dX5_measure_66 rfl 2 rfl ?_
    obtain ⟨v67, h67, h⟩ := gbind h
    refine x_callSi S hK hA (c_X5_spot l D cI cZ F   x3 x2 v67 h67) (va_cwS 2 S.2.2.2.2 gX5_measure_X5_spot rfl rfl rfl (by decide +kernel) ⟨(Nat.le_of_ble_eq_true rfl), (Nat.le_of_ble_eq_true rfl)⟩) [] [0, 1, 2, 3, 4, 5, 6, 7, 8, 9] rfl (by decide) rfl (by decide) (by decide) rfl (Nat.le_of_ble_eq_true rfl) rfl dX5_measure_67 ⟨(Nat.le_of_ble_eq_true rfl), (Nat.le_of_ble_eq_true rfl)⟩ (fun w1 hw1 => ?_)
    subst hw1
    refine x_ws (ws' := (W_X5_X3 cI cZ h_p0 h_p0_partStart h_p0_partEnd h_p0_best h_p0_weightBefore h_p1 h_p1_symbol h_p1_weight h_p1_depth h_p1_line p0_parts n_p0_partStart p0_partStart n_p0_partEnd p0_partEnd n_p0_best p0_best n_p0_weightBefore p0_weightBefore p1_size n_p1_symbol p1_symbol n_p1_weight p1_weight n_p1_depth p1_depth n_p1_line p1_line)) [0, 1, 2, 3, 4, 5, 6, 7, 8, 9] (by decide) (by rfl) ?_
    refine x_aload_n S dX5_measure_70 rfl 0 rfl ?_
    refine x_iload_n S dX5_measure_71 rfl 3 rfl ?_
    refine x_iload_n S dX5_measure_72 rfl 2 rfl ?_
    obtain ⟨v73, h73, h⟩ := gbind h
    refine x_callVi S hK hA (c_X5_leastOf l D cI cZ F h_p0 h_p0_partStart h_p0_partEnd h_p0_best h_p0_weightBefore p0_parts n_p0_partStart p0_partStart n_p0_partEnd p0_partEnd n_p0_best p0_best n_p0_weightBefore p0_weightBefore x3 x2 v73 h73) (cwV 2 S.2.2.2.2 gX5_measure_X5_leastOf rfl rfl rfl (by decide +kernel) ⟨(Nat.le_of_ble_eq_true rfl), (Nat.le_of_ble_eq_true rfl)⟩) [0, 1, 2, 3, 4] [5, 6, 7, 8, 9] rfl (by decide) rfl (by decide) (by decide) 0 5 rfl rfl rfl (Nat.le_of_ble_eq_true rfl) rfl dX5_measure_73 ⟨(Nat.le_of_ble_eq_true rfl), (Nat.le_of_ble_eq_true rfl)⟩ (fun w1 hw1 => ?_)
    subst hw1
    refine x_ws (ws' := (W_X5_X3 cI cZ h_p0 h_p0_partStart h_p0_partEnd h_p0_best h_p0_weightBefore h_p1 h_p1_symbol h_p1_weight h_p1_depth h_p1_line p0_parts n_p0_partStart p0_partStart n_p0_partEnd p0_partEnd n_p0_best p0_best n_p0_weightBefore p0_weightBefore p1_size n_p1_symbol p1_symbol n_p1_weight p1_weight n_p1_depth p1_depth n_p1_line p1_line)) [5, 6, 7, 8, 9, 0, 1, 2, 3, 4] (by decide) (by rfl) ?_
    refine x_iast S hK 3 0 rfl rfl dX5_measure_76 h rfl (fun h => ?_)
    refine x_iinc (v := x3 + (-1 : Int32)) (lv' := [(3, .int (x3 + (-1 : Int32))), (0, .ref h_p0), (1, .ref h_p1), (2, .int x2)]) S dX5_measure_77 3 rfl rfl (by decide) rfl ?_
    refine x_goto S 57 dX5_measure_80 (by decide) ?_
    refine x_lv [1, 2, 3, 0] (by rfl) ?_
    exact hrec57 x2 (x3 + (-1 : Int32)) p0_parts p0_partStart p0_partEnd (upd p0_best (v67).toNatClampNeg v73) p0_weightBefore p1_depth p1_line h
noncomputable def lf_X5_measure_57 (F : Nat) (n_p0_partStart : Nat) (n_p0_partEnd : Nat) (n_p0_best : Nat) (n_p0_weightBefore : Nat) (p1_size : Int32) (n_p1_weight : Nat) (p1_weight : Nat → Int32) (n_p1_depth : Nat) (n_p1_line : Nat) (rec13 : Int32 → Int32 → (Nat → Int32) → (Nat → Int32) → (Nat → Int32) → (Nat → Int32) → (Nat → Int32) → (Nat → Int32) → Option (Int32 × (Nat → Int32) × (Nat → Int32) × (Nat → Int32) × (Nat → Int32) × (Nat → Int32) × (Nat → Int32))) (k : Nat) (x2 : Int32) (x3 : Int32) (p0_parts : Int32) (p0_partStart : Nat → Int32) (p0_partEnd : Nat → Int32) (p0_best : Nat → Int32) (p0_weightBefore : Nat → Int32) (p1_depth : Nat → Int32) (p1_line : Nat → Int32) : Option (Int32 × (Nat → Int32) × (Nat → Int32) × (Nat → Int32) × (Nat → Int32) × (Nat → Int32) × (Nat → Int32)) :=
  lp (fun (rec : Int32 × Int32 × Int32 × (Nat → Int32) × (Nat → Int32) × (Nat → Int32) × (Nat → Int32) × (Nat → Int32) × (Nat → Int32) → Option (Int32 × (Nat → Int32) × (Nat → Int32) × (Nat → Int32) × (Nat → Int32) × (Nat → Int32) × (Nat → Int32))) (z : Int32 × Int32 × Int32 × (Nat → Int32) × (Nat → Int32) × (Nat → Int32) × (Nat → Int32) × (Nat → Int32) × (Nat → Int32)) => bf_X5_measure_57 F n_p0_partStart n_p0_partEnd n_p0_best n_p0_weightBefore p1_size n_p1_weight p1_weight n_p1_depth n_p1_line rec13 (fun x2 x3 p0_parts p0_partStart p0_partEnd p0_best p0_weightBefore p1_depth p1_line => rec (x2, x3, p0_parts, p0_partStart, p0_partEnd, p0_best, p0_weightBefore, p1_depth, p1_line)) z.1 z.2.1 z.2.2.1 z.2.2.2.1 z.2.2.2.2.1 z.2.2.2.2.2.1 z.2.2.2.2.2.2.1 z.2.2.2.2.2.2.2.1 z.2.2.2.2.2.2.2.2) k (x2, x3, p0_parts, p0_partStart, p0_partEnd, p0_best, p0_weightBefore, p1_depth, p1_line)
set_option maxRecDepth 100000 in
set_option maxHeartbeats 4000000 in
theorem wl_X5_measure_57 (S : CallFix p m c cX5_measure 4 s args wsX5_measure RX5) (hK : K_ D vwCl [(cI, .int), (cZ, .boolean)] s) (hA : ∀ q, s.heap.size ≤ q → A q) {F : Nat} {n_p0_partStart : Nat} {n_p0_partEnd : Nat} {n_p0_best : Nat} {n_p0_weightBefore : Nat} {p1_size : Int32} {n_p1_symbol : Nat} {p1_symbol : Nat → Int32} {n_p1_weight : Nat} {p1_weight : Nat → Int32} {n_p1_depth : Nat} {n_p1_line : Nat} {h_p0 h_p1 h_p0_partStart h_p0_partEnd h_p0_best h_p0_weightBefore h_p1_symbol h_p1_weight h_p1_depth h_p1_line : Nat} {r : Int32 × (Nat → Int32) × (Nat → Int32) × (Nat → Int32) × (Nat → Int32) × (Nat → Int32) × (Nat → Int32)} {Wp : va_W → Prop} (hend : ∀ (w1 : va_W) (pc : Nat) (lv : List (Nat × Value)), Wp w1 → decode cX5_measure pc = .ok (.return_, 1) → X_ p l e ({ frames := 4, cells := 0, slots := 0, locals := 91 } : Room) s m args below meth c Q D vwCl A 4 0 0 w1 lv pc []) (hWp : Wp (W_X5_X3 cI cZ h_p0 h_p0_partStart h_p0_partEnd h_p0_best h_p0_weightBefore h_p1 h_p1_symbol h_p1_weight h_p1_depth h_p1_line r.1 n_p0_partStart r.2.1 n_p0_partEnd r.2.2.1 n_p0_best r.2.2.2.1 n_p0_weightBefore r.2.2.2.2.1 p1_size n_p1_symbol p1_symbol n_p1_weight p1_weight n_p1_depth r.2.2.2.2.2.1 n_p1_line r.2.2.2.2.2.2)) {rec13 : Int32 → Int32 → (Nat → Int32) → (Nat → Int32) → (Nat → Int32) → (Nat → Int32) → (Nat → Int32) → (Nat → Int32) → Option (Int32 × (Nat → Int32) × (Nat → Int32) × (Nat → Int32) × (Nat → Int32) × (Nat → Int32) × (Nat → Int32))} (hrec13 : ∀ (x2 : Int32) (p0_parts : Int32) (p0_partStart : Nat → Int32) (p0_partEnd : Nat → Int32) (p0_best : Nat → Int32) (p0_weightBefore : Nat → Int32) (p1_depth : Nat → Int32) (p1_line : Nat → Int32), rec13 x2 p0_parts p0_partStart p0_partEnd p0_best p0_weightBefore p1_depth p1_line = some r → X_ p l e ({ frames := 4, cells := 0, slots := 0, locals := 91 } : Room) s m args below meth c Q D vwCl A 4 0 0 (W_X5_X3 cI cZ h_p0 h_p0_partStart h_p0_partEnd h_p0_best h_p0_weightBefore h_p1 h_p1_symbol h_p1_weight h_p1_depth h_p1_line p0_parts n_p0_partStart p0_partStart n_p0_partEnd p0_partEnd n_p0_best p0_best n_p0_weightBefore p0_weightBefore p1_size n_p1_symbol p1_symbol n_p1_weight p1_weight n_p1_depth p1_depth n_p1_line p1_line) [(0, .ref h_p0), (1, .ref h_p1), (2, .int x2)] 13 []) (k : Nat) : ∀ (x2 : Int32) (x3 : Int32) (p0_parts : Int32) (p0_partStart : Nat → Int32) (p0_partEnd : Nat → Int32) (p0_best : Nat → Int32) (p0_weightBefore : Nat → Int32) (p1_depth : Nat → Int32) (p1_line : Nat → Int32), lf_X5_measure_57 F n_p0_partStart n_p0_partEnd n_p0_best n_p0_weightBefore p1_size n_p1_weight p1_weight n_p1_depth n_p1_line rec13 k x2 x3 p0_parts p0_partStart p0_partEnd p0_best p0_weightBefore p1_depth p1_line = some r → X_ p l e ({ frames := 4, cells := 0, slots := 0, locals := 91 } : Room) s m args below meth c Q D vwCl A 4 0 0 (W_X5_X3 cI cZ h_p0 h_p0_partStart h_p0_partEnd h_p0_best h_p0_weightBefore h_p1 h_p1_symbol h_p1_weight h_p1_depth h_p1_line p0_parts n_p0_partStart p0_partStart n_p0_partEnd p0_partEnd n_p0_best p0_best n_p0_weightBefore p0_weightBefore p1_size n_p1_symbol p1_symbol n_p1_weight p1_weight n_p1_depth p1_depth n_p1_line p1_line) [(0, .ref h_p0), (1, .ref h_p1), (2, .int x2), (3, .int x3)] 57 [] := by
  intro x2 x3 p0_parts p0_partStart p0_partEnd p0_best p0_weightBefore p1_depth p1_line h
  exact lp_W (P := fun z => X_ p l e ({ frames := 4, cells := 0, slots := 0, locals := 91 } : Room) s m args below meth c Q D vwCl A 4 0 0 (W_X5_X3 cI cZ h_p0 h_p0_partStart h_p0_partEnd h_p0_best h_p0_weightBefore h_p1 h_p1_symbol h_p1_weight h_p1_depth h_p1_line z.2.2.1 n_p0_partStart z.2.2.2.1 n_p0_partEnd z.2.2.2.2.1 n_p0_best z.2.2.2.2.2.1 n_p0_weightBefore z.2.2.2.2.2.2.1 p1_size n_p1_symbol p1_symbol n_p1_weight p1_weight n_p1_depth z.2.2.2.2.2.2.2.1 n_p1_line z.2.2.2.2.2.2.2.2) [(0, .ref h_p0), (1, .ref h_p1), (2, .int z.1), (3, .int z.2.1)] 57 []) (fun rec ih z hz => w_X5_measure_57 S hK hA hend hWp hrec13 (fun x2 x3 p0_parts p0_partStart p0_partEnd p0_best p0_weightBefore p1_depth p1_line hh => ih (x2, x3, p0_parts, p0_partStart, p0_partEnd, p0_best, p0_weightBefore, p1_depth, p1_line) hh)  z.1 z.2.1 z.2.2.1 z.2.2.2.1 z.2.2.2.2.1 z.2.2.2.2.2.1 z.2.2.2.2.2.2.1 z.2.2.2.2.2.2.2.1 z.2.2.2.2.2.2.2.2 hz) k (x2, x3, p0_parts, p0_partStart, p0_partEnd, p0_best, p0_weightBefore, p1_depth, p1_line) h 
noncomputable def bf_X5_measure_13 (F : Nat) (n_p0_partStart : Nat) (n_p0_partEnd : Nat) (n_p0_best : Nat) (n_p0_weightBefore : Nat) (p1_size : Int32) (n_p1_weight : Nat) (p1_weight : Nat → Int32) (n_p1_depth : Nat) (n_p1_line : Nat) (rec13 : Int32 → Int32 → (Nat → Int32) → (Nat → Int32) → (Nat → Int32) → (Nat → Int32) → (Nat → Int32) → (Nat → Int32) → Option (Int32 × (Nat → Int32) × (Nat → Int32) × (Nat → Int32) × (Nat → Int32) × (Nat → Int32) × (Nat → Int32))) (x2 : Int32) (p0_parts : Int32) (p0_partStart : Nat → Int32) (p0_partEnd : Nat → Int32) (p0_best : Nat → Int32) (p0_weightBefore : Nat → Int32) (p1_depth : Nat → Int32) (p1_line : Nat → Int32) : Option (Int32 × (Nat → Int32) × (Nat → Int32) × (Nat → Int32) × (Nat → Int32) × (Nat → Int32) × (Nat → Int32)) :=
  (if p1_size ≤ x2 then ((fn_X7_partAll_X5 F n_p0_partStart n_p0_partEnd n_p0_best p0_best p1_size n_p1_depth n_p1_line p1_line p0_parts p0_partStart p0_partEnd p1_depth).bind fun v91 => some (v91.1, v91.2.1, v91.2.2.1, p0_best, p0_weightBefore, v91.2.2.2, p1_line)) else (if x2 < 0 ∨ n_p0_weightBefore ≤ (x2).toNatClampNeg then none else (if x2 < 0 ∨ n_p1_weight ≤ (x2).toNatClampNeg then none else (if (x2 + (1 : Int32)) < 0 ∨ n_p0_weightBefore ≤ ((x2 + (1 : Int32))).toNatClampNeg then none else ((fn_X5_spot F x2 x2).bind fun v48 => (if v48 < 0 ∨ n_p0_best ≤ (v48).toNatClampNeg then none else lf_X5_measure_57 F n_p0_partStart n_p0_partEnd n_p0_best n_p0_weightBefore p1_size n_p1_weight p1_weight n_p1_depth n_p1_line rec13 F x2 (x2 - (1 : Int32)) p0_parts p0_partStart p0_partEnd (upd p0_best (v48).toNatClampNeg x2) (upd p0_weightBefore ((x2 + (1 : Int32))).toNatClampNeg ((p0_weightBefore (x2).toNatClampNeg) + (p1_weight (x2).toNatClampNeg))) p1_depth p1_line))))))
set_option maxRecDepth 100000 in
set_option maxHeartbeats 4000000 in
theorem w_X5_measure_13 (S : CallFix p m c cX5_measure 4 s args wsX5_measure RX5) (hK : K_ D vwCl [(cI, .int), (cZ, .boolean)] s) (hA : ∀ q, s.heap.size ≤ q → A q) {F : Nat} {n_p0_partStart : Nat} {n_p0_partEnd : Nat} {n_p0_best : Nat} {n_p0_weightBefore : Nat} {p1_size : Int32} {n_p1_symbol : Nat} {p1_symbol : Nat → Int32} {n_p1_weight : Nat} {p1_weight : Nat → Int32} {n_p1_depth : Nat} {n_p1_line : Nat} {h_p0 h_p1 h_p0_partStart h_p0_partEnd h_p0_best h_p0_weightBefore h_p1_symbol h_p1_weight h_p1_depth h_p1_line : Nat} {r : Int32 × (Nat → Int32) × (Nat → Int32) × (Nat → Int32) × (Nat → Int32) × (Nat → Int32) × (Nat → Int32)} {Wp : va_W → Prop} (hend : ∀ (w1 : va_W) (pc : Nat) (lv : List (Nat × Value)), Wp w1 → decode cX5_measure pc = .ok (.return_, 1) → X_ p l e ({ frames := 4, cells := 0, slots := 0, locals := 91 } : Room) s m args below meth c Q D vwCl A 4 0 0 w1 lv pc []) (hWp : Wp (W_X5_X3 cI cZ h_p0 h_p0_partStart h_p0_partEnd h_p0_best h_p0_weightBefore h_p1 h_p1_symbol h_p1_weight h_p1_depth h_p1_line r.1 n_p0_partStart r.2.1 n_p0_partEnd r.2.2.1 n_p0_best r.2.2.2.1 n_p0_weightBefore r.2.2.2.2.1 p1_size n_p1_symbol p1_symbol n_p1_weight p1_weight n_p1_depth r.2.2.2.2.2.1 n_p1_line r.2.2.2.2.2.2)) {rec13 : Int32 → Int32 → (Nat → Int32) → (Nat → Int32) → (Nat → Int32) → (Nat → Int32) → (Nat → Int32) → (Nat → Int32) → Option (Int32 × (Nat → Int32) × (Nat → Int32) × (Nat → Int32) × (Nat → Int32) × (Nat → Int32) × (Nat → Int32))} (hrec13 : ∀ (x2 : Int32) (p0_parts : Int32) (p0_partStart : Nat → Int32) (p0_partEnd : Nat → Int32) (p0_best : Nat → Int32) (p0_weightBefore : Nat → Int32) (p1_depth : Nat → Int32) (p1_line : Nat → Int32), rec13 x2 p0_parts p0_partStart p0_partEnd p0_best p0_weightBefore p1_depth p1_line = some r → X_ p l e ({ frames := 4, cells := 0, slots := 0, locals := 91 } : Room) s m args below meth c Q D vwCl A 4 0 0 (W_X5_X3 cI cZ h_p0 h_p0_partStart h_p0_partEnd h_p0_best h_p0_weightBefore h_p1 h_p1_symbol h_p1_weight h_p1_depth h_p1_line p0_parts n_p0_partStart p0_partStart n_p0_partEnd p0_partEnd n_p0_best p0_best n_p0_weightBefore p0_weightBefore p1_size n_p1_symbol p1_symbol n_p1_weight p1_weight n_p1_depth p1_depth n_p1_line p1_line) [(0, .ref h_p0), (1, .ref h_p1), (2, .int x2)] 13 []) : ∀ (x2 : Int32) (p0_parts : Int32) (p0_partStart : Nat → Int32) (p0_partEnd : Nat → Int32) (p0_best : Nat → Int32) (p0_weightBefore : Nat → Int32) (p1_depth : Nat → Int32) (p1_line : Nat → Int32), bf_X5_measure_13 F n_p0_partStart n_p0_partEnd n_p0_best n_p0_weightBefore p1_size n_p1_weight p1_weight n_p1_depth n_p1_line rec13 x2 p0_parts p0_partStart p0_partEnd p0_best p0_weightBefore p1_depth p1_line = some r → X_ p l e ({ frames := 4, cells := 0, slots := 0, locals := 91 } : Room) s m args below meth c Q D vwCl A 4 0 0 (W_X5_X3 cI cZ h_p0 h_p0_partStart h_p0_partEnd h_p0_best h_p0_weightBefore h_p1 h_p1_symbol h_p1_weight h_p1_depth h_p1_line p0_parts n_p0_partStart p0_partStart n_p0_partEnd p0_partEnd n_p0_best p0_best n_p0_weightBefore p0_weightBefore p1_size n_p1_symbol p1_symbol n_p1_weight p1_weight n_p1_depth p1_depth n_p1_line p1_line) [(0, .ref h_p0), (1, .ref h_p1), (2, .int x2)] 13 [] := by
  intro x2 p0_parts p0_partStart p0_partEnd p0_best p0_weightBefore p1_depth p1_line h
  unfold bf_X5_measure_13 at h
  refine x_iload_n S dX5_measure_13 rfl 2 rfl ?_
  refine x_aload_n S dX5_measure_14 rfl 1 rfl ?_
  refine x_getN S hK i_X5_measure_X3 5 rfl rfl 4 (by decide) nf_X5_22 rfl rfl dX5_measure_15 ?_
  refine x_icmp_ge S 89 dX5_measure_18 (by decide) h (fun h => ?_) (fun h => ?_)
  · refine x_aload_n S dX5_measure_89 rfl 0 rfl ?_
    refine x_aload_n S dX5_measure_90 rfl 1 rfl ?_
    obtain ⟨v91, h91, h⟩ := gbind h
    refine x_callUv S hK hA (c_X7_partAll_X5 l D cI cZ F h_p0 h_p0_partStart h_p0_partEnd h_p0_best h_p0_weightBefore h_p1 h_p1_symbol h_p1_weight h_p1_depth h_p1_line p0_parts n_p0_partStart p0_partStart n_p0_partEnd p0_partEnd n_p0_best p0_best n_p0_weightBefore p0_weightBefore p1_size n_p1_symbol p1_symbol n_p1_weight p1_weight n_p1_depth p1_depth n_p1_line p1_line  v91 h91) (va_cwU 1 S.2.2.2.2 gX5_measure_X7_partAll_u36X5 rfl rfl rfl rfl (by decide +kernel) ⟨(Nat.le_of_ble_eq_true rfl), (Nat.le_of_ble_eq_true rfl)⟩) [0, 1, 2, 3, 4, 5, 6, 7, 8, 9] [] rfl (by decide) rfl (by decide) (by decide) 0 5 rfl rfl rfl (Nat.le_of_ble_eq_true rfl) rfl dX5_measure_91 ⟨(Nat.le_of_ble_eq_true rfl), (Nat.le_of_ble_eq_true rfl)⟩ (fun w1 hw1 => ?_)
    subst hw1
    refine x_ws (ws' := (W_X5_X3 cI cZ h_p0 h_p0_partStart h_p0_partEnd h_p0_best h_p0_weightBefore h_p1 h_p1_symbol h_p1_weight h_p1_depth h_p1_line v91.1 n_p0_partStart v91.2.1 n_p0_partEnd v91.2.2.1 n_p0_best p0_best n_p0_weightBefore p0_weightBefore p1_size n_p1_symbol p1_symbol n_p1_weight p1_weight n_p1_depth v91.2.2.2 n_p1_line p1_line)) [0, 1, 2, 3, 4, 5, 6, 7, 8, 9] (by decide) (by rfl) ?_
    obtain rfl := Option.some.inj h
    exact hend _ _ _ hWp dX5_measure_94
  · refine x_aload_n S dX5_measure_21 rfl 0 rfl ?_
    refine x_get S hK i_X5_measure_X5 0 rfl rfl 4 (by decide) k_X5_measure_13 rfl rfl dX5_measure_22 ?_
    refine x_iload_n S dX5_measure_25 rfl 2 rfl ?_
    refine x_iconst (v := 1) S dX5_measure_26 (by decide) ?_
    refine x_iadd S dX5_measure_27 ?_
    refine x_aload_n S dX5_measure_28 rfl 0 rfl ?_
    refine x_get S hK i_X5_measure_X5 0 rfl rfl 4 (by decide) k_X5_measure_13 rfl rfl dX5_measure_29 ?_
    refine x_iload_n S dX5_measure_32 rfl 2 rfl ?_
    refine x_iald S hK 4 0 rfl rfl dX5_measure_33 h (fun h => ?_)
    refine x_aload_n S dX5_measure_34 rfl 1 rfl ?_
    refine x_getN S hK i_X5_measure_X3 5 rfl rfl 1 (by decide) nf_X5_26 rfl rfl dX5_measure_35 ?_
    refine x_iload_n S dX5_measure_38 rfl 2 rfl ?_
    refine x_iald S hK 7 0 rfl rfl dX5_measure_39 h (fun h => ?_)
    refine x_iadd S dX5_measure_40 ?_
    refine x_iast S hK 4 0 rfl rfl dX5_measure_41 h rfl (fun h => ?_)
    refine x_aload_n S dX5_measure_42 rfl 0 rfl ?_
    refine x_get S hK i_X5_measure_X5 0 rfl rfl 3 (by decide) k_X5_measure_7 rfl rfl dX5_measure_43 ?_
    refine x_iload_n S dX5_measure_46 rfl 2 rfl ?_
    refine x_iload_n S dX5_measure_47 rfl 2 rfl ?_
    obtain ⟨v48, h48, h⟩ := gbind h
    refine x_callSi S hK hA (c_X5_spot l D cI cZ F   x2 x2 v48 h48) (va_cwS 2 S.2.2.2.2 gX5_measure_X5_spot rfl rfl rfl (by decide +kernel) ⟨(Nat.le_of_ble_eq_true rfl), (Nat.le_of_ble_eq_true rfl)⟩) [] [0, 1, 2, 3, 4, 5, 6, 7, 8, 9] rfl (by decide) rfl (by decide) (by decide) rfl (Nat.le_of_ble_eq_true rfl) rfl dX5_measure_48 ⟨(Nat.le_of_ble_eq_true rfl), (Nat.le_of_ble_eq_true rfl)⟩ (fun w1 hw1 => ?_)
    subst hw1
    refine x_ws (ws' := (W_X5_X3 cI cZ h_p0 h_p0_partStart h_p0_partEnd h_p0_best h_p0_weightBefore h_p1 h_p1_symbol h_p1_weight h_p1_depth h_p1_line p0_parts n_p0_partStart p0_partStart n_p0_partEnd p0_partEnd n_p0_best p0_best n_p0_weightBefore (upd p0_weightBefore ((x2 + (1 : Int32))).toNatClampNeg ((p0_weightBefore (x2).toNatClampNeg) + (p1_weight (x2).toNatClampNeg))) p1_size n_p1_symbol p1_symbol n_p1_weight p1_weight n_p1_depth p1_depth n_p1_line p1_line)) [0, 1, 2, 3, 4, 5, 6, 7, 8, 9] (by decide) (by rfl) ?_
    refine x_iload_n S dX5_measure_51 rfl 2 rfl ?_
    refine x_iast S hK 3 0 rfl rfl dX5_measure_52 h rfl (fun h => ?_)
    refine x_iload_n S dX5_measure_53 rfl 2 rfl ?_
    refine x_iconst (v := 1) S dX5_measure_54 (by decide) ?_
    refine x_isub S dX5_measure_55 ?_
    refine x_istore_n (lv' := [(3, .int (x2 - (1 : Int32))), (0, .ref h_p0), (1, .ref h_p1), (2, .int x2)]) S dX5_measure_56 rfl (by decide) rfl ?_
    refine x_lv [1, 2, 3, 0] (by rfl) ?_
    exact wl_X5_measure_57 S hK hA hend hWp hrec13 F x2 (x2 - (1 : Int32)) p0_parts p0_partStart p0_partEnd (upd p0_best (v48).toNatClampNeg x2) (upd p0_weightBefore ((x2 + (1 : Int32))).toNatClampNeg ((p0_weightBefore (x2).toNatClampNeg) + (p1_weight (x2).toNatClampNeg))) p1_depth p1_line h
noncomputable def lf_X5_measure_13 (F : Nat) (n_p0_partStart : Nat) (n_p0_partEnd : Nat) (n_p0_best : Nat) (n_p0_weightBefore : Nat) (p1_size : Int32) (n_p1_weight : Nat) (p1_weight : Nat → Int32) (n_p1_depth : Nat) (n_p1_line : Nat)  (k : Nat) (x2 : Int32) (p0_parts : Int32) (p0_partStart : Nat → Int32) (p0_partEnd : Nat → Int32) (p0_best : Nat → Int32) (p0_weightBefore : Nat → Int32) (p1_depth : Nat → Int32) (p1_line : Nat → Int32) : Option (Int32 × (Nat → Int32) × (Nat → Int32) × (Nat → Int32) × (Nat → Int32) × (Nat → Int32) × (Nat → Int32)) :=
  lp (fun (rec : Int32 × Int32 × (Nat → Int32) × (Nat → Int32) × (Nat → Int32) × (Nat → Int32) × (Nat → Int32) × (Nat → Int32) → Option (Int32 × (Nat → Int32) × (Nat → Int32) × (Nat → Int32) × (Nat → Int32) × (Nat → Int32) × (Nat → Int32))) (z : Int32 × Int32 × (Nat → Int32) × (Nat → Int32) × (Nat → Int32) × (Nat → Int32) × (Nat → Int32) × (Nat → Int32)) => bf_X5_measure_13 F n_p0_partStart n_p0_partEnd n_p0_best n_p0_weightBefore p1_size n_p1_weight p1_weight n_p1_depth n_p1_line (fun x2 p0_parts p0_partStart p0_partEnd p0_best p0_weightBefore p1_depth p1_line => rec (x2, p0_parts, p0_partStart, p0_partEnd, p0_best, p0_weightBefore, p1_depth, p1_line)) z.1 z.2.1 z.2.2.1 z.2.2.2.1 z.2.2.2.2.1 z.2.2.2.2.2.1 z.2.2.2.2.2.2.1 z.2.2.2.2.2.2.2) k (x2, p0_parts, p0_partStart, p0_partEnd, p0_best, p0_weightBefore, p1_depth, p1_line)
set_option maxRecDepth 100000 in
set_option maxHeartbeats 4000000 in
theorem wl_X5_measure_13 (S : CallFix p m c cX5_measure 4 s args wsX5_measure RX5) (hK : K_ D vwCl [(cI, .int), (cZ, .boolean)] s) (hA : ∀ q, s.heap.size ≤ q → A q) {F : Nat} {n_p0_partStart : Nat} {n_p0_partEnd : Nat} {n_p0_best : Nat} {n_p0_weightBefore : Nat} {p1_size : Int32} {n_p1_symbol : Nat} {p1_symbol : Nat → Int32} {n_p1_weight : Nat} {p1_weight : Nat → Int32} {n_p1_depth : Nat} {n_p1_line : Nat} {h_p0 h_p1 h_p0_partStart h_p0_partEnd h_p0_best h_p0_weightBefore h_p1_symbol h_p1_weight h_p1_depth h_p1_line : Nat} {r : Int32 × (Nat → Int32) × (Nat → Int32) × (Nat → Int32) × (Nat → Int32) × (Nat → Int32) × (Nat → Int32)} {Wp : va_W → Prop} (hend : ∀ (w1 : va_W) (pc : Nat) (lv : List (Nat × Value)), Wp w1 → decode cX5_measure pc = .ok (.return_, 1) → X_ p l e ({ frames := 4, cells := 0, slots := 0, locals := 91 } : Room) s m args below meth c Q D vwCl A 4 0 0 w1 lv pc []) (hWp : Wp (W_X5_X3 cI cZ h_p0 h_p0_partStart h_p0_partEnd h_p0_best h_p0_weightBefore h_p1 h_p1_symbol h_p1_weight h_p1_depth h_p1_line r.1 n_p0_partStart r.2.1 n_p0_partEnd r.2.2.1 n_p0_best r.2.2.2.1 n_p0_weightBefore r.2.2.2.2.1 p1_size n_p1_symbol p1_symbol n_p1_weight p1_weight n_p1_depth r.2.2.2.2.2.1 n_p1_line r.2.2.2.2.2.2))   (k : Nat) : ∀ (x2 : Int32) (p0_parts : Int32) (p0_partStart : Nat → Int32) (p0_partEnd : Nat → Int32) (p0_best : Nat → Int32) (p0_weightBefore : Nat → Int32) (p1_depth : Nat → Int32) (p1_line : Nat → Int32), lf_X5_measure_13 F n_p0_partStart n_p0_partEnd n_p0_best n_p0_weightBefore p1_size n_p1_weight p1_weight n_p1_depth n_p1_line k x2 p0_parts p0_partStart p0_partEnd p0_best p0_weightBefore p1_depth p1_line = some r → X_ p l e ({ frames := 4, cells := 0, slots := 0, locals := 91 } : Room) s m args below meth c Q D vwCl A 4 0 0 (W_X5_X3 cI cZ h_p0 h_p0_partStart h_p0_partEnd h_p0_best h_p0_weightBefore h_p1 h_p1_symbol h_p1_weight h_p1_depth h_p1_line p0_parts n_p0_partStart p0_partStart n_p0_partEnd p0_partEnd n_p0_best p0_best n_p0_weightBefore p0_weightBefore p1_size n_p1_symbol p1_symbol n_p1_weight p1_weight n_p1_depth p1_depth n_p1_line p1_line) [(0, .ref h_p0), (1, .ref h_p1), (2, .int x2)] 13 [] := by
  intro x2 p0_parts p0_partStart p0_partEnd p0_best p0_weightBefore p1_depth p1_line h
  exact lp_W (P := fun z => X_ p l e ({ frames := 4, cells := 0, slots := 0, locals := 91 } : Room) s m args below meth c Q D vwCl A 4 0 0 (W_X5_X3 cI cZ h_p0 h_p0_partStart h_p0_partEnd h_p0_best h_p0_weightBefore h_p1 h_p1_symbol h_p1_weight h_p1_depth h_p1_line z.2.1 n_p0_partStart z.2.2.1 n_p0_partEnd z.2.2.2.1 n_p0_best z.2.2.2.2.1 n_p0_weightBefore z.2.2.2.2.2.1 p1_size n_p1_symbol p1_symbol n_p1_weight p1_weight n_p1_depth z.2.2.2.2.2.2.1 n_p1_line z.2.2.2.2.2.2.2) [(0, .ref h_p0), (1, .ref h_p1), (2, .int z.1)] 13 []) (fun rec ih z hz => w_X5_measure_13 S hK hA hend hWp (fun x2 p0_parts p0_partStart p0_partEnd p0_best p0_weightBefore p1_depth p1_line hh => ih (x2, p0_parts, p0_partStart, p0_partEnd, p0_best, p0_weightBefore, p1_depth, p1_line) hh)  z.1 z.2.1 z.2.2.1 z.2.2.2.1 z.2.2.2.2.1 z.2.2.2.2.2.1 z.2.2.2.2.2.2.1 z.2.2.2.2.2.2.2 hz) k (x2, p0_parts, p0_partStart, p0_partEnd, p0_best, p0_weightBefore, p1_depth, p1_line) h 
noncomputable def bf_X5_measure_0 (F : Nat) (n_p0_partStart : Nat) (n_p0_partEnd : Nat) (n_p0_best : Nat) (n_p0_weightBefore : Nat) (p1_size : Int32) (n_p1_weight : Nat) (p1_weight : Nat → Int32) (n_p1_depth : Nat) (n_p1_line : Nat)  (p0_parts : Int32) (p0_partStart : Nat → Int32) (p0_partEnd : Nat → Int32) (p0_best : Nat → Int32) (p0_weightBefore : Nat → Int32) (p1_depth : Nat → Int32) (p1_line : Nat → Int32) : Option (Int32 × (Nat → Int32) × (Nat → Int32) × (Nat → Int32) × (Nat → Int32) × (Nat → Int32) × (Nat → Int32)) :=
  ((fn_X3_lineUpBySymbols F p1_size n_p1_line p1_line).bind fun v1 => (if (0 : Int32) < 0 ∨ n_p0_weightBefore ≤ ((0 : Int32)).toNatClampNeg then none else lf_X5_measure_13 F n_p0_partStart n_p0_partEnd n_p0_best n_p0_weightBefore p1_size n_p1_weight p1_weight n_p1_depth n_p1_line F (0 : Int32) p0_parts p0_partStart p0_partEnd p0_best (upd p0_weightBefore ((0 : Int32)).toNatClampNeg (0 : Int32)) p1_depth v1))
set_option maxRecDepth 100000 in
set_option maxHeartbeats 4000000 in
theorem w_X5_measure_0 (S : CallFix p m c cX5_measure 4 s args wsX5_measure RX5) (hK : K_ D vwCl [(cI, .int), (cZ, .boolean)] s) (hA : ∀ q, s.heap.size ≤ q → A q) {F : Nat} {n_p0_partStart : Nat} {n_p0_partEnd : Nat} {n_p0_best : Nat} {n_p0_weightBefore : Nat} {p1_size : Int32} {n_p1_symbol : Nat} {p1_symbol : Nat → Int32} {n_p1_weight : Nat} {p1_weight : Nat → Int32} {n_p1_depth : Nat} {n_p1_line : Nat} {h_p0 h_p1 h_p0_partStart h_p0_partEnd h_p0_best h_p0_weightBefore h_p1_symbol h_p1_weight h_p1_depth h_p1_line : Nat} {r : Int32 × (Nat → Int32) × (Nat → Int32) × (Nat → Int32) × (Nat → Int32) × (Nat → Int32) × (Nat → Int32)} {Wp : va_W → Prop} (hend : ∀ (w1 : va_W) (pc : Nat) (lv : List (Nat × Value)), Wp w1 → decode cX5_measure pc = .ok (.return_, 1) → X_ p l e ({ frames := 4, cells := 0, slots := 0, locals := 91 } : Room) s m args below meth c Q D vwCl A 4 0 0 w1 lv pc []) (hWp : Wp (W_X5_X3 cI cZ h_p0 h_p0_partStart h_p0_partEnd h_p0_best h_p0_weightBefore h_p1 h_p1_symbol h_p1_weight h_p1_depth h_p1_line r.1 n_p0_partStart r.2.1 n_p0_partEnd r.2.2.1 n_p0_best r.2.2.2.1 n_p0_weightBefore r.2.2.2.2.1 p1_size n_p1_symbol p1_symbol n_p1_weight p1_weight n_p1_depth r.2.2.2.2.2.1 n_p1_line r.2.2.2.2.2.2))   : ∀ (p0_parts : Int32) (p0_partStart : Nat → Int32) (p0_partEnd : Nat → Int32) (p0_best : Nat → Int32) (p0_weightBefore : Nat → Int32) (p1_depth : Nat → Int32) (p1_line : Nat → Int32), bf_X5_measure_0 F n_p0_partStart n_p0_partEnd n_p0_best n_p0_weightBefore p1_size n_p1_weight p1_weight n_p1_depth n_p1_line p0_parts p0_partStart p0_partEnd p0_best p0_weightBefore p1_depth p1_line = some r → X_ p l e ({ frames := 4, cells := 0, slots := 0, locals := 91 } : Room) s m args below meth c Q D vwCl A 4 0 0 (W_X5_X3 cI cZ h_p0 h_p0_partStart h_p0_partEnd h_p0_best h_p0_weightBefore h_p1 h_p1_symbol h_p1_weight h_p1_depth h_p1_line p0_parts n_p0_partStart p0_partStart n_p0_partEnd p0_partEnd n_p0_best p0_best n_p0_weightBefore p0_weightBefore p1_size n_p1_symbol p1_symbol n_p1_weight p1_weight n_p1_depth p1_depth n_p1_line p1_line) [(0, .ref h_p0), (1, .ref h_p1)] 0 [] := by
  intro p0_parts p0_partStart p0_partEnd p0_best p0_weightBefore p1_depth p1_line h
  unfold bf_X5_measure_0 at h
  refine x_aload_n S dX5_measure_0 rfl 1 rfl ?_
  obtain ⟨v1, h1, h⟩ := gbind h
  refine x_callVv S hK hA (c_X3_lineUpBySymbols l D cI cZ F h_p1 h_p1_symbol h_p1_weight h_p1_depth h_p1_line p1_size n_p1_symbol p1_symbol n_p1_weight p1_weight n_p1_depth p1_depth n_p1_line p1_line  v1 h1) (cwV 0 S.2.2.2.2 gX5_measure_X3_lineUpBySymbols rfl rfl rfl (by decide +kernel) ⟨(Nat.le_of_ble_eq_true rfl), (Nat.le_of_ble_eq_true rfl)⟩) [5, 6, 7, 8, 9] [0, 1, 2, 3, 4] rfl (by decide) rfl (by decide) (by decide) 0 3 rfl rfl rfl (Nat.le_of_ble_eq_true rfl) rfl dX5_measure_1 ⟨(Nat.le_of_ble_eq_true rfl), (Nat.le_of_ble_eq_true rfl)⟩ (fun w1 hw1 => ?_)
  subst hw1
  refine x_ws (ws' := (W_X5_X3 cI cZ h_p0 h_p0_partStart h_p0_partEnd h_p0_best h_p0_weightBefore h_p1 h_p1_symbol h_p1_weight h_p1_depth h_p1_line p0_parts n_p0_partStart p0_partStart n_p0_partEnd p0_partEnd n_p0_best p0_best n_p0_weightBefore p0_weightBefore p1_size n_p1_symbol p1_symbol n_p1_weight p1_weight n_p1_depth p1_depth n_p1_line v1)) [0, 1, 2, 3, 4, 5, 6, 7, 8, 9] (by decide) (by rfl) ?_
  refine x_aload_n S dX5_measure_4 rfl 0 rfl ?_
  refine x_get S hK i_X5_measure_X5 0 rfl rfl 4 (by decide) k_X5_measure_13 rfl rfl dX5_measure_5 ?_
  refine x_iconst (v := 0) S dX5_measure_8 (by decide) ?_
  refine x_iconst (v := 0) S dX5_measure_9 (by decide) ?_
  refine x_iast S hK 4 0 rfl rfl dX5_measure_10 h rfl (fun h => ?_)
  refine x_iconst (v := 0) S dX5_measure_11 (by decide) ?_
  refine x_istore_n (lv' := [(2, .int (0 : Int32)), (0, .ref h_p0), (1, .ref h_p1)]) S dX5_measure_12 rfl (by decide) rfl ?_
  refine x_lv [1, 2, 0] (by rfl) ?_
  exact wl_X5_measure_13 S hK hA hend hWp  F (0 : Int32) p0_parts p0_partStart p0_partEnd p0_best (upd p0_weightBefore ((0 : Int32)).toNatClampNeg (0 : Int32)) p1_depth v1 h
noncomputable def fn_X5_measure (F : Nat) (n_p0_partStart : Nat) (n_p0_partEnd : Nat) (n_p0_best : Nat) (n_p0_weightBefore : Nat) (p1_size : Int32) (n_p1_weight : Nat) (p1_weight : Nat → Int32) (n_p1_depth : Nat) (n_p1_line : Nat) (p0_parts : Int32) (p0_partStart : Nat → Int32) (p0_partEnd : Nat → Int32) (p0_best : Nat → Int32) (p0_weightBefore : Nat → Int32) (p1_depth : Nat → Int32) (p1_line : Nat → Int32)  : Option (Int32 × (Nat → Int32) × (Nat → Int32) × (Nat → Int32) × (Nat → Int32) × (Nat → Int32) × (Nat → Int32)) :=
  bf_X5_measure_0 F n_p0_partStart n_p0_partEnd n_p0_best n_p0_weightBefore p1_size n_p1_weight p1_weight n_p1_depth n_p1_line p0_parts p0_partStart p0_partEnd p0_best p0_weightBefore p1_depth p1_line
set_option maxRecDepth 100000 in
set_option maxHeartbeats 4000000 in
theorem c_X5_measure (l : Launch) (D : va_G) (cI cZ : ClassId) (F : Nat) (h_p0 h_p0_partStart h_p0_partEnd h_p0_best h_p0_weightBefore h_p1 h_p1_symbol h_p1_weight h_p1_depth h_p1_line : Nat) (p0_parts : Int32) (n_p0_partStart : Nat) (p0_partStart : Nat → Int32) (n_p0_partEnd : Nat) (p0_partEnd : Nat → Int32) (n_p0_best : Nat) (p0_best : Nat → Int32) (n_p0_weightBefore : Nat) (p0_weightBefore : Nat → Int32) (p1_size : Int32) (n_p1_symbol : Nat) (p1_symbol : Nat → Int32) (n_p1_weight : Nat) (p1_weight : Nat → Int32) (n_p1_depth : Nat) (p1_depth : Nat → Int32) (n_p1_line : Nat) (p1_line : Nat → Int32)  (r : Int32 × (Nat → Int32) × (Nat → Int32) × (Nat → Int32) × (Nat → Int32) × (Nat → Int32) × (Nat → Int32)) (h : fn_X5_measure F n_p0_partStart n_p0_partEnd n_p0_best n_p0_weightBefore p1_size n_p1_weight p1_weight n_p1_depth n_p1_line p0_parts p0_partStart p0_partEnd p0_best p0_weightBefore p1_depth p1_line = some r) : Cv l yX5_measure wsX5_measure ({ frames := 4, cells := 0, slots := 0, locals := 91 } : Room) D vwCl [(cI, .int), (cZ, .boolean)] [.ref h_p0, .ref h_p1] (W_X5_X3 cI cZ h_p0 h_p0_partStart h_p0_partEnd h_p0_best h_p0_weightBefore h_p1 h_p1_symbol h_p1_weight h_p1_depth h_p1_line p0_parts n_p0_partStart p0_partStart n_p0_partEnd p0_partEnd n_p0_best p0_best n_p0_weightBefore p0_weightBefore p1_size n_p1_symbol p1_symbol n_p1_weight p1_weight n_p1_depth p1_depth n_p1_line p1_line) (fun w => w = (W_X5_X3 cI cZ h_p0 h_p0_partStart h_p0_partEnd h_p0_best h_p0_weightBefore h_p1 h_p1_symbol h_p1_weight h_p1_depth h_p1_line r.1 n_p0_partStart r.2.1 n_p0_partEnd r.2.2.1 n_p0_best r.2.2.2.1 n_p0_weightBefore r.2.2.2.2.1 p1_size n_p1_symbol p1_symbol n_p1_weight p1_weight n_p1_depth r.2.2.2.2.2.1 n_p1_line r.2.2.2.2.2.2)) 0 0 :=
  Cv.ofv (by decide) rfl (Nat.le_of_ble_eq_true rfl) (fun p e s m args below meth c Q A S hK hA hname hend => w_X5_measure_0 S hK hA hend rfl p0_parts p0_partStart p0_partEnd p0_best p0_weightBefore p1_depth p1_line h)
end
