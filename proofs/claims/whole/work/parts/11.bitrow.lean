/-! ===== PrefixSmith$BitRow.restart()V ===== -/
abbrev W_X0 (cI cZ : ClassId) (h_p0 h_p0_words : Nat) (p0_room : Int32) (p0_size : Int32) (p0_over : Int32) (n_p0_words : Nat) (p0_words : Nat → Int32) : va_W := [(h_p0, .inr (0, [.int p0_room, .ref h_p0_words, .int p0_size, .int p0_over])), (h_p0_words, .inl (cI, n_p0_words, .inl p0_words))]
theorem i_X0_restart_X0 : ∀ w ∈ u_ws RX0 TX0 4, w ∈ wsX0_restart := by decide +kernel
theorem k_X0_restart_19 : Cond.fieldLink RX0 19 "PrefixSmith$BitRow" "size" "I" ∈ wsX0_restart := by decide +kernel
theorem k_X0_restart_22 : Cond.fieldLink RX0 22 "PrefixSmith$BitRow" "over" "Z" ∈ wsX0_restart := by decide +kernel
section
variable {p : Program} {l : Launch} {e : Env} {s : State} {m : MethodId} {args : Array Value} {below : List Frame} {meth : Method} {c : Code} {Q : State → Prop} {D : va_G} {A : Nat → Prop} {cI cZ : ClassId}
noncomputable def bf_X0_restart_0 (F : Nat)   (p0_size : Int32) (p0_over : Int32) : Option (Int32 × Int32) :=
  some ((0 : Int32), (0 : Int32))
set_option maxRecDepth 100000 in
set_option maxHeartbeats 4000000 in
theorem w_X0_restart_0 (S : CallFix p m c cX0_restart 1 s args wsX0_restart RX0) (hK : K_ D vwCl [(cI, .int), (cZ, .boolean)] s) (hA : ∀ q, s.heap.size ≤ q → A q) {F : Nat} {p0_room : Int32} {n_p0_words : Nat} {p0_words : Nat → Int32} {h_p0 h_p0_words : Nat} {r : Int32 × Int32} {Wp : va_W → Prop} (hend : ∀ (w1 : va_W) (pc : Nat) (lv : List (Nat × Value)), Wp w1 → decode cX0_restart pc = .ok (.return_, 1) → X_ p l e ({ frames := 0, cells := 0, slots := 0, locals := 0 } : Room) s m args below meth c Q D vwCl A 1 0 0 w1 lv pc []) (hWp : Wp (W_X0 cI cZ h_p0 h_p0_words p0_room r.1 r.2 n_p0_words p0_words))   : ∀ (p0_size : Int32) (p0_over : Int32), bf_X0_restart_0 F p0_size p0_over = some r → X_ p l e ({ frames := 0, cells := 0, slots := 0, locals := 0 } : Room) s m args below meth c Q D vwCl A 1 0 0 (W_X0 cI cZ h_p0 h_p0_words p0_room p0_size p0_over n_p0_words p0_words) [(0, .ref h_p0)] 0 [] := by
  intro p0_size p0_over h
  unfold bf_X0_restart_0 at h
  refine x_aload_n S dX0_restart_0 rfl 0 rfl ?_
  refine x_iconst (v := 0) S dX0_restart_1 (by decide) ?_
  refine x_put (ty := .int) S hK i_X0_restart_X0 tyX0 tyX0_ok nmX0 0 rfl rfl 2 (by decide) k_X0_restart_19 rfl rfl (by decide +kernel) rfl rfl (Nat.le_of_ble_eq_true rfl) dX0_restart_2 rfl ?_
  refine x_aload_n S dX0_restart_5 rfl 0 rfl ?_
  refine x_iconst (v := 0) S dX0_restart_6 (by decide) ?_
  refine x_put (ty := .boolean) S hK i_X0_restart_X0 tyX0 tyX0_ok nmX0 0 rfl rfl 3 (by decide) k_X0_restart_22 rfl rfl (by decide +kernel) (by decide) (by decide) (Nat.le_of_ble_eq_true rfl) dX0_restart_7 rfl ?_
  obtain rfl := Option.some.inj h
  exact hend _ _ _ hWp dX0_restart_10
noncomputable def fn_X0_restart (F : Nat) (p0_size : Int32) (p0_over : Int32)  : Option (Int32 × Int32) :=
  bf_X0_restart_0 F p0_size p0_over
set_option maxRecDepth 100000 in
set_option maxHeartbeats 4000000 in
theorem c_X0_restart (l : Launch) (D : va_G) (cI cZ : ClassId) (F : Nat) (h_p0 h_p0_words : Nat) (p0_room : Int32) (p0_size : Int32) (p0_over : Int32) (n_p0_words : Nat) (p0_words : Nat → Int32)  (r : Int32 × Int32) (h : fn_X0_restart F p0_size p0_over = some r) : Cv l yX0_restart wsX0_restart ({ frames := 0, cells := 0, slots := 0, locals := 0 } : Room) D vwCl [(cI, .int), (cZ, .boolean)] [.ref h_p0] (W_X0 cI cZ h_p0 h_p0_words p0_room p0_size p0_over n_p0_words p0_words) (fun w => w = (W_X0 cI cZ h_p0 h_p0_words p0_room r.1 r.2 n_p0_words p0_words)) 0 0 :=
  Cv.ofv (by decide) rfl (Nat.le_of_ble_eq_true rfl) (fun p e s m args below meth c Q A S hK hA hname hend => w_X0_restart_0 S hK hA hend rfl p0_size p0_over h)
end

/-! ===== PrefixSmith$BitRow.get(I)I ===== -/
theorem i_X0_get_X0 : ∀ w ∈ u_ws RX0 TX0 4, w ∈ wsX0_get := by decide +kernel
theorem k_X0_get_19 : Cond.fieldLink RX0 19 "PrefixSmith$BitRow" "size" "I" ∈ wsX0_get := by decide +kernel
theorem k_X0_get_15 : Cond.fieldLink RX0 15 "PrefixSmith$BitRow" "words" "[I" ∈ wsX0_get := by decide +kernel
section
variable {p : Program} {l : Launch} {e : Env} {s : State} {m : MethodId} {args : Array Value} {below : List Frame} {meth : Method} {c : Code} {Q : State → Prop} {D : va_G} {A : Nat → Prop} {cI cZ : ClassId}
noncomputable def bf_X0_get_0 (F : Nat) (p0_size : Int32) (n_p0_words : Nat) (p0_words : Nat → Int32)  (x1 : Int32) : Option (Int32) :=
  (if x1 < 0 then some ((-1 : Int32)) else (if p0_size ≤ x1 then some ((-1 : Int32)) else (if (x1 >>> ((5 : Int32) &&& 31)) < 0 ∨ n_p0_words ≤ ((x1 >>> ((5 : Int32) &&& 31))).toNatClampNeg then none else some (((((p0_words ((x1 >>> ((5 : Int32) &&& 31))).toNatClampNeg)).toUInt32 >>> (((x1 &&& (31 : Int32))).toUInt32 &&& Int32.toUInt32 31)).toInt32) &&& (1 : Int32)))))
set_option maxRecDepth 100000 in
set_option maxHeartbeats 4000000 in
theorem w_X0_get_0 (S : CallFix p m c cX0_get 2 s args wsX0_get RX0) (hK : K_ D vwCl [(cI, .int), (cZ, .boolean)] s) (hA : ∀ q, s.heap.size ≤ q → A q) {F : Nat} {p0_room : Int32} {p0_size : Int32} {p0_over : Int32} {n_p0_words : Nat} {p0_words : Nat → Int32} {h_p0 h_p0_words : Nat} {r : Int32} {Wp : va_W → Prop} (hend : ∀ (w1 : va_W) (pc : Nat) (lv : List (Nat × Value)), Wp w1 → decode cX0_get pc = .ok (.ireturn, 1) → X_ p l e ({ frames := 0, cells := 0, slots := 0, locals := 0 } : Room) s m args below meth c Q D vwCl A 2 0 0 w1 lv pc [.int r]) (hWp : Wp (W_X0 cI cZ h_p0 h_p0_words p0_room p0_size p0_over n_p0_words p0_words))   : ∀ (x1 : Int32), bf_X0_get_0 F p0_size n_p0_words p0_words x1 = some r → X_ p l e ({ frames := 0, cells := 0, slots := 0, locals := 0 } : Room) s m args below meth c Q D vwCl A 2 0 0 (W_X0 cI cZ h_p0 h_p0_words p0_room p0_size p0_over n_p0_words p0_words) [(0, .ref h_p0), (1, .int x1)] 0 [] := by
  intro x1 h
  unfold bf_X0_get_0 at h
  refine x_iload_n S dX0_get_0 rfl 1 rfl ?_
  refine x_if_lt S 30 dX0_get_1 (by decide) h (fun h => ?_) (fun h => ?_)
  · refine x_iconst (v := -1) S dX0_get_30 (by decide) ?_
    obtain rfl := Option.some.inj h
    exact hend _ _ _ hWp dX0_get_31
  · refine x_iload_n S dX0_get_4 rfl 1 rfl ?_
    refine x_aload_n S dX0_get_5 rfl 0 rfl ?_
    refine x_get S hK i_X0_get_X0 0 rfl rfl 2 (by decide) k_X0_get_19 rfl rfl dX0_get_6 ?_
    refine x_icmp_ge S 30 dX0_get_9 (by decide) h (fun h => ?_) (fun h => ?_)
    · refine x_iconst (v := -1) S dX0_get_30 (by decide) ?_
      obtain rfl := Option.some.inj h
      exact hend _ _ _ hWp dX0_get_31
    · refine x_aload_n S dX0_get_12 rfl 0 rfl ?_
      refine x_get S hK i_X0_get_X0 0 rfl rfl 1 (by decide) k_X0_get_15 rfl rfl dX0_get_13 ?_
      refine x_iload_n S dX0_get_16 rfl 1 rfl ?_
      refine x_iconst (v := 5) S dX0_get_17 (by decide) ?_
      refine x_ishr S dX0_get_18 ?_
      refine x_iald S hK 1 0 rfl rfl dX0_get_19 h (fun h => ?_)
      refine x_iload_n S dX0_get_20 rfl 1 rfl ?_
      refine x_bipush (v := 31) S dX0_get_21 (by decide) ?_
      refine x_iand S dX0_get_23 ?_
      refine x_iushr S dX0_get_24 ?_
      refine x_iconst (v := 1) S dX0_get_25 (by decide) ?_
      refine x_iand S dX0_get_26 ?_
      refine x_goto S 31 dX0_get_27 (by decide) ?_
      obtain rfl := Option.some.inj h
      exact hend _ _ _ hWp dX0_get_31
noncomputable def fn_X0_get (F : Nat) (p0_size : Int32) (n_p0_words : Nat) (p0_words : Nat → Int32) (x1 : Int32) : Option (Int32) :=
  bf_X0_get_0 F p0_size n_p0_words p0_words x1
set_option maxRecDepth 100000 in
set_option maxHeartbeats 4000000 in
theorem c_X0_get (l : Launch) (D : va_G) (cI cZ : ClassId) (F : Nat) (h_p0 h_p0_words : Nat) (p0_room : Int32) (p0_size : Int32) (p0_over : Int32) (n_p0_words : Nat) (p0_words : Nat → Int32) (x1 : Int32) (r : Int32) (h : fn_X0_get F p0_size n_p0_words p0_words x1 = some r) : Ci l yX0_get wsX0_get ({ frames := 0, cells := 0, slots := 0, locals := 0 } : Room) D vwCl [(cI, .int), (cZ, .boolean)] [.ref h_p0, .int x1] (W_X0 cI cZ h_p0 h_p0_words p0_room p0_size p0_over n_p0_words p0_words) r (fun w => w = (W_X0 cI cZ h_p0 h_p0_words p0_room p0_size p0_over n_p0_words p0_words)) 0 0 :=
  Ci.ofi (by decide) rfl (Nat.le_of_ble_eq_true rfl) (fun p e s m args below meth c Q A S hK hA hname hend => w_X0_get_0 S hK hA hend rfl x1 h)
end

/-! ===== PrefixSmith$BitRow.set(II)V ===== -/
theorem i_X0_set_X0 : ∀ w ∈ u_ws RX0 TX0 4, w ∈ wsX0_set := by decide +kernel
theorem k_X0_set_19 : Cond.fieldLink RX0 19 "PrefixSmith$BitRow" "size" "I" ∈ wsX0_set := by decide +kernel
theorem k_X0_set_15 : Cond.fieldLink RX0 15 "PrefixSmith$BitRow" "words" "[I" ∈ wsX0_set := by decide +kernel
section
variable {p : Program} {l : Launch} {e : Env} {s : State} {m : MethodId} {args : Array Value} {below : List Frame} {meth : Method} {c : Code} {Q : State → Prop} {D : va_G} {A : Nat → Prop} {cI cZ : ClassId}
noncomputable def bf_X0_set_57 (F : Nat) (p0_size : Int32) (n_p0_words : Nat)  (s0 : Int32) (s1 : Int32) (p0_words : Nat → Int32) : Option ((Nat → Int32)) :=
  (if s1 < 0 ∨ n_p0_words ≤ (s1).toNatClampNeg then none else some (upd p0_words (s1).toNatClampNeg s0))
set_option maxRecDepth 100000 in
set_option maxHeartbeats 4000000 in
theorem w_X0_set_57 (S : CallFix p m c cX0_set 4 s args wsX0_set RX0) (hK : K_ D vwCl [(cI, .int), (cZ, .boolean)] s) (hA : ∀ q, s.heap.size ≤ q → A q) {F : Nat} {p0_room : Int32} {p0_size : Int32} {p0_over : Int32} {n_p0_words : Nat} {h_p0 h_p0_words : Nat} {r : (Nat → Int32)} {Wp : va_W → Prop} (hend : ∀ (w1 : va_W) (pc : Nat) (lv : List (Nat × Value)), Wp w1 → decode cX0_set pc = .ok (.return_, 1) → X_ p l e ({ frames := 0, cells := 0, slots := 0, locals := 0 } : Room) s m args below meth c Q D vwCl A 4 0 0 w1 lv pc []) (hWp : Wp (W_X0 cI cZ h_p0 h_p0_words p0_room p0_size p0_over n_p0_words r))   : ∀ (s0 : Int32) (s1 : Int32) (p0_words : Nat → Int32), bf_X0_set_57 F p0_size n_p0_words s0 s1 p0_words = some r → X_ p l e ({ frames := 0, cells := 0, slots := 0, locals := 0 } : Room) s m args below meth c Q D vwCl A 4 0 0 (W_X0 cI cZ h_p0 h_p0_words p0_room p0_size p0_over n_p0_words p0_words) [] 57 [.int s0, .int s1, .ref h_p0_words] := by
  intro s0 s1 p0_words h
  unfold bf_X0_set_57 at h
  refine x_iast S hK 1 0 rfl rfl dX0_set_57 h rfl (fun h => ?_)
  obtain rfl := Option.some.inj h
  exact hend _ _ _ hWp dX0_set_58
noncomputable def bf_X0_set_0 (F : Nat) (p0_size : Int32) (n_p0_words : Nat)  (x1 : Int32) (x2 : Int32) (p0_words : Nat → Int32) : Option ((Nat → Int32)) :=
  (if x1 < 0 then some (p0_words) else (if x1 < p0_size then (if x2 = (1 : Int32) then (if (x1 >>> ((5 : Int32) &&& 31)) < 0 ∨ n_p0_words ≤ ((x1 >>> ((5 : Int32) &&& 31))).toNatClampNeg then none else bf_X0_set_57 F p0_size n_p0_words ((p0_words ((x1 >>> ((5 : Int32) &&& 31))).toNatClampNeg) ||| ((1 : Int32) <<< ((x1 &&& (31 : Int32)) &&& 31))) (x1 >>> ((5 : Int32) &&& 31)) p0_words) else (if (x1 >>> ((5 : Int32) &&& 31)) < 0 ∨ n_p0_words ≤ ((x1 >>> ((5 : Int32) &&& 31))).toNatClampNeg then none else bf_X0_set_57 F p0_size n_p0_words ((p0_words ((x1 >>> ((5 : Int32) &&& 31))).toNatClampNeg) &&& (((1 : Int32) <<< ((x1 &&& (31 : Int32)) &&& 31)) ^^^ (-1 : Int32))) (x1 >>> ((5 : Int32) &&& 31)) p0_words)) else some (p0_words)))
set_option maxRecDepth 100000 in
set_option maxHeartbeats 4000000 in
theorem w_X0_set_0 (S : CallFix p m c cX0_set 4 s args wsX0_set RX0) (hK : K_ D vwCl [(cI, .int), (cZ, .boolean)] s) (hA : ∀ q, s.heap.size ≤ q → A q) {F : Nat} {p0_room : Int32} {p0_size : Int32} {p0_over : Int32} {n_p0_words : Nat} {h_p0 h_p0_words : Nat} {r : (Nat → Int32)} {Wp : va_W → Prop} (hend : ∀ (w1 : va_W) (pc : Nat) (lv : List (Nat × Value)), Wp w1 → decode cX0_set pc = .ok (.return_, 1) → X_ p l e ({ frames := 0, cells := 0, slots := 0, locals := 0 } : Room) s m args below meth c Q D vwCl A 4 0 0 w1 lv pc []) (hWp : Wp (W_X0 cI cZ h_p0 h_p0_words p0_room p0_size p0_over n_p0_words r))   : ∀ (x1 : Int32) (x2 : Int32) (p0_words : Nat → Int32), bf_X0_set_0 F p0_size n_p0_words x1 x2 p0_words = some r → X_ p l e ({ frames := 0, cells := 0, slots := 0, locals := 0 } : Room) s m args below meth c Q D vwCl A 4 0 0 (W_X0 cI cZ h_p0 h_p0_words p0_room p0_size p0_over n_p0_words p0_words) [(0, .ref h_p0), (1, .int x1), (2, .int x2)] 0 [] := by
  intro x1 x2 p0_words h
  unfold bf_X0_set_0 at h
  refine x_iload_n S dX0_set_0 rfl 1 rfl ?_
  refine x_if_lt S 12 dX0_set_1 (by decide) h (fun h => ?_) (fun h => ?_)
  · obtain rfl := Option.some.inj h
    exact hend _ _ _ hWp dX0_set_12
  · refine x_iload_n S dX0_set_4 rfl 1 rfl ?_
    refine x_aload_n S dX0_set_5 rfl 0 rfl ?_
    refine x_get S hK i_X0_set_X0 0 rfl rfl 2 (by decide) k_X0_set_19 rfl rfl dX0_set_6 ?_
    refine x_icmp_lt S 13 dX0_set_9 (by decide) h (fun h => ?_) (fun h => ?_)
    · refine x_iconst (v := 1) S dX0_set_13 (by decide) ?_
      refine x_iload_n S dX0_set_14 rfl 1 rfl ?_
      refine x_bipush (v := 31) S dX0_set_15 (by decide) ?_
      refine x_iand S dX0_set_17 ?_
      refine x_ishl S dX0_set_18 ?_
      refine x_istore_n (lv' := [(3, .int ((1 : Int32) <<< ((x1 &&& (31 : Int32)) &&& 31))), (0, .ref h_p0), (1, .int x1), (2, .int x2)]) S dX0_set_19 rfl (by decide) rfl ?_
      refine x_aload_n S dX0_set_20 rfl 1 rfl ?_
      refine x_get S hK i_X0_set_X0 0 rfl rfl 1 (by decide) k_X0_set_15 rfl rfl dX0_set_21 ?_
      refine x_iload_n S dX0_set_24 rfl 2 rfl ?_
      refine x_iconst (v := 5) S dX0_set_25 (by decide) ?_
      refine x_ishr S dX0_set_26 ?_
      refine x_iload_n S dX0_set_27 rfl 3 rfl ?_
      refine x_iconst (v := 1) S dX0_set_28 (by decide) ?_
      refine x_icmp_ne S 45 dX0_set_29 (by decide) h (fun h => ?_) (fun h => ?_)
      · refine x_aload_n S dX0_set_45 rfl 1 rfl ?_
        refine x_get S hK i_X0_set_X0 0 rfl rfl 1 (by decide) k_X0_set_15 rfl rfl dX0_set_46 ?_
        refine x_iload_n S dX0_set_49 rfl 2 rfl ?_
        refine x_iconst (v := 5) S dX0_set_50 (by decide) ?_
        refine x_ishr S dX0_set_51 ?_
        refine x_iald S hK 1 0 rfl rfl dX0_set_52 h (fun h => ?_)
        refine x_iload_n S dX0_set_53 rfl 0 rfl ?_
        refine x_iconst (v := -1) S dX0_set_54 (by decide) ?_
        refine x_ixor S dX0_set_55 ?_
        refine x_iand S dX0_set_56 ?_
        refine x_lv [] (by rfl) ?_
        exact w_X0_set_57 S hK hA hend hWp  ((p0_words ((x1 >>> ((5 : Int32) &&& 31))).toNatClampNeg) &&& (((1 : Int32) <<< ((x1 &&& (31 : Int32)) &&& 31)) ^^^ (-1 : Int32))) (x1 >>> ((5 : Int32) &&& 31)) p0_words h
      · refine x_aload_n S dX0_set_32 rfl 1 rfl ?_
        refine x_get S hK i_X0_set_X0 0 rfl rfl 1 (by decide) k_X0_set_15 rfl rfl dX0_set_33 ?_
        refine x_iload_n S dX0_set_36 rfl 2 rfl ?_
        refine x_iconst (v := 5) S dX0_set_37 (by decide) ?_
        refine x_ishr S dX0_set_38 ?_
        refine x_iald S hK 1 0 rfl rfl dX0_set_39 h (fun h => ?_)
        refine x_iload_n S dX0_set_40 rfl 0 rfl ?_
        refine x_ior S dX0_set_41 ?_
        refine x_goto S 57 dX0_set_42 (by decide) ?_
        refine x_lv [] (by rfl) ?_
        exact w_X0_set_57 S hK hA hend hWp  ((p0_words ((x1 >>> ((5 : Int32) &&& 31))).toNatClampNeg) ||| ((1 : Int32) <<< ((x1 &&& (31 : Int32)) &&& 31))) (x1 >>> ((5 : Int32) &&& 31)) p0_words h
    · obtain rfl := Option.some.inj h
      exact hend _ _ _ hWp dX0_set_12
noncomputable def fn_X0_set (F : Nat) (p0_size : Int32) (n_p0_words : Nat) (p0_words : Nat → Int32) (x1 : Int32) (x2 : Int32) : Option ((Nat → Int32)) :=
  bf_X0_set_0 F p0_size n_p0_words x1 x2 p0_words
set_option maxRecDepth 100000 in
set_option maxHeartbeats 4000000 in
theorem c_X0_set (l : Launch) (D : va_G) (cI cZ : ClassId) (F : Nat) (h_p0 h_p0_words : Nat) (p0_room : Int32) (p0_size : Int32) (p0_over : Int32) (n_p0_words : Nat) (p0_words : Nat → Int32) (x1 : Int32) (x2 : Int32) (r : (Nat → Int32)) (h : fn_X0_set F p0_size n_p0_words p0_words x1 x2 = some r) : Cv l yX0_set wsX0_set ({ frames := 0, cells := 0, slots := 0, locals := 0 } : Room) D vwCl [(cI, .int), (cZ, .boolean)] [.ref h_p0, .int x1, .int x2] (W_X0 cI cZ h_p0 h_p0_words p0_room p0_size p0_over n_p0_words p0_words) (fun w => w = (W_X0 cI cZ h_p0 h_p0_words p0_room p0_size p0_over n_p0_words r)) 0 0 :=
  Cv.ofv (by decide) rfl (Nat.le_of_ble_eq_true rfl) (fun p e s m args below meth c Q A S hK hA hname hend => w_X0_set_0 S hK hA hend rfl x1 x2 p0_words h)
end

/-! ===== PrefixSmith$BitRow.add(I)V ===== -/
theorem i_X0_add_X0 : ∀ w ∈ u_ws RX0 TX0 4, w ∈ wsX0_add := by decide +kernel
theorem k_X0_add_19 : Cond.fieldLink RX0 19 "PrefixSmith$BitRow" "size" "I" ∈ wsX0_add := by decide +kernel
theorem k_X0_add_9 : Cond.fieldLink RX0 9 "PrefixSmith$BitRow" "room" "I" ∈ wsX0_add := by decide +kernel
theorem k_X0_add_22 : Cond.fieldLink RX0 22 "PrefixSmith$BitRow" "over" "Z" ∈ wsX0_add := by decide +kernel
section
variable {p : Program} {l : Launch} {e : Env} {s : State} {m : MethodId} {args : Array Value} {below : List Frame} {meth : Method} {c : Code} {Q : State → Prop} {D : va_G} {A : Nat → Prop} {cI cZ : ClassId}
noncomputable def bf_X0_add_0 (F : Nat) (p0_room : Int32) (n_p0_words : Nat)  (x1 : Int32) (p0_size : Int32) (p0_over : Int32) (p0_words : Nat → Int32) : Option (Int32 × Int32 × (Nat → Int32)) :=
  (if p0_size < p0_room then ((fn_X0_set F (p0_size + (1 : Int32)) n_p0_words p0_words ((p0_size + (1 : Int32)) - (1 : Int32)) x1).bind fun v35 => some (p0_size + (1 : Int32), p0_over, v35)) else some (p0_size, (1 : Int32), p0_words))
set_option maxRecDepth 100000 in
set_option maxHeartbeats 4000000 in
theorem w_X0_add_0 (S : CallFix p m c cX0_add 2 s args wsX0_add RX0) (hK : K_ D vwCl [(cI, .int), (cZ, .boolean)] s) (hA : ∀ q, s.heap.size ≤ q → A q) {F : Nat} {p0_room : Int32} {n_p0_words : Nat} {h_p0 h_p0_words : Nat} {r : Int32 × Int32 × (Nat → Int32)} {Wp : va_W → Prop} (hend : ∀ (w1 : va_W) (pc : Nat) (lv : List (Nat × Value)), Wp w1 → decode cX0_add pc = .ok (.return_, 1) → X_ p l e ({ frames := 1, cells := 0, slots := 0, locals := 23 } : Room) s m args below meth c Q D vwCl A 2 0 0 w1 lv pc []) (hWp : Wp (W_X0 cI cZ h_p0 h_p0_words p0_room r.1 r.2.1 n_p0_words r.2.2))   : ∀ (x1 : Int32) (p0_size : Int32) (p0_over : Int32) (p0_words : Nat → Int32), bf_X0_add_0 F p0_room n_p0_words x1 p0_size p0_over p0_words = some r → X_ p l e ({ frames := 1, cells := 0, slots := 0, locals := 23 } : Room) s m args below meth c Q D vwCl A 2 0 0 (W_X0 cI cZ h_p0 h_p0_words p0_room p0_size p0_over n_p0_words p0_words) [(0, .ref h_p0), (1, .int x1)] 0 [] := by
  intro x1 p0_size p0_over p0_words h
  unfold bf_X0_add_0 at h
  refine x_aload_n S dX0_add_0 rfl 0 rfl ?_
  refine x_get S hK i_X0_add_X0 0 rfl rfl 2 (by decide) k_X0_add_19 rfl rfl dX0_add_1 ?_
  refine x_aload_n S dX0_add_4 rfl 0 rfl ?_
  refine x_get S hK i_X0_add_X0 0 rfl rfl 0 (by decide) k_X0_add_9 rfl rfl dX0_add_5 ?_
  refine x_icmp_lt S 17 dX0_add_8 (by decide) h (fun h => ?_) (fun h => ?_)
  · refine x_aload_n S dX0_add_17 rfl 0 rfl ?_
    refine x_dup S dX0_add_18 rfl ?_
    refine x_get S hK i_X0_add_X0 0 rfl rfl 2 (by decide) k_X0_add_19 rfl rfl dX0_add_19 ?_
    refine x_iconst (v := 1) S dX0_add_22 (by decide) ?_
    refine x_iadd S dX0_add_23 ?_
    refine x_put (ty := .int) S hK i_X0_add_X0 tyX0 tyX0_ok nmX0 0 rfl rfl 2 (by decide) k_X0_add_19 rfl rfl (by decide +kernel) rfl rfl (Nat.le_of_ble_eq_true rfl) dX0_add_24 rfl ?_
    refine x_aload_n S dX0_add_27 rfl 0 rfl ?_
    refine x_aload_n S dX0_add_28 rfl 0 rfl ?_
    refine x_get S hK i_X0_add_X0 0 rfl rfl 2 (by decide) k_X0_add_19 rfl rfl dX0_add_29 ?_
    refine x_iconst (v := 1) S dX0_add_32 (by decide) ?_
    refine x_isub S dX0_add_33 ?_
    refine x_iload_n S dX0_add_34 rfl 1 rfl ?_
    obtain ⟨v35, h35, h⟩ := gbind h
    refine x_callVv S hK hA (c_X0_set l D cI cZ F h_p0 h_p0_words p0_room (p0_size + (1 : Int32)) p0_over n_p0_words p0_words ((p0_size + (1 : Int32)) - (1 : Int32)) x1 v35 h35) (cwV 2 S.2.2.2.2 gX0_add_X0_set rfl rfl rfl (by decide +kernel) ⟨(Nat.le_of_ble_eq_true rfl), (Nat.le_of_ble_eq_true rfl)⟩) [0, 1] [] rfl (by decide) rfl (by decide) (by decide) 0 0 rfl rfl rfl (Nat.le_of_ble_eq_true rfl) rfl dX0_add_35 ⟨(Nat.le_of_ble_eq_true rfl), (Nat.le_of_ble_eq_true rfl)⟩ (fun w1 hw1 => ?_)
    subst hw1
    refine x_ws (ws' := (W_X0 cI cZ h_p0 h_p0_words p0_room (p0_size + (1 : Int32)) p0_over n_p0_words v35)) [0, 1] (by decide) (by rfl) ?_
    obtain rfl := Option.some.inj h
    exact hend _ _ _ hWp dX0_add_38
  · refine x_aload_n S dX0_add_11 rfl 0 rfl ?_
    refine x_iconst (v := 1) S dX0_add_12 (by decide) ?_
    refine x_put (ty := .boolean) S hK i_X0_add_X0 tyX0 tyX0_ok nmX0 0 rfl rfl 3 (by decide) k_X0_add_22 rfl rfl (by decide +kernel) (by decide) (by decide) (Nat.le_of_ble_eq_true rfl) dX0_add_13 rfl ?_
    obtain rfl := Option.some.inj h
    exact hend _ _ _ hWp dX0_add_16
noncomputable def fn_X0_add (F : Nat) (p0_room : Int32) (n_p0_words : Nat) (p0_size : Int32) (p0_over : Int32) (p0_words : Nat → Int32) (x1 : Int32) : Option (Int32 × Int32 × (Nat → Int32)) :=
  bf_X0_add_0 F p0_room n_p0_words x1 p0_size p0_over p0_words
set_option maxRecDepth 100000 in
set_option maxHeartbeats 4000000 in
theorem c_X0_add (l : Launch) (D : va_G) (cI cZ : ClassId) (F : Nat) (h_p0 h_p0_words : Nat) (p0_room : Int32) (p0_size : Int32) (p0_over : Int32) (n_p0_words : Nat) (p0_words : Nat → Int32) (x1 : Int32) (r : Int32 × Int32 × (Nat → Int32)) (h : fn_X0_add F p0_room n_p0_words p0_size p0_over p0_words x1 = some r) : Cv l yX0_add wsX0_add ({ frames := 1, cells := 0, slots := 0, locals := 23 } : Room) D vwCl [(cI, .int), (cZ, .boolean)] [.ref h_p0, .int x1] (W_X0 cI cZ h_p0 h_p0_words p0_room p0_size p0_over n_p0_words p0_words) (fun w => w = (W_X0 cI cZ h_p0 h_p0_words p0_room r.1 r.2.1 n_p0_words r.2.2)) 0 0 :=
  Cv.ofv (by decide) rfl (Nat.le_of_ble_eq_true rfl) (fun p e s m args below meth c Q A S hK hA hname hend => w_X0_add_0 S hK hA hend rfl x1 p0_size p0_over p0_words h)
end

/-! ===== PrefixSmith$BitRow.addNumber(II)V ===== -/
section
variable {p : Program} {l : Launch} {e : Env} {s : State} {m : MethodId} {args : Array Value} {below : List Frame} {meth : Method} {c : Code} {Q : State → Prop} {D : va_G} {A : Nat → Prop} {cI cZ : ClassId}
noncomputable def bf_X0_addNumber_4 (F : Nat) (p0_room : Int32) (n_p0_words : Nat) (rec4 : Int32 → Int32 → Int32 → Int32 → (Nat → Int32) → Option (Int32 × Int32 × (Nat → Int32))) (x1 : Int32) (x3 : Int32) (p0_size : Int32) (p0_over : Int32) (p0_words : Nat → Int32) : Option (Int32 × Int32 × (Nat → Int32)) :=
  (if x3 < 0 then some (p0_size, p0_over, p0_words) else ((fn_X0_add F p0_room n_p0_words p0_size p0_over p0_words ((((x1).toUInt32 >>> ((x3).toUInt32 &&& Int32.toUInt32 31)).toInt32) &&& (1 : Int32))).bind fun v14 => rec4 x1 (x3 + (-1 : Int32)) v14.1 v14.2.1 v14.2.2))
set_option maxRecDepth 100000 in
set_option maxHeartbeats 4000000 in
theorem w_X0_addNumber_4 (S : CallFix p m c cX0_addNumber 4 s args wsX0_addNumber RX0) (hK : K_ D vwCl [(cI, .int), (cZ, .boolean)] s) (hA : ∀ q, s.heap.size ≤ q → A q) {F : Nat} {p0_room : Int32} {n_p0_words : Nat} {h_p0 h_p0_words : Nat} {r : Int32 × Int32 × (Nat → Int32)} {Wp : va_W → Prop} (hend : ∀ (w1 : va_W) (pc : Nat) (lv : List (Nat × Value)), Wp w1 → decode cX0_addNumber pc = .ok (.return_, 1) → X_ p l e ({ frames := 2, cells := 0, slots := 0, locals := 44 } : Room) s m args below meth c Q D vwCl A 4 0 0 w1 lv pc []) (hWp : Wp (W_X0 cI cZ h_p0 h_p0_words p0_room r.1 r.2.1 n_p0_words r.2.2)) {rec4 : Int32 → Int32 → Int32 → Int32 → (Nat → Int32) → Option (Int32 × Int32 × (Nat → Int32))} (hrec4 : ∀ (x1 : Int32) (x3 : Int32) (p0_size : Int32) (p0_over : Int32) (p0_words : Nat → Int32), rec4 x1 x3 p0_size p0_over p0_words = some r → X_ p l e ({ frames := 2, cells := 0, slots := 0, locals := 44 } : Room) s m args below meth c Q D vwCl A 4 0 0 (W_X0 cI cZ h_p0 h_p0_words p0_room p0_size p0_over n_p0_words p0_words) [(0, .ref h_p0), (1, .int x1), (3, .int x3)] 4 []) : ∀ (x1 : Int32) (x3 : Int32) (p0_size : Int32) (p0_over : Int32) (p0_words : Nat → Int32), bf_X0_addNumber_4 F p0_room n_p0_words rec4 x1 x3 p0_size p0_over p0_words = some r → X_ p l e ({ frames := 2, cells := 0, slots := 0, locals := 44 } : Room) s m args below meth c Q D vwCl A 4 0 0 (W_X0 cI cZ h_p0 h_p0_words p0_room p0_size p0_over n_p0_words p0_words) [(0, .ref h_p0), (1, .int x1), (3, .int x3)] 4 [] := by
  intro x1 x3 p0_size p0_over p0_words h
  unfold bf_X0_addNumber_4 at h
  refine x_iload_n S dX0_addNumber_4 rfl 2 rfl ?_
  refine x_if_lt S 23 dX0_addNumber_5 (by decide) h (fun h => ?_) (fun h => ?_)
  · obtain rfl := Option.some.inj h
    exact hend _ _ _ hWp dX0_addNumber_23
  · refine x_aload_n S dX0_addNumber_8 rfl 0 rfl ?_
    refine x_iload_n S dX0_addNumber_9 rfl 1 rfl ?_
    refine x_iload_n S dX0_addNumber_10 rfl 2 rfl ?_
    refine x_iushr S dX0_addNumber_11 ?_
    refine x_iconst (v := 1) S dX0_addNumber_12 (by decide) ?_
    refine x_iand S dX0_addNumber_13 ?_
    obtain ⟨v14, h14, h⟩ := gbind h
    refine x_callVv S hK hA (c_X0_add l D cI cZ F h_p0 h_p0_words p0_room p0_size p0_over n_p0_words p0_words ((((x1).toUInt32 >>> ((x3).toUInt32 &&& Int32.toUInt32 31)).toInt32) &&& (1 : Int32)) v14 h14) (cwV 1 S.2.2.2.2 gX0_addNumber_X0_add rfl rfl rfl (by decide +kernel) ⟨(Nat.le_of_ble_eq_true rfl), (Nat.le_of_ble_eq_true rfl)⟩) [0, 1] [] rfl (by decide) rfl (by decide) (by decide) 0 0 rfl rfl rfl (Nat.le_of_ble_eq_true rfl) rfl dX0_addNumber_14 ⟨(Nat.le_of_ble_eq_true rfl), (Nat.le_of_ble_eq_true rfl)⟩ (fun w1 hw1 => ?_)
    subst hw1
    refine x_ws (ws' := (W_X0 cI cZ h_p0 h_p0_words p0_room v14.1 v14.2.1 n_p0_words v14.2.2)) [0, 1] (by decide) (by rfl) ?_
    refine x_iinc (v := x3 + (-1 : Int32)) (lv' := [(3, .int (x3 + (-1 : Int32))), (0, .ref h_p0), (1, .int x1)]) S dX0_addNumber_17 2 rfl rfl (by decide) rfl ?_
    refine x_goto S 4 dX0_addNumber_20 (by decide) ?_
    refine x_lv [1, 2, 0] (by rfl) ?_
    exact hrec4 x1 (x3 + (-1 : Int32)) v14.1 v14.2.1 v14.2.2 h
noncomputable def lf_X0_addNumber_4 (F : Nat) (p0_room : Int32) (n_p0_words : Nat)  (k : Nat) (x1 : Int32) (x3 : Int32) (p0_size : Int32) (p0_over : Int32) (p0_words : Nat → Int32) : Option (Int32 × Int32 × (Nat → Int32)) :=
  lp (fun (rec : Int32 × Int32 × Int32 × Int32 × (Nat → Int32) → Option (Int32 × Int32 × (Nat → Int32))) (z : Int32 × Int32 × Int32 × Int32 × (Nat → Int32)) => bf_X0_addNumber_4 F p0_room n_p0_words (fun x1 x3 p0_size p0_over p0_words => rec (x1, x3, p0_size, p0_over, p0_words)) z.1 z.2.1 z.2.2.1 z.2.2.2.1 z.2.2.2.2) k (x1, x3, p0_size, p0_over, p0_words)
set_option maxRecDepth 100000 in
set_option maxHeartbeats 4000000 in
theorem wl_X0_addNumber_4 (S : CallFix p m c cX0_addNumber 4 s args wsX0_addNumber RX0) (hK : K_ D vwCl [(cI, .int), (cZ, .boolean)] s) (hA : ∀ q, s.heap.size ≤ q → A q) {F : Nat} {p0_room : Int32} {n_p0_words : Nat} {h_p0 h_p0_words : Nat} {r : Int32 × Int32 × (Nat → Int32)} {Wp : va_W → Prop} (hend : ∀ (w1 : va_W) (pc : Nat) (lv : List (Nat × Value)), Wp w1 → decode cX0_addNumber pc = .ok (.return_, 1) → X_ p l e ({ frames := 2, cells := 0, slots := 0, locals := 44 } : Room) s m args below meth c Q D vwCl A 4 0 0 w1 lv pc []) (hWp : Wp (W_X0 cI cZ h_p0 h_p0_words p0_room r.1 r.2.1 n_p0_words r.2.2))   (k : Nat) : ∀ (x1 : Int32) (x3 : Int32) (p0_size : Int32) (p0_over : Int32) (p0_words : Nat → Int32), lf_X0_addNumber_4 F p0_room n_p0_words k x1 x3 p0_size p0_over p0_words = some r → X_ p l e ({ frames := 2, cells := 0, slots := 0, locals := 44 } : Room) s m args below meth c Q D vwCl A 4 0 0 (W_X0 cI cZ h_p0 h_p0_words p0_room p0_size p0_over n_p0_words p0_words) [(0, .ref h_p0), (1, .int x1), (3, .int x3)] 4 [] := by
  intro x1 x3 p0_size p0_over p0_words h
  exact lp_W (P := fun z => X_ p l e ({ frames := 2, cells := 0, slots := 0, locals := 44 } : Room) s m args below meth c Q D vwCl A 4 0 0 (W_X0 cI cZ h_p0 h_p0_words p0_room z.2.2.1 z.2.2.2.1 n_p0_words z.2.2.2.2) [(0, .ref h_p0), (1, .int z.1), (3, .int z.2.1)] 4 []) (fun rec ih z hz => w_X0_addNumber_4 S hK hA hend hWp (fun x1 x3 p0_size p0_over p0_words hh => ih (x1, x3, p0_size, p0_over, p0_words) hh)  z.1 z.2.1 z.2.2.1 z.2.2.2.1 z.2.2.2.2 hz) k (x1, x3, p0_size, p0_over, p0_words) h 
noncomputable def bf_X0_addNumber_0 (F : Nat) (p0_room : Int32) (n_p0_words : Nat)  (x1 : Int32) (x2 : Int32) (p0_size : Int32) (p0_over : Int32) (p0_words : Nat → Int32) : Option (Int32 × Int32 × (Nat → Int32)) :=
  lf_X0_addNumber_4 F p0_room n_p0_words F x1 (x2 - (1 : Int32)) p0_size p0_over p0_words
set_option maxRecDepth 100000 in
set_option maxHeartbeats 4000000 in
theorem w_X0_addNumber_0 (S : CallFix p m c cX0_addNumber 4 s args wsX0_addNumber RX0) (hK : K_ D vwCl [(cI, .int), (cZ, .boolean)] s) (hA : ∀ q, s.heap.size ≤ q → A q) {F : Nat} {p0_room : Int32} {n_p0_words : Nat} {h_p0 h_p0_words : Nat} {r : Int32 × Int32 × (Nat → Int32)} {Wp : va_W → Prop} (hend : ∀ (w1 : va_W) (pc : Nat) (lv : List (Nat × Value)), Wp w1 → decode cX0_addNumber pc = .ok (.return_, 1) → X_ p l e ({ frames := 2, cells := 0, slots := 0, locals := 44 } : Room) s m args below meth c Q D vwCl A 4 0 0 w1 lv pc []) (hWp : Wp (W_X0 cI cZ h_p0 h_p0_words p0_room r.1 r.2.1 n_p0_words r.2.2))   : ∀ (x1 : Int32) (x2 : Int32) (p0_size : Int32) (p0_over : Int32) (p0_words : Nat → Int32), bf_X0_addNumber_0 F p0_room n_p0_words x1 x2 p0_size p0_over p0_words = some r → X_ p l e ({ frames := 2, cells := 0, slots := 0, locals := 44 } : Room) s m args below meth c Q D vwCl A 4 0 0 (W_X0 cI cZ h_p0 h_p0_words p0_room p0_size p0_over n_p0_words p0_words) [(0, .ref h_p0), (1, .int x1), (2, .int x2)] 0 [] := by
  intro x1 x2 p0_size p0_over p0_words h
  unfold bf_X0_addNumber_0 at h
  refine x_iload_n S dX0_addNumber_0 rfl 2 rfl ?_
  refine x_iconst (v := 1) S dX0_addNumber_1 (by decide) ?_
  refine x_isub S dX0_addNumber_2 ?_
  refine x_istore_n (lv' := [(3, .int (x2 - (1 : Int32))), (0, .ref h_p0), (1, .int x1), (2, .int x2)]) S dX0_addNumber_3 rfl (by decide) rfl ?_
  refine x_lv [1, 2, 0] (by rfl) ?_
  exact wl_X0_addNumber_4 S hK hA hend hWp  F x1 (x2 - (1 : Int32)) p0_size p0_over p0_words h
noncomputable def fn_X0_addNumber (F : Nat) (p0_room : Int32) (n_p0_words : Nat) (p0_size : Int32) (p0_over : Int32) (p0_words : Nat → Int32) (x1 : Int32) (x2 : Int32) : Option (Int32 × Int32 × (Nat → Int32)) :=
  bf_X0_addNumber_0 F p0_room n_p0_words x1 x2 p0_size p0_over p0_words
set_option maxRecDepth 100000 in
set_option maxHeartbeats 4000000 in
theorem c_X0_addNumber (l : Launch) (D : va_G) (cI cZ : ClassId) (F : Nat) (h_p0 h_p0_words : Nat) (p0_room : Int32) (p0_size : Int32) (p0_over : Int32) (n_p0_words : Nat) (p0_words : Nat → Int32) (x1 : Int32) (x2 : Int32) (r : Int32 × Int32 × (Nat → Int32)) (h : fn_X0_addNumber F p0_room n_p0_words p0_size p0_over p0_words x1 x2 = some r) : Cv l yX0_addNumber wsX0_addNumber ({ frames := 2, cells := 0, slots := 0, locals := 44 } : Room) D vwCl [(cI, .int), (cZ, .boolean)] [.ref h_p0, .int x1, .int x2] (W_X0 cI cZ h_p0 h_p0_words p0_room p0_size p0_over n_p0_words p0_words) (fun w => w = (W_X0 cI cZ h_p0 h_p0_words p0_room r.1 r.2.1 n_p0_words r.2.2)) 0 0 :=
  Cv.ofv (by decide) rfl (Nat.le_of_ble_eq_true rfl) (fun p e s m args below meth c Q A S hK hA hname hend => w_X0_addNumber_0 S hK hA hend rfl x1 x2 p0_size p0_over p0_words h)
end
