/-! ===== PrefixSmith$Row.add(I)V ===== -/
abbrev W_X9 (cI cZ : ClassId) (h_p0 h_p0_items : Nat) (p0_size : Int32) (n_p0_items : Nat) (p0_items : Nat → Int32) : va_W := [(h_p0, .inr (8, [.ref h_p0_items, .int p0_size])), (h_p0_items, .inl (cI, n_p0_items, .inl p0_items))]
theorem i_X9_add_X9 : ∀ w ∈ u_ws RX9 TX9 2, w ∈ wsX9_add := by decide +kernel
theorem k_X9_add_15 : Cond.fieldLink RX9 15 "PrefixSmith$Row" "size" "I" ∈ wsX9_add := by decide +kernel
theorem k_X9_add_9 : Cond.fieldLink RX9 9 "PrefixSmith$Row" "items" "[I" ∈ wsX9_add := by decide +kernel
section
variable {p : Program} {l : Launch} {e : Env} {s : State} {m : MethodId} {args : Array Value} {below : List Frame} {meth : Method} {c : Code} {Q : State → Prop} {D : va_G} {A : Nat → Prop} {cI cZ : ClassId}
noncomputable def bf_X9_add_0 (F : Nat) (n_p0_items : Nat)  (x1 : Int32) (p0_size : Int32) (p0_items : Nat → Int32) : Option (Int32 × (Nat → Int32)) :=
  (if (600 : Int32) ≤ p0_size then some (p0_size, p0_items) else (if p0_size < 0 ∨ n_p0_items ≤ (p0_size).toNatClampNeg then none else some (p0_size + (1 : Int32), upd p0_items (p0_size).toNatClampNeg x1)))
set_option maxRecDepth 100000 in
set_option maxHeartbeats 4000000 in
theorem w_X9_add_0 (S : CallFix p m c cX9_add 2 s args wsX9_add RX9) (hK : K_ D vwCl [(cI, .int), (cZ, .boolean)] s) (hA : ∀ q, s.heap.size ≤ q → A q) {F : Nat} {n_p0_items : Nat} {h_p0 h_p0_items : Nat} {r : Int32 × (Nat → Int32)} {Wp : va_W → Prop} (hend : ∀ (w1 : va_W) (pc : Nat) (lv : List (Nat × Value)), Wp w1 → decode cX9_add pc = .ok (.return_, 1) → X_ p l e ({ frames := 0, cells := 0, slots := 0, locals := 0 } : Room) s m args below meth c Q D vwCl A 2 0 0 w1 lv pc []) (hWp : Wp (W_X9 cI cZ h_p0 h_p0_items r.1 n_p0_items r.2))   : ∀ (x1 : Int32) (p0_size : Int32) (p0_items : Nat → Int32), bf_X9_add_0 F n_p0_items x1 p0_size p0_items = some r → X_ p l e ({ frames := 0, cells := 0, slots := 0, locals := 0 } : Room) s m args below meth c Q D vwCl A 2 0 0 (W_X9 cI cZ h_p0 h_p0_items p0_size n_p0_items p0_items) [(0, .ref h_p0), (1, .int x1)] 0 [] := by
  intro x1 p0_size p0_items h
  unfold bf_X9_add_0 at h
  refine x_aload_n S dX9_add_0 rfl 0 rfl ?_
  refine x_get S hK i_X9_add_X9 0 rfl rfl 1 (by decide) k_X9_add_15 rfl rfl dX9_add_1 ?_
  refine x_sipush (v := 600) S dX9_add_4 (by decide) ?_
  refine x_icmp_ge S 30 dX9_add_7 (by decide) h (fun h => ?_) (fun h => ?_)
  · obtain rfl := Option.some.inj h
    exact hend _ _ _ hWp dX9_add_30
  · refine x_aload_n S dX9_add_10 rfl 0 rfl ?_
    refine x_get S hK i_X9_add_X9 0 rfl rfl 0 (by decide) k_X9_add_9 rfl rfl dX9_add_11 ?_
    refine x_aload_n S dX9_add_14 rfl 0 rfl ?_
    refine x_get S hK i_X9_add_X9 0 rfl rfl 1 (by decide) k_X9_add_15 rfl rfl dX9_add_15 ?_
    refine x_iload_n S dX9_add_18 rfl 1 rfl ?_
    refine x_iast S hK 1 0 rfl rfl dX9_add_19 h rfl (fun h => ?_)
    refine x_aload_n S dX9_add_20 rfl 0 rfl ?_
    refine x_dup S dX9_add_21 rfl ?_
    refine x_get S hK i_X9_add_X9 0 rfl rfl 1 (by decide) k_X9_add_15 rfl rfl dX9_add_22 ?_
    refine x_iconst (v := 1) S dX9_add_25 (by decide) ?_
    refine x_iadd S dX9_add_26 ?_
    refine x_put (ty := .int) S hK i_X9_add_X9 tyX9 tyX9_ok nmX9 0 rfl rfl 1 (by decide) k_X9_add_15 rfl rfl (by decide +kernel) rfl rfl (Nat.le_of_ble_eq_true rfl) dX9_add_27 rfl ?_
    obtain rfl := Option.some.inj h
    exact hend _ _ _ hWp dX9_add_30
noncomputable def fn_X9_add (F : Nat) (n_p0_items : Nat) (p0_size : Int32) (p0_items : Nat → Int32) (x1 : Int32) : Option (Int32 × (Nat → Int32)) :=
  bf_X9_add_0 F n_p0_items x1 p0_size p0_items
set_option maxRecDepth 100000 in
set_option maxHeartbeats 4000000 in
theorem c_X9_add (l : Launch) (D : va_G) (cI cZ : ClassId) (F : Nat) (h_p0 h_p0_items : Nat) (p0_size : Int32) (n_p0_items : Nat) (p0_items : Nat → Int32) (x1 : Int32) (r : Int32 × (Nat → Int32)) (h : fn_X9_add F n_p0_items p0_size p0_items x1 = some r) : Cv l yX9_add wsX9_add ({ frames := 0, cells := 0, slots := 0, locals := 0 } : Room) D vwCl [(cI, .int), (cZ, .boolean)] [.ref h_p0, .int x1] (W_X9 cI cZ h_p0 h_p0_items p0_size n_p0_items p0_items) (fun w => w = (W_X9 cI cZ h_p0 h_p0_items r.1 n_p0_items r.2)) 0 0 :=
  Cv.ofv (by decide) rfl (Nat.le_of_ble_eq_true rfl) (fun p e s m args below meth c Q A S hK hA hname hend => w_X9_add_0 S hK hA hend rfl x1 p0_size p0_items h)
end

/-! ===== PrefixSmith$Row.get(I)I ===== -/
theorem i_X9_get_X9 : ∀ w ∈ u_ws RX9 TX9 2, w ∈ wsX9_get := by decide +kernel
theorem k_X9_get_15 : Cond.fieldLink RX9 15 "PrefixSmith$Row" "size" "I" ∈ wsX9_get := by decide +kernel
theorem k_X9_get_9 : Cond.fieldLink RX9 9 "PrefixSmith$Row" "items" "[I" ∈ wsX9_get := by decide +kernel
section
variable {p : Program} {l : Launch} {e : Env} {s : State} {m : MethodId} {args : Array Value} {below : List Frame} {meth : Method} {c : Code} {Q : State → Prop} {D : va_G} {A : Nat → Prop} {cI cZ : ClassId}
noncomputable def bf_X9_get_0 (F : Nat) (p0_size : Int32) (n_p0_items : Nat) (p0_items : Nat → Int32)  (x1 : Int32) : Option (Int32) :=
  (if x1 < 0 then some ((-1 : Int32)) else (if p0_size ≤ x1 then some ((-1 : Int32)) else (if x1 < 0 ∨ n_p0_items ≤ (x1).toNatClampNeg then none else some (p0_items (x1).toNatClampNeg))))
set_option maxRecDepth 100000 in
set_option maxHeartbeats 4000000 in
theorem w_X9_get_0 (S : CallFix p m c cX9_get 2 s args wsX9_get RX9) (hK : K_ D vwCl [(cI, .int), (cZ, .boolean)] s) (hA : ∀ q, s.heap.size ≤ q → A q) {F : Nat} {p0_size : Int32} {n_p0_items : Nat} {p0_items : Nat → Int32} {h_p0 h_p0_items : Nat} {r : Int32} {Wp : va_W → Prop} (hend : ∀ (w1 : va_W) (pc : Nat) (lv : List (Nat × Value)), Wp w1 → decode cX9_get pc = .ok (.ireturn, 1) → X_ p l e ({ frames := 0, cells := 0, slots := 0, locals := 0 } : Room) s m args below meth c Q D vwCl A 2 0 0 w1 lv pc [.int r]) (hWp : Wp (W_X9 cI cZ h_p0 h_p0_items p0_size n_p0_items p0_items))   : ∀ (x1 : Int32), bf_X9_get_0 F p0_size n_p0_items p0_items x1 = some r → X_ p l e ({ frames := 0, cells := 0, slots := 0, locals := 0 } : Room) s m args below meth c Q D vwCl A 2 0 0 (W_X9 cI cZ h_p0 h_p0_items p0_size n_p0_items p0_items) [(0, .ref h_p0), (1, .int x1)] 0 [] := by
  intro x1 h
  unfold bf_X9_get_0 at h
  refine x_iload_n S dX9_get_0 rfl 1 rfl ?_
  refine x_if_lt S 21 dX9_get_1 (by decide) h (fun h => ?_) (fun h => ?_)
  · refine x_iconst (v := -1) S dX9_get_21 (by decide) ?_
    obtain rfl := Option.some.inj h
    exact hend _ _ _ hWp dX9_get_22
  · refine x_iload_n S dX9_get_4 rfl 1 rfl ?_
    refine x_aload_n S dX9_get_5 rfl 0 rfl ?_
    refine x_get S hK i_X9_get_X9 0 rfl rfl 1 (by decide) k_X9_get_15 rfl rfl dX9_get_6 ?_
    refine x_icmp_ge S 21 dX9_get_9 (by decide) h (fun h => ?_) (fun h => ?_)
    · refine x_iconst (v := -1) S dX9_get_21 (by decide) ?_
      obtain rfl := Option.some.inj h
      exact hend _ _ _ hWp dX9_get_22
    · refine x_aload_n S dX9_get_12 rfl 0 rfl ?_
      refine x_get S hK i_X9_get_X9 0 rfl rfl 0 (by decide) k_X9_get_9 rfl rfl dX9_get_13 ?_
      refine x_iload_n S dX9_get_16 rfl 1 rfl ?_
      refine x_iald S hK 1 0 rfl rfl dX9_get_17 h (fun h => ?_)
      refine x_goto S 22 dX9_get_18 (by decide) ?_
      obtain rfl := Option.some.inj h
      exact hend _ _ _ hWp dX9_get_22
noncomputable def fn_X9_get (F : Nat) (p0_size : Int32) (n_p0_items : Nat) (p0_items : Nat → Int32) (x1 : Int32) : Option (Int32) :=
  bf_X9_get_0 F p0_size n_p0_items p0_items x1
set_option maxRecDepth 100000 in
set_option maxHeartbeats 4000000 in
theorem c_X9_get (l : Launch) (D : va_G) (cI cZ : ClassId) (F : Nat) (h_p0 h_p0_items : Nat) (p0_size : Int32) (n_p0_items : Nat) (p0_items : Nat → Int32) (x1 : Int32) (r : Int32) (h : fn_X9_get F p0_size n_p0_items p0_items x1 = some r) : Ci l yX9_get wsX9_get ({ frames := 0, cells := 0, slots := 0, locals := 0 } : Room) D vwCl [(cI, .int), (cZ, .boolean)] [.ref h_p0, .int x1] (W_X9 cI cZ h_p0 h_p0_items p0_size n_p0_items p0_items) r (fun w => w = (W_X9 cI cZ h_p0 h_p0_items p0_size n_p0_items p0_items)) 0 0 :=
  Ci.ofi (by decide) rfl (Nat.le_of_ble_eq_true rfl) (fun p e s m args below meth c Q A S hK hA hname hend => w_X9_get_0 S hK hA hend rfl x1 h)
end
