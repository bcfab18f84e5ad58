/-! ===== PrefixSmith$Leaves.gather([I)V ===== -/
abbrev W_X3_A (cI cZ : ClassId) (h_p0 h_p0_symbol h_p0_weight h_p0_depth h_p0_line h_p1 : Nat) (p0_size : Int32) (n_p0_symbol : Nat) (p0_symbol : Nat → Int32) (n_p0_weight : Nat) (p0_weight : Nat → Int32) (n_p0_depth : Nat) (p0_depth : Nat → Int32) (n_p0_line : Nat) (p0_line : Nat → Int32) (n_p1 : Nat) (p1 : Nat → Int32) : va_W := [(h_p0, .inr (3, [.ref h_p0_symbol, .ref h_p0_weight, .ref h_p0_depth, .ref h_p0_line, .int p0_size])), (h_p0_symbol, .inl (cI, n_p0_symbol, .inl p0_symbol)), (h_p0_weight, .inl (cI, n_p0_weight, .inl p0_weight)), (h_p0_depth, .inl (cI, n_p0_depth, .inl p0_depth)), (h_p0_line, .inl (cI, n_p0_line, .inl p0_line)), (h_p1, .inl (cI, n_p1, .inl p1))]
theorem i_X3_gather_X3 : ∀ w ∈ u_ws RX3 TX3 5, w ∈ wsX3_gather := by decide +kernel
theorem k_X3_gather_22 : Cond.fieldLink RX3 22 "PrefixSmith$Leaves" "size" "I" ∈ wsX3_gather := by decide +kernel
theorem k_X3_gather_7 : Cond.fieldLink RX3 7 "PrefixSmith$Leaves" "symbol" "[I" ∈ wsX3_gather := by decide +kernel
theorem k_X3_gather_13 : Cond.fieldLink RX3 13 "PrefixSmith$Leaves" "weight" "[I" ∈ wsX3_gather := by decide +kernel
section
variable {p : Program} {l : Launch} {e : Env} {s : State} {m : MethodId} {args : Array Value} {below : List Frame} {meth : Method} {c : Code} {Q : State → Prop} {D : va_G} {A : Nat → Prop} {cI cZ : ClassId}
noncomputable def bf_X3_gather_7 (F : Nat) (n_p0_symbol : Nat) (n_p0_weight : Nat) (n_p1 : Nat) (p1 : Nat → Int32) (rec7 : Int32 → Int32 → (Nat → Int32) → (Nat → Int32) → Option (Int32 × (Nat → Int32) × (Nat → Int32))) (x2 : Int32) (p0_size : Int32) (p0_symbol : Nat → Int32) (p0_weight : Nat → Int32) : Option (Int32 × (Nat → Int32) × (Nat → Int32)) :=
  (if (nI n_p1) ≤ x2 then some (p0_size, p0_symbol, p0_weight) else (if (nI n_p0_symbol) ≤ x2 then some (p0_size, p0_symbol, p0_weight) else (if x2 < 0 ∨ n_p1 ≤ (x2).toNatClampNeg then none else (if (p1 (x2).toNatClampNeg) ≤ 0 then rec7 (x2 + (1 : Int32)) p0_size p0_symbol p0_weight else (if p0_size < 0 ∨ n_p0_symbol ≤ (p0_size).toNatClampNeg then none else (if x2 < 0 ∨ n_p1 ≤ (x2).toNatClampNeg then none else (if p0_size < 0 ∨ n_p0_weight ≤ (p0_size).toNatClampNeg then none else rec7 (x2 + (1 : Int32)) (p0_size + (1 : Int32)) (upd p0_symbol (p0_size).toNatClampNeg x2) (upd p0_weight (p0_size).toNatClampNeg (p1 (x2).toNatClampNeg)))))))))
set_option maxRecDepth 100000 in
set_option maxHeartbeats 4000000 in
theorem w_X3_gather_7 (S : CallFix p m c cX3_gather 3 s args wsX3_gather RX3) (hK : K_ D vwCl [(cI, .int), (cZ, .boolean)] s) (hA : ∀ q, s.heap.size ≤ q → A q) {F : Nat} {n_p0_symbol : Nat} {n_p0_weight : Nat} {n_p0_depth : Nat} {p0_depth : Nat → Int32} {n_p0_line : Nat} {p0_line : Nat → Int32} {n_p1 : Nat} {p1 : Nat → Int32} {h_p0 h_p1 h_p0_symbol h_p0_weight h_p0_depth h_p0_line : Nat} {r : Int32 × (Nat → Int32) × (Nat → Int32)} {Wp : va_W → Prop} (hend : ∀ (w1 : va_W) (pc : Nat) (lv : List (Nat × Value)), Wp w1 → decode cX3_gather pc = .ok (.return_, 1) → X_ p l e ({ frames := 0, cells := 0, slots := 0, locals := 0 } : Room) s m args below meth c Q D vwCl A 3 0 0 w1 lv pc []) (hWp : Wp (W_X3_A cI cZ h_p0 h_p0_symbol h_p0_weight h_p0_depth h_p0_line h_p1 r.1 n_p0_symbol r.2.1 n_p0_weight r.2.2 n_p0_depth p0_depth n_p0_line p0_line n_p1 p1)) {rec7 : Int32 → Int32 → (Nat → Int32) → (Nat → Int32) → Option (Int32 × (Nat → Int32) × (Nat → Int32))} (hrec7 : ∀ (x2 : Int32) (p0_size : Int32) (p0_symbol : Nat → Int32) (p0_weight : Nat → Int32), rec7 x2 p0_size p0_symbol p0_weight = some r → X_ p l e ({ frames := 0, cells := 0, slots := 0, locals := 0 } : Room) s m args below meth c Q D vwCl A 3 0 0 (W_X3_A cI cZ h_p0 h_p0_symbol h_p0_weight h_p0_depth h_p0_line h_p1 p0_size n_p0_symbol p0_symbol n_p0_weight p0_weight n_p0_depth p0_depth n_p0_line p0_line n_p1 p1) [(0, .ref h_p0), (1, .ref h_p1), (2, .int x2)] 7 []) : ∀ (x2 : Int32) (p0_size : Int32) (p0_symbol : Nat → Int32) (p0_weight : Nat → Int32), bf_X3_gather_7 F n_p0_symbol n_p0_weight n_p1 p1 rec7 x2 p0_size p0_symbol p0_weight = some r → X_ p l e ({ frames := 0, cells := 0, slots := 0, locals := 0 } : Room) s m args below meth c Q D vwCl A 3 0 0 (W_X3_A cI cZ h_p0 h_p0_symbol h_p0_weight h_p0_depth h_p0_line h_p1 p0_size n_p0_symbol p0_symbol n_p0_weight p0_weight n_p0_depth p0_depth n_p0_line p0_line n_p1 p1) [(0, .ref h_p0), (1, .ref h_p1), (2, .int x2)] 7 [] := by
  intro x2 p0_size p0_symbol p0_weight h
  unfold bf_X3_gather_7 at h
  refine x_iload_n S dX3_gather_7 rfl 2 rfl ?_
  refine x_aload_n S dX3_gather_8 rfl 1 rfl ?_
  refine x_alen S hK 5 0 rfl rfl dX3_gather_9 ?_
  refine x_icmp_ge S 66 dX3_gather_10 (by decide) h (fun h => ?_) (fun h => ?_)
  · obtain rfl := Option.some.inj h
    exact hend _ _ _ hWp dX3_gather_66
  · refine x_iload_n S dX3_gather_13 rfl 2 rfl ?_
    refine x_aload_n S dX3_gather_14 rfl 0 rfl ?_
    refine x_get S hK i_X3_gather_X3 0 rfl rfl 0 (by decide) k_X3_gather_7 rfl rfl dX3_gather_15 ?_
    refine x_alen S hK 1 0 rfl rfl dX3_gather_18 ?_
    refine x_icmp_ge S 66 dX3_gather_19 (by decide) h (fun h => ?_) (fun h => ?_)
    · obtain rfl := Option.some.inj h
      exact hend _ _ _ hWp dX3_gather_66
    · refine x_aload_n S dX3_gather_22 rfl 1 rfl ?_
      refine x_iload_n S dX3_gather_23 rfl 2 rfl ?_
      refine x_iald S hK 5 0 rfl rfl dX3_gather_24 h (fun h => ?_)
      refine x_if_le S 60 dX3_gather_25 (by decide) h (fun h => ?_) (fun h => ?_)
      · refine x_iinc (v := x2 + (1 : Int32)) (lv' := [(2, .int (x2 + (1 : Int32))), (0, .ref h_p0), (1, .ref h_p1)]) S dX3_gather_60 2 rfl rfl (by decide) rfl ?_
        refine x_goto S 7 dX3_gather_63 (by decide) ?_
        refine x_lv [1, 2, 0] (by rfl) ?_
        exact hrec7 (x2 + (1 : Int32)) p0_size p0_symbol p0_weight h
      · refine x_aload_n S dX3_gather_28 rfl 0 rfl ?_
        refine x_get S hK i_X3_gather_X3 0 rfl rfl 0 (by decide) k_X3_gather_7 rfl rfl dX3_gather_29 ?_
        refine x_aload_n S dX3_gather_32 rfl 0 rfl ?_
        refine x_get S hK i_X3_gather_X3 0 rfl rfl 4 (by decide) k_X3_gather_22 rfl rfl dX3_gather_33 ?_
        refine x_iload_n S dX3_gather_36 rfl 2 rfl ?_
        refine x_iast S hK 1 0 rfl rfl dX3_gather_37 h rfl (fun h => ?_)
        refine x_aload_n S dX3_gather_38 rfl 0 rfl ?_
        refine x_get S hK i_X3_gather_X3 0 rfl rfl 1 (by decide) k_X3_gather_13 rfl rfl dX3_gather_39 ?_
        refine x_aload_n S dX3_gather_42 rfl 0 rfl ?_
        refine x_get S hK i_X3_gather_X3 0 rfl rfl 4 (by decide) k_X3_gather_22 rfl rfl dX3_gather_43 ?_
        refine x_aload_n S dX3_gather_46 rfl 1 rfl ?_
        refine x_iload_n S dX3_gather_47 rfl 2 rfl ?_
        refine x_iald S hK 5 0 rfl rfl dX3_gather_48 h (fun h => ?_)
        refine x_iast S hK 2 0 rfl rfl dX3_gather_49 h rfl (fun h => ?_)
        refine x_aload_n S dX3_gather_50 rfl 0 rfl ?_
        refine x_dup S dX3_gather_51 rfl ?_
        refine x_get S hK i_X3_gather_X3 0 rfl rfl 4 (by decide) k_X3_gather_22 rfl rfl dX3_gather_52 ?_
        refine x_iconst (v := 1) S dX3_gather_55 (by decide) ?_
        refine x_iadd S dX3_gather_56 ?_
        refine x_put (ty := .int) S hK i_X3_gather_X3 tyX3 tyX3_ok nmX3 0 rfl rfl 4 (by decide) k_X3_gather_22 rfl rfl (by decide +kernel) rfl rfl (Nat.le_of_ble_eq_true rfl) dX3_gather_57 rfl ?_
        refine x_iinc (v := x2 + (1 : Int32)) (lv' := [(2, .int (x2 + (1 : Int32))), (0, .ref h_p0), (1, .ref h_p1)]) S dX3_gather_60 2 rfl rfl (by decide) rfl ?_
        refine x_goto S 7 dX3_gather_63 (by decide) ?_
        refine x_lv [1, 2, 0] (by rfl) ?_
        exact hrec7 (x2 + (1 : Int32)) (p0_size + (1 : Int32)) (upd p0_symbol (p0_size).toNatClampNeg x2) (upd p0_weight (p0_size).toNatClampNeg (p1 (x2).toNatClampNeg)) h
noncomputable def lf_X3_gather_7 (F : Nat) (n_p0_symbol : Nat) (n_p0_weight : Nat) (n_p1 : Nat) (p1 : Nat → Int32)  (k : Nat) (x2 : Int32) (p0_size : Int32) (p0_symbol : Nat → Int32) (p0_weight : Nat → Int32) : Option (Int32 × (Nat → Int32) × (Nat → Int32)) :=
  lp (fun (rec : Int32 × Int32 × (Nat → Int32) × (Nat → Int32) → Option (Int32 × (Nat → Int32) × (Nat → Int32))) (z : Int32 × Int32 × (Nat → Int32) × (Nat → Int32)) => bf_X3_gather_7 F n_p0_symbol n_p0_weight n_p1 p1 (fun x2 p0_size p0_symbol p0_weight => rec (x2, p0_size, p0_symbol, p0_weight)) z.1 z.2.1 z.2.2.1 z.2.2.2) k (x2, p0_size, p0_symbol, p0_weight)
set_option maxRecDepth 100000 in
set_option maxHeartbeats 4000000 in
theorem wl_X3_gather_7 (S : CallFix p m c cX3_gather 3 s args wsX3_gather RX3) (hK : K_ D vwCl [(cI, .int), (cZ, .boolean)] s) (hA : ∀ q, s.heap.size ≤ q → A q) {F : Nat} {n_p0_symbol : Nat} {n_p0_weight : Nat} {n_p0_depth : Nat} {p0_depth : Nat → Int32} {n_p0_line : Nat} {p0_line : Nat → Int32} {n_p1 : Nat} {p1 : Nat → Int32} {h_p0 h_p1 h_p0_symbol h_p0_weight h_p0_depth h_p0_line : Nat} {r : Int32 × (Nat → Int32) × (Nat → Int32)} {Wp : va_W → Prop} (hend : ∀ (w1 : va_W) (pc : Nat) (lv : List (Nat × Value)), Wp w1 → decode cX3_gather pc = .ok (.return_, 1) → X_ p l e ({ frames := 0, cells := 0, slots := 0, locals := 0 } : Room) s m args below meth c Q D vwCl A 3 0 0 w1 lv pc []) (hWp : Wp (W_X3_A cI cZ h_p0 h_p0_symbol h_p0_weight h_p0_depth h_p0_line h_p1 r.1 n_p0_symbol r.2.1 n_p0_weight r.2.2 n_p0_depth p0_depth n_p0_line p0_line n_p1 p1))   (k : Nat) : ∀ (x2 : Int32) (p0_size : Int32) (p0_symbol : Nat → Int32) (p0_weight : Nat → Int32), lf_X3_gather_7 F n_p0_symbol n_p0_weight n_p1 p1 k x2 p0_size p0_symbol p0_weight = some r → X_ p l e ({ frames := 0, cells := 0, slots := 0, locals := 0 } : Room) s m args below meth c Q D vwCl A 3 0 0 (W_X3_A cI cZ h_p0 h_p0_symbol h_p0_weight h_p0_depth h_p0_line h_p1 p0_size n_p0_symbol p0_symbol n_p0_weight p0_weight n_p0_depth p0_depth n_p0_line p0_line n_p1 p1) [(0, .ref h_p0), (1, .ref h_p1), (2, .int x2)] 7 [] := by
  intro x2 p0_size p0_symbol p0_weight h
  exact lp_W (P := fun z => X_ p l e ({ frames := 0, cells := 0, slots := 0, locals := 0 } : Room) s m args below meth c Q D vwCl A 3 0 0 (W_X3_A cI cZ h_p0 h_p0_symbol h_p0_weight h_p0_depth h_p0_line h_p1 z.2.1 n_p0_symbol z.2.2.1 n_p0_weight z.2.2.2 n_p0_depth p0_depth n_p0_line p0_line n_p1 p1) [(0, .ref h_p0), (1, .ref h_p1), (2, .int z.1)] 7 []) (fun rec ih z hz => w_X3_gather_7 S hK hA hend hWp (fun x2 p0_size p0_symbol p0_weight hh => ih (x2, p0_size, p0_symbol, p0_weight) hh)  z.1 z.2.1 z.2.2.1 z.2.2.2 hz) k (x2, p0_size, p0_symbol, p0_weight) h 
noncomputable def bf_X3_gather_0 (F : Nat) (n_p0_symbol : Nat) (n_p0_weight : Nat) (n_p1 : Nat) (p1 : Nat → Int32)  (p0_size : Int32) (p0_symbol : Nat → Int32) (p0_weight : Nat → Int32) : Option (Int32 × (Nat → Int32) × (Nat → Int32)) :=
  lf_X3_gather_7 F n_p0_symbol n_p0_weight n_p1 p1 F (0 : Int32) (0 : Int32) p0_symbol p0_weight
set_option maxRecDepth 100000 in
set_option maxHeartbeats 4000000 in
theorem w_X3_gather_0 (S : CallFix p m c cX3_gather 3 s args wsX3_gather RX3) (hK : K_ D vwCl [(cI, .int), (cZ, .boolean)] s) (hA : ∀ q, s.heap.size ≤ q → A q) {F : Nat} {n_p0_symbol : Nat} {n_p0_weight : Nat} {n_p0_depth : Nat} {p0_depth : Nat → Int32} {n_p0_line : Nat} {p0_line : Nat → Int32} {n_p1 : Nat} {p1 : Nat → Int32} {h_p0 h_p1 h_p0_symbol h_p0_weight h_p0_depth h_p0_line : Nat} {r : Int32 × (Nat → Int32) × (Nat → Int32)} {Wp : va_W → Prop} (hend : ∀ (w1 : va_W) (pc : Nat) (lv : List (Nat × Value)), Wp w1 → decode cX3_gather pc = .ok (.return_, 1) → X_ p l e ({ frames := 0, cells := 0, slots := 0, locals := 0 } : Room) s m args below meth c Q D vwCl A 3 0 0 w1 lv pc []) (hWp : Wp (W_X3_A cI cZ h_p0 h_p0_symbol h_p0_weight h_p0_depth h_p0_line h_p1 r.1 n_p0_symbol r.2.1 n_p0_weight r.2.2 n_p0_depth p0_depth n_p0_line p0_line n_p1 p1))   : ∀ (p0_size : Int32) (p0_symbol : Nat → Int32) (p0_weight : Nat → Int32), bf_X3_gather_0 F n_p0_symbol n_p0_weight n_p1 p1 p0_size p0_symbol p0_weight = some r → X_ p l e ({ frames := 0, cells := 0, slots := 0, locals := 0 } : Room) s m args below meth c Q D vwCl A 3 0 0 (W_X3_A cI cZ h_p0 h_p0_symbol h_p0_weight h_p0_depth h_p0_line h_p1 p0_size n_p0_symbol p0_symbol n_p0_weight p0_weight n_p0_depth p0_depth n_p0_line p0_line n_p1 p1) [(0, .ref h_p0), (1, .ref h_p1)] 0 [] := by
  intro p0_size p0_symbol p0_weight h
  unfold bf_X3_gather_0 at h
  refine x_aload_n S dX3_gather_0 rfl 0 rfl ?_
  refine x_iconst (v := 0) S dX3_gather_1 (by decide) ?_
  refine x_put (ty := .int) S hK i_X3_gather_X3 tyX3 tyX3_ok nmX3 0 rfl rfl 4 (by decide) k_X3_gather_22 rfl rfl (by decide +kernel) rfl rfl (Nat.le_of_ble_eq_true rfl) dX3_gather_2 rfl ?_
  refine x_iconst (v := 0) S dX3_gather_5 (by decide) ?_
  refine x_istore_n (lv' := [(2, .int (0 : Int32)), (0, .ref h_p0), (1, .ref h_p1)]) S dX3_gather_6 rfl (by decide) rfl ?_
  refine x_lv [1, 2, 0] (by rfl) ?_
  exact wl_X3_gather_7 S hK hA hend hWp  F (0 : Int32) (0 : Int32) p0_symbol p0_weight h
noncomputable def fn_X3_gather (F : Nat) (n_p0_symbol : Nat) (n_p0_weight : Nat) (n_p1 : Nat) (p1 : Nat → Int32) (p0_size : Int32) (p0_symbol : Nat → Int32) (p0_weight : Nat → Int32)  : Option (Int32 × (Nat → Int32) × (Nat → Int32)) :=
  bf_X3_gather_0 F n_p0_symbol n_p0_weight n_p1 p1 p0_size p0_symbol p0_weight
set_option maxRecDepth 100000 in
set_option maxHeartbeats 4000000 in
theorem c_X3_gather (l : Launch) (D : va_G) (cI cZ : ClassId) (F : Nat) (h_p0 h_p0_symbol h_p0_weight h_p0_depth h_p0_line h_p1 : Nat) (p0_size : Int32) (n_p0_symbol : Nat) (p0_symbol : Nat → Int32) (n_p0_weight : Nat) (p0_weight : Nat → Int32) (n_p0_depth : Nat) (p0_depth : Nat → Int32) (n_p0_line : Nat) (p0_line : Nat → Int32) (n_p1 : Nat) (p1 : Nat → Int32)  (r : Int32 × (Nat → Int32) × (Nat → Int32)) (h : fn_X3_gather F n_p0_symbol n_p0_weight n_p1 p1 p0_size p0_symbol p0_weight = some r) : Cv l yX3_gather wsX3_gather ({ frames := 0, cells := 0, slots := 0, locals := 0 } : Room) D vwCl [(cI, .int), (cZ, .boolean)] [.ref h_p0, .ref h_p1] (W_X3_A cI cZ h_p0 h_p0_symbol h_p0_weight h_p0_depth h_p0_line h_p1 p0_size n_p0_symbol p0_symbol n_p0_weight p0_weight n_p0_depth p0_depth n_p0_line p0_line n_p1 p1) (fun w => w = (W_X3_A cI cZ h_p0 h_p0_symbol h_p0_weight h_p0_depth h_p0_line h_p1 r.1 n_p0_symbol r.2.1 n_p0_weight r.2.2 n_p0_depth p0_depth n_p0_line p0_line n_p1 p1)) 0 0 :=
  Cv.ofv (by decide) rfl (Nat.le_of_ble_eq_true rfl) (fun p e s m args below meth c Q A S hK hA hname hend => w_X3_gather_0 S hK hA hend rfl p0_size p0_symbol p0_weight h)
end

/-! ===== PrefixSmith$Leaves.lineUpBySymbols()V ===== -/
abbrev W_X3 (cI cZ : ClassId) (h_p0 h_p0_symbol h_p0_weight h_p0_depth h_p0_line : Nat) (p0_size : Int32) (n_p0_symbol : Nat) (p0_symbol : Nat → Int32) (n_p0_weight : Nat) (p0_weight : Nat → Int32) (n_p0_depth : Nat) (p0_depth : Nat → Int32) (n_p0_line : Nat) (p0_line : Nat → Int32) : va_W := [(h_p0, .inr (3, [.ref h_p0_symbol, .ref h_p0_weight, .ref h_p0_depth, .ref h_p0_line, .int p0_size])), (h_p0_symbol, .inl (cI, n_p0_symbol, .inl p0_symbol)), (h_p0_weight, .inl (cI, n_p0_weight, .inl p0_weight)), (h_p0_depth, .inl (cI, n_p0_depth, .inl p0_depth)), (h_p0_line, .inl (cI, n_p0_line, .inl p0_line))]
theorem i_X3_lineUpBySymbols_X3 : ∀ w ∈ u_ws RX3 TX3 5, w ∈ wsX3_lineUpBySymbols := by decide +kernel
theorem k_X3_lineUpBySymbols_22 : Cond.fieldLink RX3 22 "PrefixSmith$Leaves" "size" "I" ∈ wsX3_lineUpBySymbols := by decide +kernel
theorem k_X3_lineUpBySymbols_19 : Cond.fieldLink RX3 19 "PrefixSmith$Leaves" "line" "[I" ∈ wsX3_lineUpBySymbols := by decide +kernel
section
variable {p : Program} {l : Launch} {e : Env} {s : State} {m : MethodId} {args : Array Value} {below : List Frame} {meth : Method} {c : Code} {Q : State → Prop} {D : va_G} {A : Nat → Prop} {cI cZ : ClassId}
noncomputable def bf_X3_lineUpBySymbols_2 (F : Nat) (p0_size : Int32) (n_p0_line : Nat) (rec2 : Int32 → (Nat → Int32) → Option ((Nat → Int32))) (x1 : Int32) (p0_line : Nat → Int32) : Option ((Nat → Int32)) :=
  (if p0_size ≤ x1 then some (p0_line) else (if x1 < 0 ∨ n_p0_line ≤ (x1).toNatClampNeg then none else rec2 (x1 + (1 : Int32)) (upd p0_line (x1).toNatClampNeg x1)))
set_option maxRecDepth 100000 in
set_option maxHeartbeats 4000000 in
theorem w_X3_lineUpBySymbols_2 (S : CallFix p m c cX3_lineUpBySymbols 2 s args wsX3_lineUpBySymbols RX3) (hK : K_ D vwCl [(cI, .int), (cZ, .boolean)] s) (hA : ∀ q, s.heap.size ≤ q → A q) {F : Nat} {p0_size : Int32} {n_p0_symbol : Nat} {p0_symbol : Nat → Int32} {n_p0_weight : Nat} {p0_weight : Nat → Int32} {n_p0_depth : Nat} {p0_depth : Nat → Int32} {n_p0_line : Nat} {h_p0 h_p0_symbol h_p0_weight h_p0_depth h_p0_line : Nat} {r : (Nat → Int32)} {Wp : va_W → Prop} (hend : ∀ (w1 : va_W) (pc : Nat) (lv : List (Nat × Value)), Wp w1 → decode cX3_lineUpBySymbols pc = .ok (.return_, 1) → X_ p l e ({ frames := 0, cells := 0, slots := 0, locals := 0 } : Room) s m args below meth c Q D vwCl A 2 0 0 w1 lv pc []) (hWp : Wp (W_X3 cI cZ h_p0 h_p0_symbol h_p0_weight h_p0_depth h_p0_line p0_size n_p0_symbol p0_symbol n_p0_weight p0_weight n_p0_depth p0_depth n_p0_line r)) {rec2 : Int32 → (Nat → Int32) → Option ((Nat → Int32))} (hrec2 : ∀ (x1 : Int32) (p0_line : Nat → Int32), rec2 x1 p0_line = some r → X_ p l e ({ frames := 0, cells := 0, slots := 0, locals := 0 } : Room) s m args below meth c Q D vwCl A 2 0 0 (W_X3 cI cZ h_p0 h_p0_symbol h_p0_weight h_p0_depth h_p0_line p0_size n_p0_symbol p0_symbol n_p0_weight p0_weight n_p0_depth p0_depth n_p0_line p0_line) [(0, .ref h_p0), (1, .int x1)] 2 []) : ∀ (x1 : Int32) (p0_line : Nat → Int32), bf_X3_lineUpBySymbols_2 F p0_size n_p0_line rec2 x1 p0_line = some r → X_ p l e ({ frames := 0, cells := 0, slots := 0, locals := 0 } : Room) s m args below meth c Q D vwCl A 2 0 0 (W_X3 cI cZ h_p0 h_p0_symbol h_p0_weight h_p0_depth h_p0_line p0_size n_p0_symbol p0_symbol n_p0_weight p0_weight n_p0_depth p0_depth n_p0_line p0_line) [(0, .ref h_p0), (1, .int x1)] 2 [] := by
  intro x1 p0_line h
  unfold bf_X3_lineUpBySymbols_2 at h
  refine x_iload_n S dX3_lineUpBySymbols_2 rfl 1 rfl ?_
  refine x_aload_n S dX3_lineUpBySymbols_3 rfl 0 rfl ?_
  refine x_get S hK i_X3_lineUpBySymbols_X3 0 rfl rfl 4 (by decide) k_X3_lineUpBySymbols_22 rfl rfl dX3_lineUpBySymbols_4 ?_
  refine x_icmp_ge S 23 dX3_lineUpBySymbols_7 (by decide) h (fun h => ?_) (fun h => ?_)
  · obtain rfl := Option.some.inj h
    exact hend _ _ _ hWp dX3_lineUpBySymbols_23
  · refine x_aload_n S dX3_lineUpBySymbols_10 rfl 0 rfl ?_
    refine x_get S hK i_X3_lineUpBySymbols_X3 0 rfl rfl 3 (by decide) k_X3_lineUpBySymbols_19 rfl rfl dX3_lineUpBySymbols_11 ?_
    refine x_iload_n S dX3_lineUpBySymbols_14 rfl 1 rfl ?_
    refine x_iload_n S dX3_lineUpBySymbols_15 rfl 1 rfl ?_
    refine x_iast S hK 4 0 rfl rfl dX3_lineUpBySymbols_16 h rfl (fun h => ?_)
    refine x_iinc (v := x1 + (1 : Int32)) (lv' := [(1, .int (x1 + (1 : Int32))), (0, .ref h_p0)]) S dX3_lineUpBySymbols_17 1 rfl rfl (by decide) rfl ?_
    refine x_goto S 2 dX3_lineUpBySymbols_20 (by decide) ?_
    refine x_lv [1, 0] (by rfl) ?_
    exact hrec2 (x1 + (1 : Int32)) (upd p0_line (x1).toNatClampNeg x1) h
noncomputable def lf_X3_lineUpBySymbols_2 (F : Nat) (p0_size : Int32) (n_p0_line : Nat)  (k : Nat) (x1 : Int32) (p0_line : Nat → Int32) : Option ((Nat → Int32)) :=
  lp (fun (rec : Int32 × (Nat → Int32) → Option ((Nat → Int32))) (z : Int32 × (Nat → Int32)) => bf_X3_lineUpBySymbols_2 F p0_size n_p0_line (fun x1 p0_line => rec (x1, p0_line)) z.1 z.2) k (x1, p0_line)
set_option maxRecDepth 100000 in
set_option maxHeartbeats 4000000 in
theorem wl_X3_lineUpBySymbols_2 (S : CallFix p m c cX3_lineUpBySymbols 2 s args wsX3_lineUpBySymbols RX3) (hK : K_ D vwCl [(cI, .int), (cZ, .boolean)] s) (hA : ∀ q, s.heap.size ≤ q → A q) {F : Nat} {p0_size : Int32} {n_p0_symbol : Nat} {p0_symbol : Nat → Int32} {n_p0_weight : Nat} {p0_weight : Nat → Int32} {n_p0_depth : Nat} {p0_depth : Nat → Int32} {n_p0_line : Nat} {h_p0 h_p0_symbol h_p0_weight h_p0_depth h_p0_line : Nat} {r : (Nat → Int32)} {Wp : va_W → Prop} (hend : ∀ (w1 : va_W) (pc : Nat) (lv : List (Nat × Value)), Wp w1 → decode cX3_lineUpBySymbols pc = .ok (.return_, 1) → X_ p l e ({ frames := 0, cells := 0, slots := 0, locals := 0 } : Room) s m args below meth c Q D vwCl A 2 0 0 w1 lv pc []) (hWp : Wp (W_X3 cI cZ h_p0 h_p0_symbol h_p0_weight h_p0_depth h_p0_line p0_size n_p0_symbol p0_symbol n_p0_weight p0_weight n_p0_depth p0_depth n_p0_line r))   (k : Nat) : ∀ (x1 : Int32) (p0_line : Nat → Int32), lf_X3_lineUpBySymbols_2 F p0_size n_p0_line k x1 p0_line = some r → X_ p l e ({ frames := 0, cells := 0, slots := 0, locals := 0 } : Room) s m args below meth c Q D vwCl A 2 0 0 (W_X3 cI cZ h_p0 h_p0_symbol h_p0_weight h_p0_depth h_p0_line p0_size n_p0_symbol p0_symbol n_p0_weight p0_weight n_p0_depth p0_depth n_p0_line p0_line) [(0, .ref h_p0), (1, .int x1)] 2 [] := by
  intro x1 p0_line h
  exact lp_W (P := fun z => X_ p l e ({ frames := 0, cells := 0, slots := 0, locals := 0 } : Room) s m args below meth c Q D vwCl A 2 0 0 (W_X3 cI cZ h_p0 h_p0_symbol h_p0_weight h_p0_depth h_p0_line p0_size n_p0_symbol p0_symbol n_p0_weight p0_weight n_p0_depth p0_depth n_p0_line z.2) [(0, .ref h_p0), (1, .int z.1)] 2 []) (fun rec ih z hz => w_X3_lineUpBySymbols_2 S hK hA hend hWp (fun x1 p0_line hh => ih (x1, p0_line) hh)  z.1 z.2 hz) k (x1, p0_line) h 
noncomputable def bf_X3_lineUpBySymbols_0 (F : Nat) (p0_size : Int32) (n_p0_line : Nat)  (p0_line : Nat → Int32) : Option ((Nat → Int32)) :=
  lf_X3_lineUpBySymbols_2 F p0_size n_p0_line F (0 : Int32) p0_line
set_option maxRecDepth 100000 in
set_option maxHeartbeats 4000000 in
theorem w_X3_lineUpBySymbols_0 (S : CallFix p m c cX3_lineUpBySymbols 2 s args wsX3_lineUpBySymbols RX3) (hK : K_ D vwCl [(cI, .int), (cZ, .boolean)] s) (hA : ∀ q, s.heap.size ≤ q → A q) {F : Nat} {p0_size : Int32} {n_p0_symbol : Nat} {p0_symbol : Nat → Int32} {n_p0_weight : Nat} {p0_weight : Nat → Int32} {n_p0_depth : Nat} {p0_depth : Nat → Int32} {n_p0_line : Nat} {h_p0 h_p0_symbol h_p0_weight h_p0_depth h_p0_line : Nat} {r : (Nat → Int32)} {Wp : va_W → Prop} (hend : ∀ (w1 : va_W) (pc : Nat) (lv : List (Nat × Value)), Wp w1 → decode cX3_lineUpBySymbols pc = .ok (.return_, 1) → X_ p l e ({ frames := 0, cells := 0, slots := 0, locals := 0 } : Room) s m args below meth c Q D vwCl A 2 0 0 w1 lv pc []) (hWp : Wp (W_X3 cI cZ h_p0 h_p0_symbol h_p0_weight h_p0_depth h_p0_line p0_size n_p0_symbol p0_symbol n_p0_weight p0_weight n_p0_depth p0_depth n_p0_line r))   : ∀ (p0_line : Nat → Int32), bf_X3_lineUpBySymbols_0 F p0_size n_p0_line p0_line = some r → X_ p l e ({ frames := 0, cells := 0, slots := 0, locals := 0 } : Room) s m args below meth c Q D vwCl A 2 0 0 (W_X3 cI cZ h_p0 h_p0_symbol h_p0_weight h_p0_depth h_p0_line p0_size n_p0_symbol p0_symbol n_p0_weight p0_weight n_p0_depth p0_depth n_p0_line p0_line) [(0, .ref h_p0)] 0 [] := by
  intro p0_line h
  unfold bf_X3_lineUpBySymbols_0 at h
  refine x_iconst (v := 0) S dX3_lineUpBySymbols_0 (by decide) ?_
  refine x_istore_n (lv' := [(1, .int (0 : Int32)), (0, .ref h_p0)]) S dX3_lineUpBySymbols_1 rfl (by decide) rfl ?_
  refine x_lv [1, 0] (by rfl) ?_
  exact wl_X3_lineUpBySymbols_2 S hK hA hend hWp  F (0 : Int32) p0_line h
noncomputable def fn_X3_lineUpBySymbols (F : Nat) (p0_size : Int32) (n_p0_line : Nat) (p0_line : Nat → Int32)  : Option ((Nat → Int32)) :=
  bf_X3_lineUpBySymbols_0 F p0_size n_p0_line p0_line
set_option maxRecDepth 100000 in
set_option maxHeartbeats 4000000 in
theorem c_X3_lineUpBySymbols (l : Launch) (D : va_G) (cI cZ : ClassId) (F : Nat) (h_p0 h_p0_symbol h_p0_weight h_p0_depth h_p0_line : Nat) (p0_size : Int32) (n_p0_symbol : Nat) (p0_symbol : Nat → Int32) (n_p0_weight : Nat) (p0_weight : Nat → Int32) (n_p0_depth : Nat) (p0_depth : Nat → Int32) (n_p0_line : Nat) (p0_line : Nat → Int32)  (r : (Nat → Int32)) (h : fn_X3_lineUpBySymbols F p0_size n_p0_line p0_line = some r) : Cv l yX3_lineUpBySymbols wsX3_lineUpBySymbols ({ frames := 0, cells := 0, slots := 0, locals := 0 } : Room) D vwCl [(cI, .int), (cZ, .boolean)] [.ref h_p0] (W_X3 cI cZ h_p0 h_p0_symbol h_p0_weight h_p0_depth h_p0_line p0_size n_p0_symbol p0_symbol n_p0_weight p0_weight n_p0_depth p0_depth n_p0_line p0_line) (fun w => w = (W_X3 cI cZ h_p0 h_p0_symbol h_p0_weight h_p0_depth h_p0_line p0_size n_p0_symbol p0_symbol n_p0_weight p0_weight n_p0_depth p0_depth n_p0_line r)) 0 0 :=
  Cv.ofv (by decide) rfl (Nat.le_of_ble_eq_true rfl) (fun p e s m args below meth c Q A S hK hA hname hend => w_X3_lineUpBySymbols_0 S hK hA hend rfl p0_line h)
end

/-! ===== PrefixSmith$Leaves.lineUp(I)V ===== -/
theorem i_X3_lineUp_X3 : ∀ w ∈ u_ws RX3 TX3 5, w ∈ wsX3_lineUp := by decide +kernel
theorem k_X3_lineUp_22 : Cond.fieldLink RX3 22 "PrefixSmith$Leaves" "size" "I" ∈ wsX3_lineUp := by decide +kernel
theorem k_X3_lineUp_13 : Cond.fieldLink RX3 13 "PrefixSmith$Leaves" "weight" "[I" ∈ wsX3_lineUp := by decide +kernel
theorem k_X3_lineUp_19 : Cond.fieldLink RX3 19 "PrefixSmith$Leaves" "line" "[I" ∈ wsX3_lineUp := by decide +kernel
section
variable {p : Program} {l : Launch} {e : Env} {s : State} {m : MethodId} {args : Array Value} {below : List Frame} {meth : Method} {c : Code} {Q : State → Prop} {D : va_G} {A : Nat → Prop} {cI cZ : ClassId}
noncomputable def bf_X3_lineUp_62 (F : Nat) (p0_size : Int32) (n_p0_weight : Nat) (p0_weight : Nat → Int32) (n_p0_line : Nat) (rec2 : Int32 → Int32 → (Nat → Int32) → Option ((Nat → Int32))) (x1 : Int32) (x2 : Int32) (x3 : Int32) (p0_line : Nat → Int32) : Option ((Nat → Int32)) :=
  (if x3 < 0 ∨ n_p0_line ≤ (x3).toNatClampNeg then none else rec2 x1 (x2 + (1 : Int32)) (upd p0_line (x3).toNatClampNeg x2))
set_option maxRecDepth 100000 in
set_option maxHeartbeats 4000000 in
theorem w_X3_lineUp_62 (S : CallFix p m c cX3_lineUp 4 s args wsX3_lineUp RX3) (hK : K_ D vwCl [(cI, .int), (cZ, .boolean)] s) (hA : ∀ q, s.heap.size ≤ q → A q) {F : Nat} {p0_size : Int32} {n_p0_symbol : Nat} {p0_symbol : Nat → Int32} {n_p0_weight : Nat} {p0_weight : Nat → Int32} {n_p0_depth : Nat} {p0_depth : Nat → Int32} {n_p0_line : Nat} {h_p0 h_p0_symbol h_p0_weight h_p0_depth h_p0_line : Nat} {r : (Nat → Int32)} {Wp : va_W → Prop} (hend : ∀ (w1 : va_W) (pc : Nat) (lv : List (Nat × Value)), Wp w1 → decode cX3_lineUp pc = .ok (.return_, 1) → X_ p l e ({ frames := 0, cells := 0, slots := 0, locals := 0 } : Room) s m args below meth c Q D vwCl A 4 0 0 w1 lv pc []) (hWp : Wp (W_X3 cI cZ h_p0 h_p0_symbol h_p0_weight h_p0_depth h_p0_line p0_size n_p0_symbol p0_symbol n_p0_weight p0_weight n_p0_depth p0_depth n_p0_line r)) {rec2 : Int32 → Int32 → (Nat → Int32) → Option ((Nat → Int32))} (hrec2 : ∀ (x1 : Int32) (x2 : Int32) (p0_line : Nat → Int32), rec2 x1 x2 p0_line = some r → X_ p l e ({ frames := 0, cells := 0, slots := 0, locals := 0 } : Room) s m args below meth c Q D vwCl A 4 0 0 (W_X3 cI cZ h_p0 h_p0_symbol h_p0_weight h_p0_depth h_p0_line p0_size n_p0_symbol p0_symbol n_p0_weight p0_weight n_p0_depth p0_depth n_p0_line p0_line) [(0, .ref h_p0), (1, .int x1), (2, .int x2)] 2 []) : ∀ (x1 : Int32) (x2 : Int32) (x3 : Int32) (p0_line : Nat → Int32), bf_X3_lineUp_62 F p0_size n_p0_weight p0_weight n_p0_line rec2 x1 x2 x3 p0_line = some r → X_ p l e ({ frames := 0, cells := 0, slots := 0, locals := 0 } : Room) s m args below meth c Q D vwCl A 4 0 0 (W_X3 cI cZ h_p0 h_p0_symbol h_p0_weight h_p0_depth h_p0_line p0_size n_p0_symbol p0_symbol n_p0_weight p0_weight n_p0_depth p0_depth n_p0_line p0_line) [(0, .ref h_p0), (1, .int x1), (2, .int x2), (3, .int x3)] 62 [] := by
  intro x1 x2 x3 p0_line h
  unfold bf_X3_lineUp_62 at h
  refine x_aload_n S dX3_lineUp_62 rfl 0 rfl ?_
  refine x_get S hK i_X3_lineUp_X3 0 rfl rfl 3 (by decide) k_X3_lineUp_19 rfl rfl dX3_lineUp_63 ?_
  refine x_iload_n S dX3_lineUp_66 rfl 3 rfl ?_
  refine x_iload_n S dX3_lineUp_67 rfl 2 rfl ?_
  refine x_iast S hK 4 0 rfl rfl dX3_lineUp_68 h rfl (fun h => ?_)
  refine x_iinc (v := x2 + (1 : Int32)) (lv' := [(2, .int (x2 + (1 : Int32))), (0, .ref h_p0), (1, .int x1), (3, .int x3)]) S dX3_lineUp_69 2 rfl rfl (by decide) rfl ?_
  refine x_goto S 2 dX3_lineUp_72 (by decide) ?_
  refine x_lv [1, 2, 0] (by rfl) ?_
  exact hrec2 x1 (x2 + (1 : Int32)) (upd p0_line (x3).toNatClampNeg x2) h
noncomputable def bf_X3_lineUp_12 (F : Nat) (p0_size : Int32) (n_p0_weight : Nat) (p0_weight : Nat → Int32) (n_p0_line : Nat) (rec2 : Int32 → Int32 → (Nat → Int32) → Option ((Nat → Int32))) (rec12 : Int32 → Int32 → Int32 → (Nat → Int32) → Option ((Nat → Int32))) (x1 : Int32) (x2 : Int32) (x3 : Int32) (p0_line : Nat → Int32) : Option ((Nat → Int32)) :=
  (if x3 ≤ 0 then bf_X3_lineUp_62 F p0_size n_p0_weight p0_weight n_p0_line rec2 x1 x2 x3 p0_line else (if (x3 - (1 : Int32)) < 0 ∨ n_p0_line ≤ ((x3 - (1 : Int32))).toNatClampNeg then none else (if (p0_line ((x3 - (1 : Int32))).toNatClampNeg) < 0 ∨ n_p0_weight ≤ ((p0_line ((x3 - (1 : Int32))).toNatClampNeg)).toNatClampNeg then none else (if x2 < 0 ∨ n_p0_weight ≤ (x2).toNatClampNeg then none else (if (x1 * (p0_weight ((p0_line ((x3 - (1 : Int32))).toNatClampNeg)).toNatClampNeg)) ≤ (x1 * (p0_weight (x2).toNatClampNeg)) then bf_X3_lineUp_62 F p0_size n_p0_weight p0_weight n_p0_line rec2 x1 x2 x3 p0_line else (if (x3 - (1 : Int32)) < 0 ∨ n_p0_line ≤ ((x3 - (1 : Int32))).toNatClampNeg then none else (if x3 < 0 ∨ n_p0_line ≤ (x3).toNatClampNeg then none else rec12 x1 x2 (x3 + (-1 : Int32)) (upd p0_line (x3).toNatClampNeg (p0_line ((x3 - (1 : Int32))).toNatClampNeg)))))))))
set_option maxRecDepth 100000 in
set_option maxHeartbeats 4000000 in
theorem w_X3_lineUp_12 (S : CallFix p m c cX3_lineUp 4 s args wsX3_lineUp RX3) (hK : K_ D vwCl [(cI, .int), (cZ, .boolean)] s) (hA : ∀ q, s.heap.size ≤ q → A q) {F : Nat} {p0_size : Int32} {n_p0_symbol : Nat} {p0_symbol : Nat → Int32} {n_p0_weight : Nat} {p0_weight : Nat → Int32} {n_p0_depth : Nat} {p0_depth : Nat → Int32} {n_p0_line : Nat} {h_p0 h_p0_symbol h_p0_weight h_p0_depth h_p0_line : Nat} {r : (Nat → Int32)} {Wp : va_W → Prop} (hend : ∀ (w1 : va_W) (pc : Nat) (lv : List (Nat × Value)), Wp w1 → decode cX3_lineUp pc = .ok (.return_, 1) → X_ p l e ({ frames := 0, cells := 0, slots := 0, locals := 0 } : Room) s m args below meth c Q D vwCl A 4 0 0 w1 lv pc []) (hWp : Wp (W_X3 cI cZ h_p0 h_p0_symbol h_p0_weight h_p0_depth h_p0_line p0_size n_p0_symbol p0_symbol n_p0_weight p0_weight n_p0_depth p0_depth n_p0_line r)) {rec2 : Int32 → Int32 → (Nat → Int32) → Option ((Nat → Int32))} {rec12 : Int32 → Int32 → Int32 → (Nat → Int32) → Option ((Nat → Int32))} (hrec2 : ∀ (x1 : Int32) (x2 : Int32) (p0_line : Nat → Int32), rec2 x1 x2 p0_line = some r → X_ p l e ({ frames := 0, cells := 0, slots := 0, locals := 0 } : Room) s m args below meth c Q D vwCl A 4 0 0 (W_X3 cI cZ h_p0 h_p0_symbol h_p0_weight h_p0_depth h_p0_line p0_size n_p0_symbol p0_symbol n_p0_weight p0_weight n_p0_depth p0_depth n_p0_line p0_line) [(0, .ref h_p0), (1, .int x1), (2, .int x2)] 2 []) (hrec12 : ∀ (x1 : Int32) (x2 : Int32) (x3 : Int32) (p0_line : Nat → Int32), rec12 x1 x2 x3 p0_line = some r → X_ p l e ({ frames := 0, cells := 0, slots := 0, locals := 0 } : Room) s m args below meth c Q D vwCl A 4 0 0 (W_X3 cI cZ h_p0 h_p0_symbol h_p0_weight h_p0_depth h_p0_line p0_size n_p0_symbol p0_symbol n_p0_weight p0_weight n_p0_depth p0_depth n_p0_line p0_line) [(0, .ref h_p0), (1, .int x1), (2, .int x2), (3, .int x3)] 12 []) : ∀ (x1 : Int32) (x2 : Int32) (x3 : Int32) (p0_line : Nat → Int32), bf_X3_lineUp_12 F p0_size n_p0_weight p0_weight n_p0_line rec2 rec12 x1 x2 x3 p0_line = some r → X_ p l e ({ frames := 0, cells := 0, slots := 0, locals := 0 } : Room) s m args below meth c Q D vwCl A 4 0 0 (W_X3 cI cZ h_p0 h_p0_symbol h_p0_weight h_p0_depth h_p0_line p0_size n_p0_symbol p0_symbol n_p0_weight p0_weight n_p0_depth p0_depth n_p0_line p0_line) [(0, .ref h_p0), (1, .int x1), (2, .int x2), (3, .int x3)] 12 [] := by
  intro x1 x2 x3 p0_line h
  unfold bf_X3_lineUp_12 at h
  refine x_iload_n S dX3_lineUp_12 rfl 3 rfl ?_
  refine x_if_le S 62 dX3_lineUp_13 (by decide) h (fun h => ?_) (fun h => ?_)
  · exact w_X3_lineUp_62 S hK hA hend hWp hrec2 x1 x2 x3 p0_line h
  · refine x_iload_n S dX3_lineUp_16 rfl 1 rfl ?_
    refine x_aload_n S dX3_lineUp_17 rfl 0 rfl ?_
    refine x_get S hK i_X3_lineUp_X3 0 rfl rfl 1 (by decide) k_X3_lineUp_13 rfl rfl dX3_lineUp_18 ?_
    refine x_aload_n S dX3_lineUp_21 rfl 0 rfl ?_
    refine x_get S hK i_X3_lineUp_X3 0 rfl rfl 3 (by decide) k_X3_lineUp_19 rfl rfl dX3_lineUp_22 ?_
    refine x_iload_n S dX3_lineUp_25 rfl 3 rfl ?_
    refine x_iconst (v := 1) S dX3_lineUp_26 (by decide) ?_
    refine x_isub S dX3_lineUp_27 ?_
    refine x_iald S hK 4 0 rfl rfl dX3_lineUp_28 h (fun h => ?_)
    refine x_iald S hK 2 0 rfl rfl dX3_lineUp_29 h (fun h => ?_)
    refine x_imul S dX3_lineUp_30 ?_
    refine x_iload_n S dX3_lineUp_31 rfl 1 rfl ?_
    refine x_aload_n S dX3_lineUp_32 rfl 0 rfl ?_
    refine x_get S hK i_X3_lineUp_X3 0 rfl rfl 1 (by decide) k_X3_lineUp_13 rfl rfl dX3_lineUp_33 ?_
    refine x_iload_n S dX3_lineUp_36 rfl 2 rfl ?_
    refine x_iald S hK 2 0 rfl rfl dX3_lineUp_37 h (fun h => ?_)
    refine x_imul S dX3_lineUp_38 ?_
    refine x_icmp_le S 62 dX3_lineUp_39 (by decide) h (fun h => ?_) (fun h => ?_)
    · exact w_X3_lineUp_62 S hK hA hend hWp hrec2 x1 x2 x3 p0_line h
    · refine x_aload_n S dX3_lineUp_42 rfl 0 rfl ?_
      refine x_get S hK i_X3_lineUp_X3 0 rfl rfl 3 (by decide) k_X3_lineUp_19 rfl rfl dX3_lineUp_43 ?_
      refine x_iload_n S dX3_lineUp_46 rfl 3 rfl ?_
      refine x_aload_n S dX3_lineUp_47 rfl 0 rfl ?_
      refine x_get S hK i_X3_lineUp_X3 0 rfl rfl 3 (by decide) k_X3_lineUp_19 rfl rfl dX3_lineUp_48 ?_
      refine x_iload_n S dX3_lineUp_51 rfl 3 rfl ?_
      refine x_iconst (v := 1) S dX3_lineUp_52 (by decide) ?_
      refine x_isub S dX3_lineUp_53 ?_
      refine x_iald S hK 4 0 rfl rfl dX3_lineUp_54 h (fun h => ?_)
      refine x_iast S hK 4 0 rfl rfl dX3_lineUp_55 h rfl (fun h => ?_)
      refine x_iinc (v := x3 + (-1 : Int32)) (lv' := [(3, .int (x3 + (-1 : Int32))), (0, .ref h_p0), (1, .int x1), (2, .int x2)]) S dX3_lineUp_56 3 rfl rfl (by decide) rfl ?_
      refine x_goto S 12 dX3_lineUp_59 (by decide) ?_
      refine x_lv [1, 2, 3, 0] (by rfl) ?_
      exact hrec12 x1 x2 (x3 + (-1 : Int32)) (upd p0_line (x3).toNatClampNeg (p0_line ((x3 - (1 : Int32))).toNatClampNeg)) h
noncomputable def lf_X3_lineUp_12 (F : Nat) (p0_size : Int32) (n_p0_weight : Nat) (p0_weight : Nat → Int32) (n_p0_line : Nat) (rec2 : Int32 → Int32 → (Nat → Int32) → Option ((Nat → Int32))) (k : Nat) (x1 : Int32) (x2 : Int32) (x3 : Int32) (p0_line : Nat → Int32) : Option ((Nat → Int32)) :=
  lp (fun (rec : Int32 × Int32 × Int32 × (Nat → Int32) → Option ((Nat → Int32))) (z : Int32 × Int32 × Int32 × (Nat → Int32)) => bf_X3_lineUp_12 F p0_size n_p0_weight p0_weight n_p0_line rec2 (fun x1 x2 x3 p0_line => rec (x1, x2, x3, p0_line)) z.1 z.2.1 z.2.2.1 z.2.2.2) k (x1, x2, x3, p0_line)
set_option maxRecDepth 100000 in
set_option maxHeartbeats 4000000 in
theorem wl_X3_lineUp_12 (S : CallFix p m c cX3_lineUp 4 s args wsX3_lineUp RX3) (hK : K_ D vwCl [(cI, .int), (cZ, .boolean)] s) (hA : ∀ q, s.heap.size ≤ q → A q) {F : Nat} {p0_size : Int32} {n_p0_symbol : Nat} {p0_symbol : Nat → Int32} {n_p0_weight : Nat} {p0_weight : Nat → Int32} {n_p0_depth : Nat} {p0_depth : Nat → Int32} {n_p0_line : Nat} {h_p0 h_p0_symbol h_p0_weight h_p0_depth h_p0_line : Nat} {r : (Nat → Int32)} {Wp : va_W → Prop} (hend : ∀ (w1 : va_W) (pc : Nat) (lv : List (Nat × Value)), Wp w1 → decode cX3_lineUp pc = .ok (.return_, 1) → X_ p l e ({ frames := 0, cells := 0, slots := 0, locals := 0 } : Room) s m args below meth c Q D vwCl A 4 0 0 w1 lv pc []) (hWp : Wp (W_X3 cI cZ h_p0 h_p0_symbol h_p0_weight h_p0_depth h_p0_line p0_size n_p0_symbol p0_symbol n_p0_weight p0_weight n_p0_depth p0_depth n_p0_line r)) {rec2 : Int32 → Int32 → (Nat → Int32) → Option ((Nat → Int32))} (hrec2 : ∀ (x1 : Int32) (x2 : Int32) (p0_line : Nat → Int32), rec2 x1 x2 p0_line = some r → X_ p l e ({ frames := 0, cells := 0, slots := 0, locals := 0 } : Room) s m args below meth c Q D vwCl A 4 0 0 (W_X3 cI cZ h_p0 h_p0_symbol h_p0_weight h_p0_depth h_p0_line p0_size n_p0_symbol p0_symbol n_p0_weight p0_weight n_p0_depth p0_depth n_p0_line p0_line) [(0, .ref h_p0), (1, .int x1), (2, .int x2)] 2 []) (k : Nat) : ∀ (x1 : Int32) (x2 : Int32) (x3 : Int32) (p0_line : Nat → Int32), lf_X3_lineUp_12 F p0_size n_p0_weight p0_weight n_p0_line rec2 k x1 x2 x3 p0_line = some r → X_ p l e ({ frames := 0, cells := 0, slots := 0, locals := 0 } : Room) s m args below meth c Q D vwCl A 4 0 0 (W_X3 cI cZ h_p0 h_p0_symbol h_p0_weight h_p0_depth h_p0_line p0_size n_p0_symbol p0_symbol n_p0_weight p0_weight n_p0_depth p0_depth n_p0_line p0_line) [(0, .ref h_p0), (1, .int x1), (2, .int x2), (3, .int x3)] 12 [] := by
  intro x1 x2 x3 p0_line h
  exact lp_W (P := fun z => X_ p l e ({ frames := 0, cells := 0, slots := 0, locals := 0 } : Room) s m args below meth c Q D vwCl A 4 0 0 (W_X3 cI cZ h_p0 h_p0_symbol h_p0_weight h_p0_depth h_p0_line p0_size n_p0_symbol p0_symbol n_p0_weight p0_weight n_p0_depth p0_depth n_p0_line z.2.2.2) [(0, .ref h_p0), (1, .int z.1), (2, .int z.2.1), (3, .int z.2.2.1)] 12 []) (fun rec ih z hz => w_X3_lineUp_12 S hK hA hend hWp hrec2 (fun x1 x2 x3 p0_line hh => ih (x1, x2, x3, p0_line) hh)  z.1 z.2.1 z.2.2.1 z.2.2.2 hz) k (x1, x2, x3, p0_line) h 
noncomputable def bf_X3_lineUp_2 (F : Nat) (p0_size : Int32) (n_p0_weight : Nat) (p0_weight : Nat → Int32) (n_p0_line : Nat) (rec2 : Int32 → Int32 → (Nat → Int32) → Option ((Nat → Int32))) (x1 : Int32) (x2 : Int32) (p0_line : Nat → Int32) : Option ((Nat → Int32)) :=
  (if p0_size ≤ x2 then some (p0_line) else lf_X3_lineUp_12 F p0_size n_p0_weight p0_weight n_p0_line rec2 F x1 x2 x2 p0_line)
set_option maxRecDepth 100000 in
set_option maxHeartbeats 4000000 in
theorem w_X3_lineUp_2 (S : CallFix p m c cX3_lineUp 4 s args wsX3_lineUp RX3) (hK : K_ D vwCl [(cI, .int), (cZ, .boolean)] s) (hA : ∀ q, s.heap.size ≤ q → A q) {F : Nat} {p0_size : Int32} {n_p0_symbol : Nat} {p0_symbol : Nat → Int32} {n_p0_weight : Nat} {p0_weight : Nat → Int32} {n_p0_depth : Nat} {p0_depth : Nat → Int32} {n_p0_line : Nat} {h_p0 h_p0_symbol h_p0_weight h_p0_depth h_p0_line : Nat} {r : (Nat → Int32)} {Wp : va_W → Prop} (hend : ∀ (w1 : va_W) (pc : Nat) (lv : List (Nat × Value)), Wp w1 → decode cX3_lineUp pc = .ok (.return_, 1) → X_ p l e ({ frames := 0, cells := 0, slots := 0, locals := 0 } : Room) s m args below meth c Q D vwCl A 4 0 0 w1 lv pc []) (hWp : Wp (W_X3 cI cZ h_p0 h_p0_symbol h_p0_weight h_p0_depth h_p0_line p0_size n_p0_symbol p0_symbol n_p0_weight p0_weight n_p0_depth p0_depth n_p0_line r)) {rec2 : Int32 → Int32 → (Nat → Int32) → Option ((Nat → Int32))} (hrec2 : ∀ (x1 : Int32) (x2 : Int32) (p0_line : Nat → Int32), rec2 x1 x2 p0_line = some r → X_ p l e ({ frames := 0, cells := 0, slots := 0, locals := 0 } : Room) s m args below meth c Q D vwCl A 4 0 0 (W_X3 cI cZ h_p0 h_p0_symbol h_p0_weight h_p0_depth h_p0_line p0_size n_p0_symbol p0_symbol n_p0_weight p0_weight n_p0_depth p0_depth n_p0_line p0_line) [(0, .ref h_p0), (1, .int x1), (2, .int x2)] 2 []) : ∀ (x1 : Int32) (x2 : Int32) (p0_line : Nat → Int32), bf_X3_lineUp_2 F p0_size n_p0_weight p0_weight n_p0_line rec2 x1 x2 p0_line = some r → X_ p l e ({ frames := 0, cells := 0, slots := 0, locals := 0 } : Room) s m args below meth c Q D vwCl A 4 0 0 (W_X3 cI cZ h_p0 h_p0_symbol h_p0_weight h_p0_depth h_p0_line p0_size n_p0_symbol p0_symbol n_p0_weight p0_weight n_p0_depth p0_depth n_p0_line p0_line) [(0, .ref h_p0), (1, .int x1), (2, .int x2)] 2 [] := by
  intro x1 x2 p0_line h
  unfold bf_X3_lineUp_2 at h
  refine x_iload_n S dX3_lineUp_2 rfl 2 rfl ?_
  refine x_aload_n S dX3_lineUp_3 rfl 0 rfl ?_
  refine x_get S hK i_X3_lineUp_X3 0 rfl rfl 4 (by decide) k_X3_lineUp_22 rfl rfl dX3_lineUp_4 ?_
  refine x_icmp_ge S 75 dX3_lineUp_7 (by decide) h (fun h => ?_) (fun h => ?_)
  · obtain rfl := Option.some.inj h
    exact hend _ _ _ hWp dX3_lineUp_75
  · refine x_iload_n S dX3_lineUp_10 rfl 2 rfl ?_
    refine x_istore_n (lv' := [(3, .int x2), (0, .ref h_p0), (1, .int x1), (2, .int x2)]) S dX3_lineUp_11 rfl (by decide) rfl ?_
    refine x_lv [1, 2, 3, 0] (by rfl) ?_
    exact wl_X3_lineUp_12 S hK hA hend hWp hrec2 F x1 x2 x2 p0_line h
noncomputable def lf_X3_lineUp_2 (F : Nat) (p0_size : Int32) (n_p0_weight : Nat) (p0_weight : Nat → Int32) (n_p0_line : Nat)  (k : Nat) (x1 : Int32) (x2 : Int32) (p0_line : Nat → Int32) : Option ((Nat → Int32)) :=
  lp (fun (rec : Int32 × Int32 × (Nat → Int32) → Option ((Nat → Int32))) (z : Int32 × Int32 × (Nat → Int32)) => bf_X3_lineUp_2 F p0_size n_p0_weight p0_weight n_p0_line (fun x1 x2 p0_line => rec (x1, x2, p0_line)) z.1 z.2.1 z.2.2) k (x1, x2, p0_line)
set_option maxRecDepth 100000 in
set_option maxHeartbeats 4000000 in
theorem wl_X3_lineUp_2 (S : CallFix p m c cX3_lineUp 4 s args wsX3_lineUp RX3) (hK : K_ D vwCl [(cI, .int), (cZ, .boolean)] s) (hA : ∀ q, s.heap.size ≤ q → A q) {F : Nat} {p0_size : Int32} {n_p0_symbol : Nat} {p0_symbol : Nat → Int32} {n_p0_weight : Nat} {p0_weight : Nat → Int32} {n_p0_depth : Nat} {p0_depth : Nat → Int32} {n_p0_line : Nat} {h_p0 h_p0_symbol h_p0_weight h_p0_depth h_p0_line : Nat} {r : (Nat → Int32)} {Wp : va_W → Prop} (hend : ∀ (w1 : va_W) (pc : Nat) (lv : List (Nat × Value)), Wp w1 → decode cX3_lineUp pc = .ok (.return_, 1) → X_ p l e ({ frames := 0, cells := 0, slots := 0, locals := 0 } : Room) s m args below meth c Q D vwCl A 4 0 0 w1 lv pc []) (hWp : Wp (W_X3 cI cZ h_p0 h_p0_symbol h_p0_weight h_p0_depth h_p0_line p0_size n_p0_symbol p0_symbol n_p0_weight p0_weight n_p0_depth p0_depth n_p0_line r))   (k : Nat) : ∀ (x1 : Int32) (x2 : Int32) (p0_line : Nat → Int32), lf_X3_lineUp_2 F p0_size n_p0_weight p0_weight n_p0_line k x1 x2 p0_line = some r → X_ p l e ({ frames := 0, cells := 0, slots := 0, locals := 0 } : Room) s m args below meth c Q D vwCl A 4 0 0 (W_X3 cI cZ h_p0 h_p0_symbol h_p0_weight h_p0_depth h_p0_line p0_size n_p0_symbol p0_symbol n_p0_weight p0_weight n_p0_depth p0_depth n_p0_line p0_line) [(0, .ref h_p0), (1, .int x1), (2, .int x2)] 2 [] := by
  intro x1 x2 p0_line h
  exact lp_W (P := fun z => X_ p l e ({ frames := 0, cells := 0, slots := 0, locals := 0 } : Room) s m args below meth c Q D vwCl A 4 0 0 (W_X3 cI cZ h_p0 h_p0_symbol h_p0_weight h_p0_depth h_p0_line p0_size n_p0_symbol p0_symbol n_p0_weight p0_weight n_p0_depth p0_depth n_p0_line z.2.2) [(0, .ref h_p0), (1, .int z.1), (2, .int z.2.1)] 2 []) (fun rec ih z hz => w_X3_lineUp_2 S hK hA hend hWp (fun x1 x2 p0_line hh => ih (x1, x2, p0_line) hh)  z.1 z.2.1 z.2.2 hz) k (x1, x2, p0_line) h 
noncomputable def bf_X3_lineUp_0 (F : Nat) (p0_size : Int32) (n_p0_weight : Nat) (p0_weight : Nat → Int32) (n_p0_line : Nat)  (x1 : Int32) (p0_line : Nat → Int32) : Option ((Nat → Int32)) :=
  lf_X3_lineUp_2 F p0_size n_p0_weight p0_weight n_p0_line F x1 (0 : Int32) p0_line
set_option maxRecDepth 100000 in
set_option maxHeartbeats 4000000 in
theorem w_X3_lineUp_0 (S : CallFix p m c cX3_lineUp 4 s args wsX3_lineUp RX3) (hK : K_ D vwCl [(cI, .int), (cZ, .boolean)] s) (hA : ∀ q, s.heap.size ≤ q → A q) {F : Nat} {p0_size : Int32} {n_p0_symbol : Nat} {p0_symbol : Nat → Int32} {n_p0_weight : Nat} {p0_weight : Nat → Int32} {n_p0_depth : Nat} {p0_depth : Nat → Int32} {n_p0_line : Nat} {h_p0 h_p0_symbol h_p0_weight h_p0_depth h_p0_line : Nat} {r : (Nat → Int32)} {Wp : va_W → Prop} (hend : ∀ (w1 : va_W) (pc : Nat) (lv : List (Nat × Value)), Wp w1 → decode cX3_lineUp pc = .ok (.return_, 1) → X_ p l e ({ frames := 0, cells := 0, slots := 0, locals := 0 } : Room) s m args below meth c Q D vwCl A 4 0 0 w1 lv pc []) (hWp : Wp (W_X3 cI cZ h_p0 h_p0_symbol h_p0_weight h_p0_depth h_p0_line p0_size n_p0_symbol p0_symbol n_p0_weight p0_weight n_p0_depth p0_depth n_p0_line r))   : ∀ (x1 : Int32) (p0_line : Nat → Int32), bf_X3_lineUp_0 F p0_size n_p0_weight p0_weight n_p0_line x1 p0_line = some r → X_ p l e ({ frames := 0, cells := 0, slots := 0, locals := 0 } : Room) s m args below meth c Q D vwCl A 4 0 0 (W_X3 cI cZ h_p0 h_p0_symbol h_p0_weight h_p0_depth h_p0_line p0_size n_p0_symbol p0_symbol n_p0_weight p0_weight n_p0_depth p0_depth n_p0_line p0_line) [(0, .ref h_p0), (1, .int x1)] 0 [] := by
  intro x1 p0_line h
  unfold bf_X3_lineUp_0 at h
  refine x_iconst (v := 0) S dX3_lineUp_0 (by decide) ?_
  refine x_istore_n (lv' := [(2, .int (0 : Int32)), (0, .ref h_p0), (1, .int x1)]) S dX3_lineUp_1 rfl (by decide) rfl ?_
  refine x_lv [1, 2, 0] (by rfl) ?_
  exact wl_X3_lineUp_2 S hK hA hend hWp  F x1 (0 : Int32) p0_line h
noncomputable def fn_X3_lineUp (F : Nat) (p0_size : Int32) (n_p0_weight : Nat) (p0_weight : Nat → Int32) (n_p0_line : Nat) (p0_line : Nat → Int32) (x1 : Int32) : Option ((Nat → Int32)) :=
  bf_X3_lineUp_0 F p0_size n_p0_weight p0_weight n_p0_line x1 p0_line
set_option maxRecDepth 100000 in
set_option maxHeartbeats 4000000 in
theorem c_X3_lineUp (l : Launch) (D : va_G) (cI cZ : ClassId) (F : Nat) (h_p0 h_p0_symbol h_p0_weight h_p0_depth h_p0_line : Nat) (p0_size : Int32) (n_p0_symbol : Nat) (p0_symbol : Nat → Int32) (n_p0_weight : Nat) (p0_weight : Nat → Int32) (n_p0_depth : Nat) (p0_depth : Nat → Int32) (n_p0_line : Nat) (p0_line : Nat → Int32) (x1 : Int32) (r : (Nat → Int32)) (h : fn_X3_lineUp F p0_size n_p0_weight p0_weight n_p0_line p0_line x1 = some r) : Cv l yX3_lineUp wsX3_lineUp ({ frames := 0, cells := 0, slots := 0, locals := 0 } : Room) D vwCl [(cI, .int), (cZ, .boolean)] [.ref h_p0, .int x1] (W_X3 cI cZ h_p0 h_p0_symbol h_p0_weight h_p0_depth h_p0_line p0_size n_p0_symbol p0_symbol n_p0_weight p0_weight n_p0_depth p0_depth n_p0_line p0_line) (fun w => w = (W_X3 cI cZ h_p0 h_p0_symbol h_p0_weight h_p0_depth h_p0_line p0_size n_p0_symbol p0_symbol n_p0_weight p0_weight n_p0_depth p0_depth n_p0_line r)) 0 0 :=
  Cv.ofv (by decide) rfl (Nat.le_of_ble_eq_true rfl) (fun p e s m args below meth c Q A S hK hA hname hend => w_X3_lineUp_0 S hK hA hend rfl x1 p0_line h)
end

/-! ===== PrefixSmith$Leaves.lineUpRising()V ===== -/
section
variable {p : Program} {l : Launch} {e : Env} {s : State} {m : MethodId} {args : Array Value} {below : List Frame} {meth : Method} {c : Code} {Q : State → Prop} {D : va_G} {A : Nat → Prop} {cI cZ : ClassId}
noncomputable def bf_X3_lineUpRising_0 (F : Nat) (p0_size : Int32) (n_p0_weight : Nat) (p0_weight : Nat → Int32) (n_p0_line : Nat)  (p0_line : Nat → Int32) : Option ((Nat → Int32)) :=
  ((fn_X3_lineUp F p0_size n_p0_weight p0_weight n_p0_line p0_line (1 : Int32)).bind fun v2 => some (v2))
set_option maxRecDepth 100000 in
set_option maxHeartbeats 4000000 in
theorem w_X3_lineUpRising_0 (S : CallFix p m c cX3_lineUpRising 1 s args wsX3_lineUpRising RX3) (hK : K_ D vwCl [(cI, .int), (cZ, .boolean)] s) (hA : ∀ q, s.heap.size ≤ q → A q) {F : Nat} {p0_size : Int32} {n_p0_symbol : Nat} {p0_symbol : Nat → Int32} {n_p0_weight : Nat} {p0_weight : Nat → Int32} {n_p0_depth : Nat} {p0_depth : Nat → Int32} {n_p0_line : Nat} {h_p0 h_p0_symbol h_p0_weight h_p0_depth h_p0_line : Nat} {r : (Nat → Int32)} {Wp : va_W → Prop} (hend : ∀ (w1 : va_W) (pc : Nat) (lv : List (Nat × Value)), Wp w1 → decode cX3_lineUpRising pc = .ok (.return_, 1) → X_ p l e ({ frames := 1, cells := 0, slots := 0, locals := 23 } : Room) s m args below meth c Q D vwCl A 1 0 0 w1 lv pc []) (hWp : Wp (W_X3 cI cZ h_p0 h_p0_symbol h_p0_weight h_p0_depth h_p0_line p0_size n_p0_symbol p0_symbol n_p0_weight p0_weight n_p0_depth p0_depth n_p0_line r))   : ∀ (p0_line : Nat → Int32), bf_X3_lineUpRising_0 F p0_size n_p0_weight p0_weight n_p0_line p0_line = some r → X_ p l e ({ frames := 1, cells := 0, slots := 0, locals := 23 } : Room) s m args below meth c Q D vwCl A 1 0 0 (W_X3 cI cZ h_p0 h_p0_symbol h_p0_weight h_p0_depth h_p0_line p0_size n_p0_symbol p0_symbol n_p0_weight p0_weight n_p0_depth p0_depth n_p0_line p0_line) [(0, .ref h_p0)] 0 [] := by
  intro p0_line h
  unfold bf_X3_lineUpRising_0 at h
  refine x_aload_n S dX3_lineUpRising_0 rfl 0 rfl ?_
  refine x_iconst (v := 1) S dX3_lineUpRising_1 (by decide) ?_
  obtain ⟨v2, h2, h⟩ := gbind h
  refine x_callVv S hK hA (c_X3_lineUp l D cI cZ F h_p0 h_p0_symbol h_p0_weight h_p0_depth h_p0_line p0_size n_p0_symbol p0_symbol n_p0_weight p0_weight n_p0_depth p0_depth n_p0_line p0_line (1 : Int32) v2 h2) (cwV 1 S.2.2.2.2 gX3_lineUpRising_X3_lineUp rfl rfl rfl (by decide +kernel) ⟨(Nat.le_of_ble_eq_true rfl), (Nat.le_of_ble_eq_true rfl)⟩) [0, 1, 2, 3, 4] [] rfl (by decide) rfl (by decide) (by decide) 0 3 rfl rfl rfl (Nat.le_of_ble_eq_true rfl) rfl dX3_lineUpRising_2 ⟨(Nat.le_of_ble_eq_true rfl), (Nat.le_of_ble_eq_true rfl)⟩ (fun w1 hw1 => ?_)
  subst hw1
  refine x_ws (ws' := (W_X3 cI cZ h_p0 h_p0_symbol h_p0_weight h_p0_depth h_p0_line p0_size n_p0_symbol p0_symbol n_p0_weight p0_weight n_p0_depth p0_depth n_p0_line v2)) [0, 1, 2, 3, 4] (by decide) (by rfl) ?_
  obtain rfl := Option.some.inj h
  exact hend _ _ _ hWp dX3_lineUpRising_5
noncomputable def fn_X3_lineUpRising (F : Nat) (p0_size : Int32) (n_p0_weight : Nat) (p0_weight : Nat → Int32) (n_p0_line : Nat) (p0_line : Nat → Int32)  : Option ((Nat → Int32)) :=
  bf_X3_lineUpRising_0 F p0_size n_p0_weight p0_weight n_p0_line p0_line
set_option maxRecDepth 100000 in
set_option maxHeartbeats 4000000 in
theorem c_X3_lineUpRising (l : Launch) (D : va_G) (cI cZ : ClassId) (F : Nat) (h_p0 h_p0_symbol h_p0_weight h_p0_depth h_p0_line : Nat) (p0_size : Int32) (n_p0_symbol : Nat) (p0_symbol : Nat → Int32) (n_p0_weight : Nat) (p0_weight : Nat → Int32) (n_p0_depth : Nat) (p0_depth : Nat → Int32) (n_p0_line : Nat) (p0_line : Nat → Int32)  (r : (Nat → Int32)) (h : fn_X3_lineUpRising F p0_size n_p0_weight p0_weight n_p0_line p0_line = some r) : Cv l yX3_lineUpRising wsX3_lineUpRising ({ frames := 1, cells := 0, slots := 0, locals := 23 } : Room) D vwCl [(cI, .int), (cZ, .boolean)] [.ref h_p0] (W_X3 cI cZ h_p0 h_p0_symbol h_p0_weight h_p0_depth h_p0_line p0_size n_p0_symbol p0_symbol n_p0_weight p0_weight n_p0_depth p0_depth n_p0_line p0_line) (fun w => w = (W_X3 cI cZ h_p0 h_p0_symbol h_p0_weight h_p0_depth h_p0_line p0_size n_p0_symbol p0_symbol n_p0_weight p0_weight n_p0_depth p0_depth n_p0_line r)) 0 0 :=
  Cv.ofv (by decide) rfl (Nat.le_of_ble_eq_true rfl) (fun p e s m args below meth c Q A S hK hA hname hend => w_X3_lineUpRising_0 S hK hA hend rfl p0_line h)
end

/-! ===== PrefixSmith$Leaves.lineUpFalling()V ===== -/
section
variable {p : Program} {l : Launch} {e : Env} {s : State} {m : MethodId} {args : Array Value} {below : List Frame} {meth : Method} {c : Code} {Q : State → Prop} {D : va_G} {A : Nat → Prop} {cI cZ : ClassId}
noncomputable def bf_X3_lineUpFalling_0 (F : Nat) (p0_size : Int32) (n_p0_weight : Nat) (p0_weight : Nat → Int32) (n_p0_line : Nat)  (p0_line : Nat → Int32) : Option ((Nat → Int32)) :=
  ((fn_X3_lineUp F p0_size n_p0_weight p0_weight n_p0_line p0_line (-1 : Int32)).bind fun v2 => some (v2))
set_option maxRecDepth 100000 in
set_option maxHeartbeats 4000000 in
theorem w_X3_lineUpFalling_0 (S : CallFix p m c cX3_lineUpFalling 1 s args wsX3_lineUpFalling RX3) (hK : K_ D vwCl [(cI, .int), (cZ, .boolean)] s) (hA : ∀ q, s.heap.size ≤ q → A q) {F : Nat} {p0_size : Int32} {n_p0_symbol : Nat} {p0_symbol : Nat → Int32} {n_p0_weight : Nat} {p0_weight : Nat → Int32} {n_p0_depth : Nat} {p0_depth : Nat → Int32} {n_p0_line : Nat} {h_p0 h_p0_symbol h_p0_weight h_p0_depth h_p0_line : Nat} {r : (Nat → Int32)} {Wp : va_W → Prop} (hend : ∀ (w1 : va_W) (pc : Nat) (lv : List (Nat × Value)), Wp w1 → decode cX3_lineUpFalling pc = .ok (.return_, 1) → X_ p l e ({ frames := 1, cells := 0, slots := 0, locals := 23 } : Room) s m args below meth c Q D vwCl A 1 0 0 w1 lv pc []) (hWp : Wp (W_X3 cI cZ h_p0 h_p0_symbol h_p0_weight h_p0_depth h_p0_line p0_size n_p0_symbol p0_symbol n_p0_weight p0_weight n_p0_depth p0_depth n_p0_line r))   : ∀ (p0_line : Nat → Int32), bf_X3_lineUpFalling_0 F p0_size n_p0_weight p0_weight n_p0_line p0_line = some r → X_ p l e ({ frames := 1, cells := 0, slots := 0, locals := 23 } : Room) s m args below meth c Q D vwCl A 1 0 0 (W_X3 cI cZ h_p0 h_p0_symbol h_p0_weight h_p0_depth h_p0_line p0_size n_p0_symbol p0_symbol n_p0_weight p0_weight n_p0_depth p0_depth n_p0_line p0_line) [(0, .ref h_p0)] 0 [] := by
  intro p0_line h
  unfold bf_X3_lineUpFalling_0 at h
  refine x_aload_n S dX3_lineUpFalling_0 rfl 0 rfl ?_
  refine x_iconst (v := -1) S dX3_lineUpFalling_1 (by decide) ?_
  obtain ⟨v2, h2, h⟩ := gbind h
  refine x_callVv S hK hA (c_X3_lineUp l D cI cZ F h_p0 h_p0_symbol h_p0_weight h_p0_depth h_p0_line p0_size n_p0_symbol p0_symbol n_p0_weight p0_weight n_p0_depth p0_depth n_p0_line p0_line (-1 : Int32) v2 h2) (cwV 1 S.2.2.2.2 gX3_lineUpFalling_X3_lineUp rfl rfl rfl (by decide +kernel) ⟨(Nat.le_of_ble_eq_true rfl), (Nat.le_of_ble_eq_true rfl)⟩) [0, 1, 2, 3, 4] [] rfl (by decide) rfl (by decide) (by decide) 0 3 rfl rfl rfl (Nat.le_of_ble_eq_true rfl) rfl dX3_lineUpFalling_2 ⟨(Nat.le_of_ble_eq_true rfl), (Nat.le_of_ble_eq_true rfl)⟩ (fun w1 hw1 => ?_)
  subst hw1
  refine x_ws (ws' := (W_X3 cI cZ h_p0 h_p0_symbol h_p0_weight h_p0_depth h_p0_line p0_size n_p0_symbol p0_symbol n_p0_weight p0_weight n_p0_depth p0_depth n_p0_line v2)) [0, 1, 2, 3, 4] (by decide) (by rfl) ?_
  obtain rfl := Option.some.inj h
  exact hend _ _ _ hWp dX3_lineUpFalling_5
noncomputable def fn_X3_lineUpFalling (F : Nat) (p0_size : Int32) (n_p0_weight : Nat) (p0_weight : Nat → Int32) (n_p0_line : Nat) (p0_line : Nat → Int32)  : Option ((Nat → Int32)) :=
  bf_X3_lineUpFalling_0 F p0_size n_p0_weight p0_weight n_p0_line p0_line
set_option maxRecDepth 100000 in
set_option maxHeartbeats 4000000 in
theorem c_X3_lineUpFalling (l : Launch) (D : va_G) (cI cZ : ClassId) (F : Nat) (h_p0 h_p0_symbol h_p0_weight h_p0_depth h_p0_line : Nat) (p0_size : Int32) (n_p0_symbol : Nat) (p0_symbol : Nat → Int32) (n_p0_weight : Nat) (p0_weight : Nat → Int32) (n_p0_depth : Nat) (p0_depth : Nat → Int32) (n_p0_line : Nat) (p0_line : Nat → Int32)  (r : (Nat → Int32)) (h : fn_X3_lineUpFalling F p0_size n_p0_weight p0_weight n_p0_line p0_line = some r) : Cv l yX3_lineUpFalling wsX3_lineUpFalling ({ frames := 1, cells := 0, slots := 0, locals := 23 } : Room) D vwCl [(cI, .int), (cZ, .boolean)] [.ref h_p0] (W_X3 cI cZ h_p0 h_p0_symbol h_p0_weight h_p0_depth h_p0_line p0_size n_p0_symbol p0_symbol n_p0_weight p0_weight n_p0_depth p0_depth n_p0_line p0_line) (fun w => w = (W_X3 cI cZ h_p0 h_p0_symbol h_p0_weight h_p0_depth h_p0_line p0_size n_p0_symbol p0_symbol n_p0_weight p0_weight n_p0_depth p0_depth n_p0_line r)) 0 0 :=
  Cv.ofv (by decide) rfl (Nat.le_of_ble_eq_true rfl) (fun p e s m args below meth c Q A S hK hA hname hend => w_X3_lineUpFalling_0 S hK hA hend rfl p0_line h)
end

/-! ===== PrefixSmith$Leaves.deepest()I ===== -/
theorem i_X3_deepest_X3 : ∀ w ∈ u_ws RX3 TX3 5, w ∈ wsX3_deepest := by decide +kernel
theorem k_X3_deepest_22 : Cond.fieldLink RX3 22 "PrefixSmith$Leaves" "size" "I" ∈ wsX3_deepest := by decide +kernel
theorem k_X3_deepest_16 : Cond.fieldLink RX3 16 "PrefixSmith$Leaves" "depth" "[I" ∈ wsX3_deepest := by decide +kernel
theorem k_X3_deepest_30 : Cond.methodLink RX3 30 Lib.Math.max.name ∈ wsX3_deepest := by decide +kernel
theorem ks_X3_deepest_max : Cond.static Lib.Math.max.name ∈ wsX3_deepest := by decide +kernel
theorem ki_X3_deepest_Math : Cond.initialized "java/lang/Math" ∈ wsX3_deepest := by decide +kernel
theorem kc_X3_deepest_max : Cond.code Lib.Math.max.name Lib.Math.max.code 2 (some .int) ∈ wsX3_deepest := by decide +kernel
section
variable {p : Program} {l : Launch} {e : Env} {s : State} {m : MethodId} {args : Array Value} {below : List Frame} {meth : Method} {c : Code} {Q : State → Prop} {D : va_G} {A : Nat → Prop} {cI cZ : ClassId}
noncomputable def bf_X3_deepest_4 (F : Nat) (p0_size : Int32) (n_p0_depth : Nat) (p0_depth : Nat → Int32) (rec4 : Int32 → Int32 → Option (Int32)) (x1 : Int32) (x2 : Int32) : Option (Int32) :=
  (if p0_size ≤ x2 then some (x1) else (if x2 < 0 ∨ n_p0_depth ≤ (x2).toNatClampNeg then none else rec4 (if x1 < (p0_depth (x2).toNatClampNeg) then (p0_depth (x2).toNatClampNeg) else x1) (x2 + (1 : Int32))))
set_option maxRecDepth 100000 in
set_option maxHeartbeats 4000000 in
theorem w_X3_deepest_4 (S : CallFix p m c cX3_deepest 3 s args wsX3_deepest RX3) (hK : K_ D vwCl [(cI, .int), (cZ, .boolean)] s) (hA : ∀ q, s.heap.size ≤ q → A q) {F : Nat} {p0_size : Int32} {n_p0_symbol : Nat} {p0_symbol : Nat → Int32} {n_p0_weight : Nat} {p0_weight : Nat → Int32} {n_p0_depth : Nat} {p0_depth : Nat → Int32} {n_p0_line : Nat} {p0_line : Nat → Int32} {h_p0 h_p0_symbol h_p0_weight h_p0_depth h_p0_line : Nat} {r : Int32} {Wp : va_W → Prop} (hend : ∀ (w1 : va_W) (pc : Nat) (lv : List (Nat × Value)), Wp w1 → decode cX3_deepest pc = .ok (.ireturn, 1) → X_ p l e ({ frames := 1, cells := 0, slots := 0, locals := 21 } : Room) s m args below meth c Q D vwCl A 3 0 0 w1 lv pc [.int r]) (hWp : Wp (W_X3 cI cZ h_p0 h_p0_symbol h_p0_weight h_p0_depth h_p0_line p0_size n_p0_symbol p0_symbol n_p0_weight p0_weight n_p0_depth p0_depth n_p0_line p0_line)) {rec4 : Int32 → Int32 → Option (Int32)} (hrec4 : ∀ (x1 : Int32) (x2 : Int32), rec4 x1 x2 = some r → X_ p l e ({ frames := 1, cells := 0, slots := 0, locals := 21 } : Room) s m args below meth c Q D vwCl A 3 0 0 (W_X3 cI cZ h_p0 h_p0_symbol h_p0_weight h_p0_depth h_p0_line p0_size n_p0_symbol p0_symbol n_p0_weight p0_weight n_p0_depth p0_depth n_p0_line p0_line) [(0, .ref h_p0), (1, .int x1), (2, .int x2)] 4 []) : ∀ (x1 : Int32) (x2 : Int32), bf_X3_deepest_4 F p0_size n_p0_depth p0_depth rec4 x1 x2 = some r → X_ p l e ({ frames := 1, cells := 0, slots := 0, locals := 21 } : Room) s m args below meth c Q D vwCl A 3 0 0 (W_X3 cI cZ h_p0 h_p0_symbol h_p0_weight h_p0_depth h_p0_line p0_size n_p0_symbol p0_symbol n_p0_weight p0_weight n_p0_depth p0_depth n_p0_line p0_line) [(0, .ref h_p0), (1, .int x1), (2, .int x2)] 4 [] := by
  intro x1 x2 h
  unfold bf_X3_deepest_4 at h
  refine x_iload_n S dX3_deepest_4 rfl 2 rfl ?_
  refine x_aload_n S dX3_deepest_5 rfl 0 rfl ?_
  refine x_get S hK i_X3_deepest_X3 0 rfl rfl 4 (by decide) k_X3_deepest_22 rfl rfl dX3_deepest_6 ?_
  refine x_icmp_ge S 29 dX3_deepest_9 (by decide) h (fun h => ?_) (fun h => ?_)
  · refine x_iload_n S dX3_deepest_29 rfl 1 rfl ?_
    obtain rfl := Option.some.inj h
    exact hend _ _ _ hWp dX3_deepest_30
  · refine x_iload_n S dX3_deepest_12 rfl 1 rfl ?_
    refine x_aload_n S dX3_deepest_13 rfl 0 rfl ?_
    refine x_get S hK i_X3_deepest_X3 0 rfl rfl 2 (by decide) k_X3_deepest_16 rfl rfl dX3_deepest_14 ?_
    refine x_iload_n S dX3_deepest_17 rfl 2 rfl ?_
    refine x_iald S hK 3 0 rfl rfl dX3_deepest_18 h (fun h => ?_)
    refine x_mmax S k_X3_deepest_30 ks_X3_deepest_max ki_X3_deepest_Math kc_X3_deepest_max (Nat.le_of_ble_eq_true rfl) (Nat.le_of_ble_eq_true rfl) (Nat.le_of_ble_eq_true rfl) (Nat.le_of_ble_eq_true rfl) dX3_deepest_19 ?_
    refine x_istore_n (lv' := [(1, .int (if x1 < (p0_depth (x2).toNatClampNeg) then (p0_depth (x2).toNatClampNeg) else x1)), (0, .ref h_p0), (2, .int x2)]) S dX3_deepest_22 rfl (by decide) rfl ?_
    refine x_iinc (v := x2 + (1 : Int32)) (lv' := [(2, .int (x2 + (1 : Int32))), (1, .int (if x1 < (p0_depth (x2).toNatClampNeg) then (p0_depth (x2).toNatClampNeg) else x1)), (0, .ref h_p0)]) S dX3_deepest_23 2 rfl rfl (by decide) rfl ?_
    refine x_goto S 4 dX3_deepest_26 (by decide) ?_
    refine x_lv [2, 1, 0] (by rfl) ?_
    exact hrec4 (if x1 < (p0_depth (x2).toNatClampNeg) then (p0_depth (x2).toNatClampNeg) else x1) (x2 + (1 : Int32)) h
noncomputable def lf_X3_deepest_4 (F : Nat) (p0_size : Int32) (n_p0_depth : Nat) (p0_depth : Nat → Int32)  (k : Nat) (x1 : Int32) (x2 : Int32) : Option (Int32) :=
  lp (fun (rec : Int32 × Int32 → Option (Int32)) (z : Int32 × Int32) => bf_X3_deepest_4 F p0_size n_p0_depth p0_depth (fun x1 x2 => rec (x1, x2)) z.1 z.2) k (x1, x2)
set_option maxRecDepth 100000 in
set_option maxHeartbeats 4000000 in
theorem wl_X3_deepest_4 (S : CallFix p m c cX3_deepest 3 s args wsX3_deepest RX3) (hK : K_ D vwCl [(cI, .int), (cZ, .boolean)] s) (hA : ∀ q, s.heap.size ≤ q → A q) {F : Nat} {p0_size : Int32} {n_p0_symbol : Nat} {p0_symbol : Nat → Int32} {n_p0_weight : Nat} {p0_weight : Nat → Int32} {n_p0_depth : Nat} {p0_depth : Nat → Int32} {n_p0_line : Nat} {p0_line : Nat → Int32} {h_p0 h_p0_symbol h_p0_weight h_p0_depth h_p0_line : Nat} {r : Int32} {Wp : va_W → Prop} (hend : ∀ (w1 : va_W) (pc : Nat) (lv : List (Nat × Value)), Wp w1 → decode cX3_deepest pc = .ok (.ireturn, 1) → X_ p l e ({ frames := 1, cells := 0, slots := 0, locals := 21 } : Room) s m args below meth c Q D vwCl A 3 0 0 w1 lv pc [.int r]) (hWp : Wp (W_X3 cI cZ h_p0 h_p0_symbol h_p0_weight h_p0_depth h_p0_line p0_size n_p0_symbol p0_symbol n_p0_weight p0_weight n_p0_depth p0_depth n_p0_line p0_line))   (k : Nat) : ∀ (x1 : Int32) (x2 : Int32), lf_X3_deepest_4 F p0_size n_p0_depth p0_depth k x1 x2 = some r → X_ p l e ({ frames := 1, cells := 0, slots := 0, locals := 21 } : Room) s m args below meth c Q D vwCl A 3 0 0 (W_X3 cI cZ h_p0 h_p0_symbol h_p0_weight h_p0_depth h_p0_line p0_size n_p0_symbol p0_symbol n_p0_weight p0_weight n_p0_depth p0_depth n_p0_line p0_line) [(0, .ref h_p0), (1, .int x1), (2, .int x2)] 4 [] := by
  intro x1 x2 h
  exact lp_W (P := fun z => X_ p l e ({ frames := 1, cells := 0, slots := 0, locals := 21 } : Room) s m args below meth c Q D vwCl A 3 0 0 (W_X3 cI cZ h_p0 h_p0_symbol h_p0_weight h_p0_depth h_p0_line p0_size n_p0_symbol p0_symbol n_p0_weight p0_weight n_p0_depth p0_depth n_p0_line p0_line) [(0, .ref h_p0), (1, .int z.1), (2, .int z.2)] 4 []) (fun rec ih z hz => w_X3_deepest_4 S hK hA hend hWp (fun x1 x2 hh => ih (x1, x2) hh)  z.1 z.2 hz) k (x1, x2) h 
noncomputable def bf_X3_deepest_0 (F : Nat) (p0_size : Int32) (n_p0_depth : Nat) (p0_depth : Nat → Int32)   : Option (Int32) :=
  lf_X3_deepest_4 F p0_size n_p0_depth p0_depth F (0 : Int32) (0 : Int32)
set_option maxRecDepth 100000 in
set_option maxHeartbeats 4000000 in
theorem w_X3_deepest_0 (S : CallFix p m c cX3_deepest 3 s args wsX3_deepest RX3) (hK : K_ D vwCl [(cI, .int), (cZ, .boolean)] s) (hA : ∀ q, s.heap.size ≤ q → A q) {F : Nat} {p0_size : Int32} {n_p0_symbol : Nat} {p0_symbol : Nat → Int32} {n_p0_weight : Nat} {p0_weight : Nat → Int32} {n_p0_depth : Nat} {p0_depth : Nat → Int32} {n_p0_line : Nat} {p0_line : Nat → Int32} {h_p0 h_p0_symbol h_p0_weight h_p0_depth h_p0_line : Nat} {r : Int32} {Wp : va_W → Prop} (hend : ∀ (w1 : va_W) (pc : Nat) (lv : List (Nat × Value)), Wp w1 → decode cX3_deepest pc = .ok (.ireturn, 1) → X_ p l e ({ frames := 1, cells := 0, slots := 0, locals := 21 } : Room) s m args below meth c Q D vwCl A 3 0 0 w1 lv pc [.int r]) (hWp : Wp (W_X3 cI cZ h_p0 h_p0_symbol h_p0_weight h_p0_depth h_p0_line p0_size n_p0_symbol p0_symbol n_p0_weight p0_weight n_p0_depth p0_depth n_p0_line p0_line))   : bf_X3_deepest_0 F p0_size n_p0_depth p0_depth = some r → X_ p l e ({ frames := 1, cells := 0, slots := 0, locals := 21 } : Room) s m args below meth c Q D vwCl A 3 0 0 (W_X3 cI cZ h_p0 h_p0_symbol h_p0_weight h_p0_depth h_p0_line p0_size n_p0_symbol p0_symbol n_p0_weight p0_weight n_p0_depth p0_depth n_p0_line p0_line) [(0, .ref h_p0)] 0 [] := by
  intro h
  unfold bf_X3_deepest_0 at h
  refine x_iconst (v := 0) S dX3_deepest_0 (by decide) ?_
  refine x_istore_n (lv' := [(1, .int (0 : Int32)), (0, .ref h_p0)]) S dX3_deepest_1 rfl (by decide) rfl ?_
  refine x_iconst (v := 0) S dX3_deepest_2 (by decide) ?_
  refine x_istore_n (lv' := [(2, .int (0 : Int32)), (1, .int (0 : Int32)), (0, .ref h_p0)]) S dX3_deepest_3 rfl (by decide) rfl ?_
  refine x_lv [2, 1, 0] (by rfl) ?_
  exact wl_X3_deepest_4 S hK hA hend hWp  F (0 : Int32) (0 : Int32) h
noncomputable def fn_X3_deepest (F : Nat) (p0_size : Int32) (n_p0_depth : Nat) (p0_depth : Nat → Int32)  : Option (Int32) :=
  bf_X3_deepest_0 F p0_size n_p0_depth p0_depth
set_option maxRecDepth 100000 in
set_option maxHeartbeats 4000000 in
theorem c_X3_deepest (l : Launch) (D : va_G) (cI cZ : ClassId) (F : Nat) (h_p0 h_p0_symbol h_p0_weight h_p0_depth h_p0_line : Nat) (p0_size : Int32) (n_p0_symbol : Nat) (p0_symbol : Nat → Int32) (n_p0_weight : Nat) (p0_weight : Nat → Int32) (n_p0_depth : Nat) (p0_depth : Nat → Int32) (n_p0_line : Nat) (p0_line : Nat → Int32)  (r : Int32) (h : fn_X3_deepest F p0_size n_p0_depth p0_depth = some r) : Ci l yX3_deepest wsX3_deepest ({ frames := 1, cells := 0, slots := 0, locals := 21 } : Room) D vwCl [(cI, .int), (cZ, .boolean)] [.ref h_p0] (W_X3 cI cZ h_p0 h_p0_symbol h_p0_weight h_p0_depth h_p0_line p0_size n_p0_symbol p0_symbol n_p0_weight p0_weight n_p0_depth p0_depth n_p0_line p0_line) r (fun w => w = (W_X3 cI cZ h_p0 h_p0_symbol h_p0_weight h_p0_depth h_p0_line p0_size n_p0_symbol p0_symbol n_p0_weight p0_weight n_p0_depth p0_depth n_p0_line p0_line)) 0 0 :=
  Ci.ofi (by decide) rfl (Nat.le_of_ble_eq_true rfl) (fun p e s m args below meth c Q A S hK hA hname hend => w_X3_deepest_0 S hK hA hend rfl  h)
end

/-! ===== PrefixSmith$Leaves.cost()J ===== -/
theorem i_X3_cost_X3 : ∀ w ∈ u_ws RX3 TX3 5, w ∈ wsX3_cost := by decide +kernel
theorem k_X3_cost_22 : Cond.fieldLink RX3 22 "PrefixSmith$Leaves" "size" "I" ∈ wsX3_cost := by decide +kernel
theorem k_X3_cost_13 : Cond.fieldLink RX3 13 "PrefixSmith$Leaves" "weight" "[I" ∈ wsX3_cost := by decide +kernel
theorem k_X3_cost_16 : Cond.fieldLink RX3 16 "PrefixSmith$Leaves" "depth" "[I" ∈ wsX3_cost := by decide +kernel
section
variable {p : Program} {l : Launch} {e : Env} {s : State} {m : MethodId} {args : Array Value} {below : List Frame} {meth : Method} {c : Code} {Q : State → Prop} {D : va_G} {A : Nat → Prop} {cI cZ : ClassId}
noncomputable def bf_X3_cost_4 (F : Nat) (p0_size : Int32) (n_p0_weight : Nat) (p0_weight : Nat → Int32) (n_p0_depth : Nat) (p0_depth : Nat → Int32) (rec4 : Int64 → Int32 → Option (Int64)) (x1 : Int64) (x3 : Int32) : Option (Int64) :=
  (if p0_size ≤ x3 then some (x1) else (if x3 < 0 ∨ n_p0_weight ≤ (x3).toNatClampNeg then none else (if x3 < 0 ∨ n_p0_depth ≤ (x3).toNatClampNeg then none else rec4 (x1 + ((((p0_weight (x3).toNatClampNeg)).toInt64) * (((p0_depth (x3).toNatClampNeg)).toInt64))) (x3 + (1 : Int32)))))
set_option maxRecDepth 100000 in
set_option maxHeartbeats 4000000 in
theorem w_X3_cost_4 (S : CallFix p m c cX3_cost 4 s args wsX3_cost RX3) (hK : K_ D vwCl [(cI, .int), (cZ, .boolean)] s) (hA : ∀ q, s.heap.size ≤ q → A q) {F : Nat} {p0_size : Int32} {n_p0_symbol : Nat} {p0_symbol : Nat → Int32} {n_p0_weight : Nat} {p0_weight : Nat → Int32} {n_p0_depth : Nat} {p0_depth : Nat → Int32} {n_p0_line : Nat} {p0_line : Nat → Int32} {h_p0 h_p0_symbol h_p0_weight h_p0_depth h_p0_line : Nat} {r : Int64} {Wp : va_W → Prop} (hend : ∀ (w1 : va_W) (pc : Nat) (lv : List (Nat × Value)), Wp w1 → decode cX3_cost pc = .ok (.lreturn, 1) → X_ p l e ({ frames := 0, cells := 0, slots := 0, locals := 0 } : Room) s m args below meth c Q D vwCl A 4 0 0 w1 lv pc [.long r]) (hWp : Wp (W_X3 cI cZ h_p0 h_p0_symbol h_p0_weight h_p0_depth h_p0_line p0_size n_p0_symbol p0_symbol n_p0_weight p0_weight n_p0_depth p0_depth n_p0_line p0_line)) {rec4 : Int64 → Int32 → Option (Int64)} (hrec4 : ∀ (x1 : Int64) (x3 : Int32), rec4 x1 x3 = some r → X_ p l e ({ frames := 0, cells := 0, slots := 0, locals := 0 } : Room) s m args below meth c Q D vwCl A 4 0 0 (W_X3 cI cZ h_p0 h_p0_symbol h_p0_weight h_p0_depth h_p0_line p0_size n_p0_symbol p0_symbol n_p0_weight p0_weight n_p0_depth p0_depth n_p0_line p0_line) [(0, .ref h_p0), (1, .long x1), (3, .int x3)] 4 []) : ∀ (x1 : Int64) (x3 : Int32), bf_X3_cost_4 F p0_size n_p0_weight p0_weight n_p0_depth p0_depth rec4 x1 x3 = some r → X_ p l e ({ frames := 0, cells := 0, slots := 0, locals := 0 } : Room) s m args below meth c Q D vwCl A 4 0 0 (W_X3 cI cZ h_p0 h_p0_symbol h_p0_weight h_p0_depth h_p0_line p0_size n_p0_symbol p0_symbol n_p0_weight p0_weight n_p0_depth p0_depth n_p0_line p0_line) [(0, .ref h_p0), (1, .long x1), (3, .int x3)] 4 [] := by
  intro x1 x3 h
  unfold bf_X3_cost_4 at h
  refine x_iload_n S dX3_cost_4 rfl 2 rfl ?_
  refine x_aload_n S dX3_cost_5 rfl 0 rfl ?_
  refine x_get S hK i_X3_cost_X3 0 rfl rfl 4 (by decide) k_X3_cost_22 rfl rfl dX3_cost_6 ?_
  refine x_icmp_ge S 36 dX3_cost_9 (by decide) h (fun h => ?_) (fun h => ?_)
  · refine x_lload_n S dX3_cost_36 rfl 1 rfl ?_
    obtain rfl := Option.some.inj h
    exact hend _ _ _ hWp dX3_cost_37
  · refine x_lload_n S dX3_cost_12 rfl 1 rfl ?_
    refine x_aload_n S dX3_cost_13 rfl 0 rfl ?_
    refine x_get S hK i_X3_cost_X3 0 rfl rfl 1 (by decide) k_X3_cost_13 rfl rfl dX3_cost_14 ?_
    refine x_iload_n S dX3_cost_17 rfl 2 rfl ?_
    refine x_iald S hK 2 0 rfl rfl dX3_cost_18 h (fun h => ?_)
    refine x_i2l S dX3_cost_19 ?_
    refine x_aload_n S dX3_cost_20 rfl 0 rfl ?_
    refine x_get S hK i_X3_cost_X3 0 rfl rfl 2 (by decide) k_X3_cost_16 rfl rfl dX3_cost_21 ?_
    refine x_iload_n S dX3_cost_24 rfl 2 rfl ?_
    refine x_iald S hK 3 0 rfl rfl dX3_cost_25 h (fun h => ?_)
    refine x_i2l S dX3_cost_26 ?_
    refine x_lmul S dX3_cost_27 ?_
    refine x_ladd S dX3_cost_28 ?_
    refine x_lstore_n (lv' := [(1, .long (x1 + ((((p0_weight (x3).toNatClampNeg)).toInt64) * (((p0_depth (x3).toNatClampNeg)).toInt64)))), (0, .ref h_p0), (3, .int x3)]) S dX3_cost_29 rfl (by decide) rfl ?_
    refine x_iinc (v := x3 + (1 : Int32)) (lv' := [(3, .int (x3 + (1 : Int32))), (1, .long (x1 + ((((p0_weight (x3).toNatClampNeg)).toInt64) * (((p0_depth (x3).toNatClampNeg)).toInt64)))), (0, .ref h_p0)]) S dX3_cost_30 2 rfl rfl (by decide) rfl ?_
    refine x_goto S 4 dX3_cost_33 (by decide) ?_
    refine x_lv [2, 1, 0] (by rfl) ?_
    exact hrec4 (x1 + ((((p0_weight (x3).toNatClampNeg)).toInt64) * (((p0_depth (x3).toNatClampNeg)).toInt64))) (x3 + (1 : Int32)) h
noncomputable def lf_X3_cost_4 (F : Nat) (p0_size : Int32) (n_p0_weight : Nat) (p0_weight : Nat → Int32) (n_p0_depth : Nat) (p0_depth : Nat → Int32)  (k : Nat) (x1 : Int64) (x3 : Int32) : Option (Int64) :=
  lp (fun (rec : Int64 × Int32 → Option (Int64)) (z : Int64 × Int32) => bf_X3_cost_4 F p0_size n_p0_weight p0_weight n_p0_depth p0_depth (fun x1 x3 => rec (x1, x3)) z.1 z.2) k (x1, x3)
set_option maxRecDepth 100000 in
set_option maxHeartbeats 4000000 in
theorem wl_X3_cost_4 (S : CallFix p m c cX3_cost 4 s args wsX3_cost RX3) (hK : K_ D vwCl [(cI, .int), (cZ, .boolean)] s) (hA : ∀ q, s.heap.size ≤ q → A q) {F : Nat} {p0_size : Int32} {n_p0_symbol : Nat} {p0_symbol : Nat → Int32} {n_p0_weight : Nat} {p0_weight : Nat → Int32} {n_p0_depth : Nat} {p0_depth : Nat → Int32} {n_p0_line : Nat} {p0_line : Nat → Int32} {h_p0 h_p0_symbol h_p0_weight h_p0_depth h_p0_line : Nat} {r : Int64} {Wp : va_W → Prop} (hend : ∀ (w1 : va_W) (pc : Nat) (lv : List (Nat × Value)), Wp w1 → decode cX3_cost pc = .ok (.lreturn, 1) → X_ p l e ({ frames := 0, cells := 0, slots := 0, locals := 0 } : Room) s m args below meth c Q D vwCl A 4 0 0 w1 lv pc [.long r]) (hWp : Wp (W_X3 cI cZ h_p0 h_p0_symbol h_p0_weight h_p0_depth h_p0_line p0_size n_p0_symbol p0_symbol n_p0_weight p0_weight n_p0_depth p0_depth n_p0_line p0_line))   (k : Nat) : ∀ (x1 : Int64) (x3 : Int32), lf_X3_cost_4 F p0_size n_p0_weight p0_weight n_p0_depth p0_depth k x1 x3 = some r → X_ p l e ({ frames := 0, cells := 0, slots := 0, locals := 0 } : Room) s m args below meth c Q D vwCl A 4 0 0 (W_X3 cI cZ h_p0 h_p0_symbol h_p0_weight h_p0_depth h_p0_line p0_size n_p0_symbol p0_symbol n_p0_weight p0_weight n_p0_depth p0_depth n_p0_line p0_line) [(0, .ref h_p0), (1, .long x1), (3, .int x3)] 4 [] := by
  intro x1 x3 h
  exact lp_W (P := fun z => X_ p l e ({ frames := 0, cells := 0, slots := 0, locals := 0 } : Room) s m args below meth c Q D vwCl A 4 0 0 (W_X3 cI cZ h_p0 h_p0_symbol h_p0_weight h_p0_depth h_p0_line p0_size n_p0_symbol p0_symbol n_p0_weight p0_weight n_p0_depth p0_depth n_p0_line p0_line) [(0, .ref h_p0), (1, .long z.1), (3, .int z.2)] 4 []) (fun rec ih z hz => w_X3_cost_4 S hK hA hend hWp (fun x1 x3 hh => ih (x1, x3) hh)  z.1 z.2 hz) k (x1, x3) h 
noncomputable def bf_X3_cost_0 (F : Nat) (p0_size : Int32) (n_p0_weight : Nat) (p0_weight : Nat → Int32) (n_p0_depth : Nat) (p0_depth : Nat → Int32)   : Option (Int64) :=
  lf_X3_cost_4 F p0_size n_p0_weight p0_weight n_p0_depth p0_depth F (0 : Int64) (0 : Int32)
set_option maxRecDepth 100000 in
set_option maxHeartbeats 4000000 in
theorem w_X3_cost_0 (S : CallFix p m c cX3_cost 4 s args wsX3_cost RX3) (hK : K_ D vwCl [(cI, .int), (cZ, .boolean)] s) (hA : ∀ q, s.heap.size ≤ q → A q) {F : Nat} {p0_size : Int32} {n_p0_symbol : Nat} {p0_symbol : Nat → Int32} {n_p0_weight : Nat} {p0_weight : Nat → Int32} {n_p0_depth : Nat} {p0_depth : Nat → Int32} {n_p0_line : Nat} {p0_line : Nat → Int32} {h_p0 h_p0_symbol h_p0_weight h_p0_depth h_p0_line : Nat} {r : Int64} {Wp : va_W → Prop} (hend : ∀ (w1 : va_W) (pc : Nat) (lv : List (Nat × Value)), Wp w1 → decode cX3_cost pc = .ok (.lreturn, 1) → X_ p l e ({ frames := 0, cells := 0, slots := 0, locals := 0 } : Room) s m args below meth c Q D vwCl A 4 0 0 w1 lv pc [.long r]) (hWp : Wp (W_X3 cI cZ h_p0 h_p0_symbol h_p0_weight h_p0_depth h_p0_line p0_size n_p0_symbol p0_symbol n_p0_weight p0_weight n_p0_depth p0_depth n_p0_line p0_line))   : bf_X3_cost_0 F p0_size n_p0_weight p0_weight n_p0_depth p0_depth = some r → X_ p l e ({ frames := 0, cells := 0, slots := 0, locals := 0 } : Room) s m args below meth c Q D vwCl A 4 0 0 (W_X3 cI cZ h_p0 h_p0_symbol h_p0_weight h_p0_depth h_p0_line p0_size n_p0_symbol p0_symbol n_p0_weight p0_weight n_p0_depth p0_depth n_p0_line p0_line) [(0, .ref h_p0)] 0 [] := by
  intro h
  unfold bf_X3_cost_0 at h
  refine x_lconst (v := 0) S dX3_cost_0 (by decide) ?_
  refine x_lstore_n (lv' := [(1, .long (0 : Int64)), (0, .ref h_p0)]) S dX3_cost_1 rfl (by decide) rfl ?_
  refine x_iconst (v := 0) S dX3_cost_2 (by decide) ?_
  refine x_istore_n (lv' := [(3, .int (0 : Int32)), (1, .long (0 : Int64)), (0, .ref h_p0)]) S dX3_cost_3 rfl (by decide) rfl ?_
  refine x_lv [2, 1, 0] (by rfl) ?_
  exact wl_X3_cost_4 S hK hA hend hWp  F (0 : Int64) (0 : Int32) h
noncomputable def fn_X3_cost (F : Nat) (p0_size : Int32) (n_p0_weight : Nat) (p0_weight : Nat → Int32) (n_p0_depth : Nat) (p0_depth : Nat → Int32)  : Option (Int64) :=
  bf_X3_cost_0 F p0_size n_p0_weight p0_weight n_p0_depth p0_depth
set_option maxRecDepth 100000 in
set_option maxHeartbeats 4000000 in
theorem c_X3_cost (l : Launch) (D : va_G) (cI cZ : ClassId) (F : Nat) (h_p0 h_p0_symbol h_p0_weight h_p0_depth h_p0_line : Nat) (p0_size : Int32) (n_p0_symbol : Nat) (p0_symbol : Nat → Int32) (n_p0_weight : Nat) (p0_weight : Nat → Int32) (n_p0_depth : Nat) (p0_depth : Nat → Int32) (n_p0_line : Nat) (p0_line : Nat → Int32)  (r : Int64) (h : fn_X3_cost F p0_size n_p0_weight p0_weight n_p0_depth p0_depth = some r) : Cl l yX3_cost wsX3_cost ({ frames := 0, cells := 0, slots := 0, locals := 0 } : Room) D vwCl [(cI, .int), (cZ, .boolean)] [.ref h_p0] (W_X3 cI cZ h_p0 h_p0_symbol h_p0_weight h_p0_depth h_p0_line p0_size n_p0_symbol p0_symbol n_p0_weight p0_weight n_p0_depth p0_depth n_p0_line p0_line) r (fun w => w = (W_X3 cI cZ h_p0 h_p0_symbol h_p0_weight h_p0_depth h_p0_line p0_size n_p0_symbol p0_symbol n_p0_weight p0_weight n_p0_depth p0_depth n_p0_line p0_line)) 0 0 :=
  Cl.ofl (by decide) rfl (Nat.le_of_ble_eq_true rfl) (fun p e s m args below meth c Q A S hK hA hname hend => w_X3_cost_0 S hK hA hend rfl  h)
end
