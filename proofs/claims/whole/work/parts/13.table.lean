/-! ===== PrefixSmith$Table.share(I)I ===== -/
section
variable {p : Program} {l : Launch} {e : Env} {s : State} {m : MethodId} {args : Array Value} {below : List Frame} {meth : Method} {c : Code} {Q : State → Prop} {D : va_G} {A : Nat → Prop} {cI cZ : ClassId}
noncomputable def bf_X10_share_0 (F : Nat)   (x0 : Int32) : Option (Int32) :=
  some ((1 : Int32) <<< (((24 : Int32) - x0) &&& 31))
set_option maxRecDepth 100000 in
set_option maxHeartbeats 4000000 in
theorem w_X10_share_0 (S : CallFix p m c cX10_share 1 s args wsX10_share RX10) (hK : K_ D vwCl [(cI, .int), (cZ, .boolean)] s) (hA : ∀ q, s.heap.size ≤ q → A q) {F : Nat}  {r : Int32} {Wp : va_W → Prop} (hend : ∀ (w1 : va_W) (pc : Nat) (lv : List (Nat × Value)), Wp w1 → decode cX10_share pc = .ok (.ireturn, 1) → X_ p l e ({ frames := 0, cells := 0, slots := 0, locals := 0 } : Room) s m args below meth c Q D vwCl A 1 0 0 w1 lv pc [.int r]) (hWp : Wp [])   : ∀ (x0 : Int32), bf_X10_share_0 F x0 = some r → X_ p l e ({ frames := 0, cells := 0, slots := 0, locals := 0 } : Room) s m args below meth c Q D vwCl A 1 0 0 [] [(0, .int x0)] 0 [] := by
  intro x0 h
  unfold bf_X10_share_0 at h
  refine x_iconst (v := 1) S dX10_share_0 (by decide) ?_
  refine x_bipush (v := 24) S dX10_share_1 (by decide) ?_
  refine x_iload_n S dX10_share_3 rfl 0 rfl ?_
  refine x_isub S dX10_share_4 ?_
  refine x_ishl S dX10_share_5 ?_
  obtain rfl := Option.some.inj h
  exact hend _ _ _ hWp dX10_share_6
noncomputable def fn_X10_share (F : Nat)  (x0 : Int32) : Option (Int32) :=
  bf_X10_share_0 F x0
set_option maxRecDepth 100000 in
set_option maxHeartbeats 4000000 in
theorem c_X10_share (l : Launch) (D : va_G) (cI cZ : ClassId) (F : Nat)  (x0 : Int32) (r : Int32) (h : fn_X10_share F x0 = some r) : Ci l yX10_share wsX10_share ({ frames := 0, cells := 0, slots := 0, locals := 0 } : Room) D vwCl [(cI, .int), (cZ, .boolean)] [.int x0] [] r (fun w => w = []) 0 0 :=
  Ci.ofi (by decide) rfl (Nat.le_of_ble_eq_true rfl) (fun p e s m args below meth c Q A S hK hA hname hend => w_X10_share_0 S hK hA hend rfl x0 h)
end

/-! ===== PrefixSmith$Table.codeNumber()I ===== -/
abbrev W_X10 (cI cZ : ClassId) (h_p0 h_p0_lengths h_p0_codes h_p0_below : Nat) (p0_symbols : Int32) (p0_most : Int32) (p0_nodes : Int32) (p0_inOrder : Int32) (p0_loaded : Int32) (p0_full : Int32) (n_p0_lengths : Nat) (p0_lengths : Nat → Int32) (n_p0_codes : Nat) (p0_codes : Nat → Int32) (n_p0_below : Nat) (p0_below : Nat → Int32) : va_W := [(h_p0, .inr (9, [.int p0_symbols, .int p0_most, .ref h_p0_lengths, .ref h_p0_codes, .ref h_p0_below, .int p0_nodes, .int p0_inOrder, .int p0_loaded, .int p0_full])), (h_p0_lengths, .inl (cI, n_p0_lengths, .inl p0_lengths)), (h_p0_codes, .inl (cI, n_p0_codes, .inl p0_codes)), (h_p0_below, .inl (cI, n_p0_below, .inl p0_below))]
theorem i_X10_codeNumber_X10 : ∀ w ∈ u_ws RX10 TX10 9, w ∈ wsX10_codeNumber := by decide +kernel
theorem k_X10_codeNumber_9 : Cond.fieldLink RX10 9 "PrefixSmith$Table" "symbols" "I" ∈ wsX10_codeNumber := by decide +kernel
theorem k_X10_codeNumber_18 : Cond.fieldLink RX10 18 "PrefixSmith$Table" "lengths" "[I" ∈ wsX10_codeNumber := by decide +kernel
section
variable {p : Program} {l : Launch} {e : Env} {s : State} {m : MethodId} {args : Array Value} {below : List Frame} {meth : Method} {c : Code} {Q : State → Prop} {D : va_G} {A : Nat → Prop} {cI cZ : ClassId}
noncomputable def bf_X10_codeNumber_4 (F : Nat) (p0_symbols : Int32) (n_p0_lengths : Nat) (p0_lengths : Nat → Int32) (rec4 : Int32 → Int32 → Option (Int32)) (x1 : Int32) (x2 : Int32) : Option (Int32) :=
  (if p0_symbols ≤ x2 then some (x1) else (if x2 < 0 ∨ n_p0_lengths ≤ (x2).toNatClampNeg then none else (if (p0_lengths (x2).toNatClampNeg) ≤ 0 then rec4 x1 (x2 + (1 : Int32)) else rec4 (x1 + (1 : Int32)) (x2 + (1 : Int32)))))
set_option maxRecDepth 100000 in
set_option maxHeartbeats 4000000 in
theorem w_X10_codeNumber_4 (S : CallFix p m c cX10_codeNumber 3 s args wsX10_codeNumber RX10) (hK : K_ D vwCl [(cI, .int), (cZ, .boolean)] s) (hA : ∀ q, s.heap.size ≤ q → A q) {F : Nat} {p0_symbols : Int32} {p0_most : Int32} {p0_nodes : Int32} {p0_inOrder : Int32} {p0_loaded : Int32} {p0_full : Int32} {n_p0_lengths : Nat} {p0_lengths : Nat → Int32} {n_p0_codes : Nat} {p0_codes : Nat → Int32} {n_p0_below : Nat} {p0_below : Nat → Int32} {h_p0 h_p0_lengths h_p0_codes h_p0_below : Nat} {r : Int32} {Wp : va_W → Prop} (hend : ∀ (w1 : va_W) (pc : Nat) (lv : List (Nat × Value)), Wp w1 → decode cX10_codeNumber pc = .ok (.ireturn, 1) → X_ p l e ({ frames := 0, cells := 0, slots := 0, locals := 0 } : Room) s m args below meth c Q D vwCl A 3 0 0 w1 lv pc [.int r]) (hWp : Wp (W_X10 cI cZ h_p0 h_p0_lengths h_p0_codes h_p0_below p0_symbols p0_most p0_nodes p0_inOrder p0_loaded p0_full n_p0_lengths p0_lengths n_p0_codes p0_codes n_p0_below p0_below)) {rec4 : Int32 → Int32 → Option (Int32)} (hrec4 : ∀ (x1 : Int32) (x2 : Int32), rec4 x1 x2 = some r → X_ p l e ({ frames := 0, cells := 0, slots := 0, locals := 0 } : Room) s m args below meth c Q D vwCl A 3 0 0 (W_X10 cI cZ h_p0 h_p0_lengths h_p0_codes h_p0_below p0_symbols p0_most p0_nodes p0_inOrder p0_loaded p0_full n_p0_lengths p0_lengths n_p0_codes p0_codes n_p0_below p0_below) [(0, .ref h_p0), (1, .int x1), (2, .int x2)] 4 []) : ∀ (x1 : Int32) (x2 : Int32), bf_X10_codeNumber_4 F p0_symbols n_p0_lengths p0_lengths rec4 x1 x2 = some r → X_ p l e ({ frames := 0, cells := 0, slots := 0, locals := 0 } : Room) s m args below meth c Q D vwCl A 3 0 0 (W_X10 cI cZ h_p0 h_p0_lengths h_p0_codes h_p0_below p0_symbols p0_most p0_nodes p0_inOrder p0_loaded p0_full n_p0_lengths p0_lengths n_p0_codes p0_codes n_p0_below p0_below) [(0, .ref h_p0), (1, .int x1), (2, .int x2)] 4 [] := by
  intro x1 x2 h
  unfold bf_X10_codeNumber_4 at h
  refine x_iload_n S dX10_codeNumber_4 rfl 2 rfl ?_
  refine x_aload_n S dX10_codeNumber_5 rfl 0 rfl ?_
  refine x_get S hK i_X10_codeNumber_X10 0 rfl rfl 0 (by decide) k_X10_codeNumber_9 rfl rfl dX10_codeNumber_6 ?_
  refine x_icmp_ge S 30 dX10_codeNumber_9 (by decide) h (fun h => ?_) (fun h => ?_)
  · refine x_iload_n S dX10_codeNumber_30 rfl 1 rfl ?_
    obtain rfl := Option.some.inj h
    exact hend _ _ _ hWp dX10_codeNumber_31
  · refine x_aload_n S dX10_codeNumber_12 rfl 0 rfl ?_
    refine x_get S hK i_X10_codeNumber_X10 0 rfl rfl 2 (by decide) k_X10_codeNumber_18 rfl rfl dX10_codeNumber_13 ?_
    refine x_iload_n S dX10_codeNumber_16 rfl 2 rfl ?_
    refine x_iald S hK 1 0 rfl rfl dX10_codeNumber_17 h (fun h => ?_)
    refine x_if_le S 24 dX10_codeNumber_18 (by decide) h (fun h => ?_) (fun h => ?_)
    · refine x_iinc (v := x2 + (1 : Int32)) (lv' := [(2, .int (x2 + (1 : Int32))), (0, .ref h_p0), (1, .int x1)]) S dX10_codeNumber_24 2 rfl rfl (by decide) rfl ?_
      refine x_goto S 4 dX10_codeNumber_27 (by decide) ?_
      refine x_lv [1, 2, 0] (by rfl) ?_
      exact hrec4 x1 (x2 + (1 : Int32)) h
    · refine x_iinc (v := x1 + (1 : Int32)) (lv' := [(1, .int (x1 + (1 : Int32))), (0, .ref h_p0), (2, .int x2)]) S dX10_codeNumber_21 1 rfl rfl (by decide) rfl ?_
      refine x_iinc (v := x2 + (1 : Int32)) (lv' := [(2, .int (x2 + (1 : Int32))), (1, .int (x1 + (1 : Int32))), (0, .ref h_p0)]) S dX10_codeNumber_24 2 rfl rfl (by decide) rfl ?_
      refine x_goto S 4 dX10_codeNumber_27 (by decide) ?_
      refine x_lv [2, 1, 0] (by rfl) ?_
      exact hrec4 (x1 + (1 : Int32)) (x2 + (1 : Int32)) h
noncomputable def lf_X10_codeNumber_4 (F : Nat) (p0_symbols : Int32) (n_p0_lengths : Nat) (p0_lengths : Nat → Int32)  (k : Nat) (x1 : Int32) (x2 : Int32) : Option (Int32) :=
  lp (fun (rec : Int32 × Int32 → Option (Int32)) (z : Int32 × Int32) => bf_X10_codeNumber_4 F p0_symbols n_p0_lengths p0_lengths (fun x1 x2 => rec (x1, x2)) z.1 z.2) k (x1, x2)
set_option maxRecDepth 100000 in
set_option maxHeartbeats 4000000 in
theorem wl_X10_codeNumber_4 (S : CallFix p m c cX10_codeNumber 3 s args wsX10_codeNumber RX10) (hK : K_ D vwCl [(cI, .int), (cZ, .boolean)] s) (hA : ∀ q, s.heap.size ≤ q → A q) {F : Nat} {p0_symbols : Int32} {p0_most : Int32} {p0_nodes : Int32} {p0_inOrder : Int32} {p0_loaded : Int32} {p0_full : Int32} {n_p0_lengths : Nat} {p0_lengths : Nat → Int32} {n_p0_codes : Nat} {p0_codes : Nat → Int32} {n_p0_below : Nat} {p0_below : Nat → Int32} {h_p0 h_p0_lengths h_p0_codes h_p0_below : Nat} {r : Int32} {Wp : va_W → Prop} (hend : ∀ (w1 : va_W) (pc : Nat) (lv : List (Nat × Value)), Wp w1 → decode cX10_codeNumber pc = .ok (.ireturn, 1) → X_ p l e ({ frames := 0, cells := 0, slots := 0, locals := 0 } : Room) s m args below meth c Q D vwCl A 3 0 0 w1 lv pc [.int r]) (hWp : Wp (W_X10 cI cZ h_p0 h_p0_lengths h_p0_codes h_p0_below p0_symbols p0_most p0_nodes p0_inOrder p0_loaded p0_full n_p0_lengths p0_lengths n_p0_codes p0_codes n_p0_below p0_below))   (k : Nat) : ∀ (x1 : Int32) (x2 : Int32), lf_X10_codeNumber_4 F p0_symbols n_p0_lengths p0_lengths k x1 x2 = some r → X_ p l e ({ frames := 0, cells := 0, slots := 0, locals := 0 } : Room) s m args below meth c Q D vwCl A 3 0 0 (W_X10 cI cZ h_p0 h_p0_lengths h_p0_codes h_p0_below p0_symbols p0_most p0_nodes p0_inOrder p0_loaded p0_full n_p0_lengths p0_lengths n_p0_codes p0_codes n_p0_below p0_below) [(0, .ref h_p0), (1, .int x1), (2, .int x2)] 4 [] := by
  intro x1 x2 h
  exact lp_W (P := fun z => X_ p l e ({ frames := 0, cells := 0, slots := 0, locals := 0 } : Room) s m args below meth c Q D vwCl A 3 0 0 (W_X10 cI cZ h_p0 h_p0_lengths h_p0_codes h_p0_below p0_symbols p0_most p0_nodes p0_inOrder p0_loaded p0_full n_p0_lengths p0_lengths n_p0_codes p0_codes n_p0_below p0_below) [(0, .ref h_p0), (1, .int z.1), (2, .int z.2)] 4 []) (fun rec ih z hz => w_X10_codeNumber_4 S hK hA hend hWp (fun x1 x2 hh => ih (x1, x2) hh)  z.1 z.2 hz) k (x1, x2) h 
noncomputable def bf_X10_codeNumber_0 (F : Nat) (p0_symbols : Int32) (n_p0_lengths : Nat) (p0_lengths : Nat → Int32)   : Option (Int32) :=
  lf_X10_codeNumber_4 F p0_symbols n_p0_lengths p0_lengths F (0 : Int32) (0 : Int32)
set_option maxRecDepth 100000 in
set_option maxHeartbeats 4000000 in
theorem w_X10_codeNumber_0 (S : CallFix p m c cX10_codeNumber 3 s args wsX10_codeNumber RX10) (hK : K_ D vwCl [(cI, .int), (cZ, .boolean)] s) (hA : ∀ q, s.heap.size ≤ q → A q) {F : Nat} {p0_symbols : Int32} {p0_most : Int32} {p0_nodes : Int32} {p0_inOrder : Int32} {p0_loaded : Int32} {p0_full : Int32} {n_p0_lengths : Nat} {p0_lengths : Nat → Int32} {n_p0_codes : Nat} {p0_codes : Nat → Int32} {n_p0_below : Nat} {p0_below : Nat → Int32} {h_p0 h_p0_lengths h_p0_codes h_p0_below : Nat} {r : Int32} {Wp : va_W → Prop} (hend : ∀ (w1 : va_W) (pc : Nat) (lv : List (Nat × Value)), Wp w1 → decode cX10_codeNumber pc = .ok (.ireturn, 1) → X_ p l e ({ frames := 0, cells := 0, slots := 0, locals := 0 } : Room) s m args below meth c Q D vwCl A 3 0 0 w1 lv pc [.int r]) (hWp : Wp (W_X10 cI cZ h_p0 h_p0_lengths h_p0_codes h_p0_below p0_symbols p0_most p0_nodes p0_inOrder p0_loaded p0_full n_p0_lengths p0_lengths n_p0_codes p0_codes n_p0_below p0_below))   : bf_X10_codeNumber_0 F p0_symbols n_p0_lengths p0_lengths = some r → X_ p l e ({ frames := 0, cells := 0, slots := 0, locals := 0 } : Room) s m args below meth c Q D vwCl A 3 0 0 (W_X10 cI cZ h_p0 h_p0_lengths h_p0_codes h_p0_below p0_symbols p0_most p0_nodes p0_inOrder p0_loaded p0_full n_p0_lengths p0_lengths n_p0_codes p0_codes n_p0_below p0_below) [(0, .ref h_p0)] 0 [] := by
  intro h
  unfold bf_X10_codeNumber_0 at h
  refine x_iconst (v := 0) S dX10_codeNumber_0 (by decide) ?_
  refine x_istore_n (lv' := [(1, .int (0 : Int32)), (0, .ref h_p0)]) S dX10_codeNumber_1 rfl (by decide) rfl ?_
  refine x_iconst (v := 0) S dX10_codeNumber_2 (by decide) ?_
  refine x_istore_n (lv' := [(2, .int (0 : Int32)), (1, .int (0 : Int32)), (0, .ref h_p0)]) S dX10_codeNumber_3 rfl (by decide) rfl ?_
  refine x_lv [2, 1, 0] (by rfl) ?_
  exact wl_X10_codeNumber_4 S hK hA hend hWp  F (0 : Int32) (0 : Int32) h
noncomputable def fn_X10_codeNumber (F : Nat) (p0_symbols : Int32) (n_p0_lengths : Nat) (p0_lengths : Nat → Int32)  : Option (Int32) :=
  bf_X10_codeNumber_0 F p0_symbols n_p0_lengths p0_lengths
set_option maxRecDepth 100000 in
set_option maxHeartbeats 4000000 in
theorem c_X10_codeNumber (l : Launch) (D : va_G) (cI cZ : ClassId) (F : Nat) (h_p0 h_p0_lengths h_p0_codes h_p0_below : Nat) (p0_symbols : Int32) (p0_most : Int32) (p0_nodes : Int32) (p0_inOrder : Int32) (p0_loaded : Int32) (p0_full : Int32) (n_p0_lengths : Nat) (p0_lengths : Nat → Int32) (n_p0_codes : Nat) (p0_codes : Nat → Int32) (n_p0_below : Nat) (p0_below : Nat → Int32)  (r : Int32) (h : fn_X10_codeNumber F p0_symbols n_p0_lengths p0_lengths = some r) : Ci l yX10_codeNumber wsX10_codeNumber ({ frames := 0, cells := 0, slots := 0, locals := 0 } : Room) D vwCl [(cI, .int), (cZ, .boolean)] [.ref h_p0] (W_X10 cI cZ h_p0 h_p0_lengths h_p0_codes h_p0_below p0_symbols p0_most p0_nodes p0_inOrder p0_loaded p0_full n_p0_lengths p0_lengths n_p0_codes p0_codes n_p0_below p0_below) r (fun w => w = (W_X10 cI cZ h_p0 h_p0_lengths h_p0_codes h_p0_below p0_symbols p0_most p0_nodes p0_inOrder p0_loaded p0_full n_p0_lengths p0_lengths n_p0_codes p0_codes n_p0_below p0_below)) 0 0 :=
  Ci.ofi (by decide) rfl (Nat.le_of_ble_eq_true rfl) (fun p e s m args below meth c Q A S hK hA hname hend => w_X10_codeNumber_0 S hK hA hend rfl  h)
end

/-! ===== PrefixSmith$Table.sum()I ===== -/
theorem i_X10_sum_X10 : ∀ w ∈ u_ws RX10 TX10 9, w ∈ wsX10_sum := by decide +kernel
theorem k_X10_sum_9 : Cond.fieldLink RX10 9 "PrefixSmith$Table" "symbols" "I" ∈ wsX10_sum := by decide +kernel
theorem k_X10_sum_18 : Cond.fieldLink RX10 18 "PrefixSmith$Table" "lengths" "[I" ∈ wsX10_sum := by decide +kernel
section
variable {p : Program} {l : Launch} {e : Env} {s : State} {m : MethodId} {args : Array Value} {below : List Frame} {meth : Method} {c : Code} {Q : State → Prop} {D : va_G} {A : Nat → Prop} {cI cZ : ClassId}
noncomputable def bf_X10_sum_4 (F : Nat) (p0_symbols : Int32) (n_p0_lengths : Nat) (p0_lengths : Nat → Int32) (rec4 : Int32 → Int32 → Option (Int32)) (x1 : Int32) (x2 : Int32) : Option (Int32) :=
  (if p0_symbols ≤ x2 then some (x1) else (if x2 < 0 ∨ n_p0_lengths ≤ (x2).toNatClampNeg then none else (if (p0_lengths (x2).toNatClampNeg) ≤ 0 then rec4 x1 (x2 + (1 : Int32)) else (if x2 < 0 ∨ n_p0_lengths ≤ (x2).toNatClampNeg then none else ((fn_X10_share F (p0_lengths (x2).toNatClampNeg)).bind fun v28 => rec4 (x1 + v28) (x2 + (1 : Int32)))))))
set_option maxRecDepth 100000 in
set_option maxHeartbeats 4000000 in
theorem w_X10_sum_4 (S : CallFix p m c cX10_sum 3 s args wsX10_sum RX10) (hK : K_ D vwCl [(cI, .int), (cZ, .boolean)] s) (hA : ∀ q, s.heap.size ≤ q → A q) {F : Nat} {p0_symbols : Int32} {p0_most : Int32} {p0_nodes : Int32} {p0_inOrder : Int32} {p0_loaded : Int32} {p0_full : Int32} {n_p0_lengths : Nat} {p0_lengths : Nat → Int32} {n_p0_codes : Nat} {p0_codes : Nat → Int32} {n_p0_below : Nat} {p0_below : Nat → Int32} {h_p0 h_p0_lengths h_p0_codes h_p0_below : Nat} {r : Int32} {Wp : va_W → Prop} (hend : ∀ (w1 : va_W) (pc : Nat) (lv : List (Nat × Value)), Wp w1 → decode cX10_sum pc = .ok (.ireturn, 1) → X_ p l e ({ frames := 1, cells := 0, slots := 0, locals := 20 } : Room) s m args below meth c Q D vwCl A 3 0 0 w1 lv pc [.int r]) (hWp : Wp (W_X10 cI cZ h_p0 h_p0_lengths h_p0_codes h_p0_below p0_symbols p0_most p0_nodes p0_inOrder p0_loaded p0_full n_p0_lengths p0_lengths n_p0_codes p0_codes n_p0_below p0_below)) {rec4 : Int32 → Int32 → Option (Int32)} (hrec4 : ∀ (x1 : Int32) (x2 : Int32), rec4 x1 x2 = some r → X_ p l e ({ frames := 1, cells := 0, slots := 0, locals := 20 } : Room) s m args below meth c Q D vwCl A 3 0 0 (W_X10 cI cZ h_p0 h_p0_lengths h_p0_codes h_p0_below p0_symbols p0_most p0_nodes p0_inOrder p0_loaded p0_full n_p0_lengths p0_lengths n_p0_codes p0_codes n_p0_below p0_below) [(0, .ref h_p0), (1, .int x1), (2, .int x2)] 4 []) : ∀ (x1 : Int32) (x2 : Int32), bf_X10_sum_4 F p0_symbols n_p0_lengths p0_lengths rec4 x1 x2 = some r → X_ p l e ({ frames := 1, cells := 0, slots := 0, locals := 20 } : Room) s m args below meth c Q D vwCl A 3 0 0 (W_X10 cI cZ h_p0 h_p0_lengths h_p0_codes h_p0_below p0_symbols p0_most p0_nodes p0_inOrder p0_loaded p0_full n_p0_lengths p0_lengths n_p0_codes p0_codes n_p0_below p0_below) [(0, .ref h_p0), (1, .int x1), (2, .int x2)] 4 [] := by
  intro x1 x2 h
  unfold bf_X10_sum_4 at h
  refine x_iload_n S dX10_sum_4 rfl 2 rfl ?_
  refine x_aload_n S dX10_sum_5 rfl 0 rfl ?_
  refine x_get S hK i_X10_sum_X10 0 rfl rfl 0 (by decide) k_X10_sum_9 rfl rfl dX10_sum_6 ?_
  refine x_icmp_ge S 39 dX10_sum_9 (by decide) h (fun h => ?_) (fun h => ?_)
  · refine x_iload_n S dX10_sum_39 rfl 1 rfl ?_
    obtain rfl := Option.some.inj h
    exact hend _ _ _ hWp dX10_sum_40
  · refine x_aload_n S dX10_sum_12 rfl 0 rfl ?_
    refine x_get S hK i_X10_sum_X10 0 rfl rfl 2 (by decide) k_X10_sum_18 rfl rfl dX10_sum_13 ?_
    refine x_iload_n S dX10_sum_16 rfl 2 rfl ?_
    refine x_iald S hK 1 0 rfl rfl dX10_sum_17 h (fun h => ?_)
    refine x_if_le S 33 dX10_sum_18 (by decide) h (fun h => ?_) (fun h => ?_)
    · refine x_iinc (v := x2 + (1 : Int32)) (lv' := [(2, .int (x2 + (1 : Int32))), (0, .ref h_p0), (1, .int x1)]) S dX10_sum_33 2 rfl rfl (by decide) rfl ?_
      refine x_goto S 4 dX10_sum_36 (by decide) ?_
      refine x_lv [1, 2, 0] (by rfl) ?_
      exact hrec4 x1 (x2 + (1 : Int32)) h
    · refine x_iload_n S dX10_sum_21 rfl 1 rfl ?_
      refine x_aload_n S dX10_sum_22 rfl 0 rfl ?_
      refine x_get S hK i_X10_sum_X10 0 rfl rfl 2 (by decide) k_X10_sum_18 rfl rfl dX10_sum_23 ?_
      refine x_iload_n S dX10_sum_26 rfl 2 rfl ?_
      refine x_iald S hK 1 0 rfl rfl dX10_sum_27 h (fun h => ?_)
      obtain ⟨v28, h28, h⟩ := gbind h
      refine x_callSi S hK hA (c_X10_share l D cI cZ F   (p0_lengths (x2).toNatClampNeg) v28 h28) (va_cwS 1 S.2.2.2.2 gX10_sum_X10_share rfl rfl rfl (by decide +kernel) ⟨(Nat.le_of_ble_eq_true rfl), (Nat.le_of_ble_eq_true rfl)⟩) [] [0, 1, 2, 3] rfl (by decide) rfl (by decide) (by decide) rfl (Nat.le_of_ble_eq_true rfl) rfl dX10_sum_28 ⟨(Nat.le_of_ble_eq_true rfl), (Nat.le_of_ble_eq_true rfl)⟩ (fun w1 hw1 => ?_)
      subst hw1
      refine x_ws (ws' := (W_X10 cI cZ h_p0 h_p0_lengths h_p0_codes h_p0_below p0_symbols p0_most p0_nodes p0_inOrder p0_loaded p0_full n_p0_lengths p0_lengths n_p0_codes p0_codes n_p0_below p0_below)) [0, 1, 2, 3] (by decide) (by rfl) ?_
      refine x_iadd S dX10_sum_31 ?_
      refine x_istore_n (lv' := [(1, .int (x1 + v28)), (0, .ref h_p0), (2, .int x2)]) S dX10_sum_32 rfl (by decide) rfl ?_
      refine x_iinc (v := x2 + (1 : Int32)) (lv' := [(2, .int (x2 + (1 : Int32))), (1, .int (x1 + v28)), (0, .ref h_p0)]) S dX10_sum_33 2 rfl rfl (by decide) rfl ?_
      refine x_goto S 4 dX10_sum_36 (by decide) ?_
      refine x_lv [2, 1, 0] (by rfl) ?_
      exact hrec4 (x1 + v28) (x2 + (1 : Int32)) h
noncomputable def lf_X10_sum_4 (F : Nat) (p0_symbols : Int32) (n_p0_lengths : Nat) (p0_lengths : Nat → Int32)  (k : Nat) (x1 : Int32) (x2 : Int32) : Option (Int32) :=
  lp (fun (rec : Int32 × Int32 → Option (Int32)) (z : Int32 × Int32) => bf_X10_sum_4 F p0_symbols n_p0_lengths p0_lengths (fun x1 x2 => rec (x1, x2)) z.1 z.2) k (x1, x2)
set_option maxRecDepth 100000 in
set_option maxHeartbeats 4000000 in
theorem wl_X10_sum_4 (S : CallFix p m c cX10_sum 3 s args wsX10_sum RX10) (hK : K_ D vwCl [(cI, .int), (cZ, .boolean)] s) (hA : ∀ q, s.heap.size ≤ q → A q) {F : Nat} {p0_symbols : Int32} {p0_most : Int32} {p0_nodes : Int32} {p0_inOrder : Int32} {p0_loaded : Int32} {p0_full : Int32} {n_p0_lengths : Nat} {p0_lengths : Nat → Int32} {n_p0_codes : Nat} {p0_codes : Nat → Int32} {n_p0_below : Nat} {p0_below : Nat → Int32} {h_p0 h_p0_lengths h_p0_codes h_p0_below : Nat} {r : Int32} {Wp : va_W → Prop} (hend : ∀ (w1 : va_W) (pc : Nat) (lv : List (Nat × Value)), Wp w1 → decode cX10_sum pc = .ok (.ireturn, 1) → X_ p l e ({ frames := 1, cells := 0, slots := 0, locals := 20 } : Room) s m args below meth c Q D vwCl A 3 0 0 w1 lv pc [.int r]) (hWp : Wp (W_X10 cI cZ h_p0 h_p0_lengths h_p0_codes h_p0_below p0_symbols p0_most p0_nodes p0_inOrder p0_loaded p0_full n_p0_lengths p0_lengths n_p0_codes p0_codes n_p0_below p0_below))   (k : Nat) : ∀ (x1 : Int32) (x2 : Int32), lf_X10_sum_4 F p0_symbols n_p0_lengths p0_lengths k x1 x2 = some r → X_ p l e ({ frames := 1, cells := 0, slots := 0, locals := 20 } : Room) s m args below meth c Q D vwCl A 3 0 0 (W_X10 cI cZ h_p0 h_p0_lengths h_p0_codes h_p0_below p0_symbols p0_most p0_nodes p0_inOrder p0_loaded p0_full n_p0_lengths p0_lengths n_p0_codes p0_codes n_p0_below p0_below) [(0, .ref h_p0), (1, .int x1), (2, .int x2)] 4 [] := by
  intro x1 x2 h
  exact lp_W (P := fun z => X_ p l e ({ frames := 1, cells := 0, slots := 0, locals := 20 } : Room) s m args below meth c Q D vwCl A 3 0 0 (W_X10 cI cZ h_p0 h_p0_lengths h_p0_codes h_p0_below p0_symbols p0_most p0_nodes p0_inOrder p0_loaded p0_full n_p0_lengths p0_lengths n_p0_codes p0_codes n_p0_below p0_below) [(0, .ref h_p0), (1, .int z.1), (2, .int z.2)] 4 []) (fun rec ih z hz => w_X10_sum_4 S hK hA hend hWp (fun x1 x2 hh => ih (x1, x2) hh)  z.1 z.2 hz) k (x1, x2) h 
noncomputable def bf_X10_sum_0 (F : Nat) (p0_symbols : Int32) (n_p0_lengths : Nat) (p0_lengths : Nat → Int32)   : Option (Int32) :=
  lf_X10_sum_4 F p0_symbols n_p0_lengths p0_lengths F (0 : Int32) (0 : Int32)
set_option maxRecDepth 100000 in
set_option maxHeartbeats 4000000 in
theorem w_X10_sum_0 (S : CallFix p m c cX10_sum 3 s args wsX10_sum RX10) (hK : K_ D vwCl [(cI, .int), (cZ, .boolean)] s) (hA : ∀ q, s.heap.size ≤ q → A q) {F : Nat} {p0_symbols : Int32} {p0_most : Int32} {p0_nodes : Int32} {p0_inOrder : Int32} {p0_loaded : Int32} {p0_full : Int32} {n_p0_lengths : Nat} {p0_lengths : Nat → Int32} {n_p0_codes : Nat} {p0_codes : Nat → Int32} {n_p0_below : Nat} {p0_below : Nat → Int32} {h_p0 h_p0_lengths h_p0_codes h_p0_below : Nat} {r : Int32} {Wp : va_W → Prop} (hend : ∀ (w1 : va_W) (pc : Nat) (lv : List (Nat × Value)), Wp w1 → decode cX10_sum pc = .ok (.ireturn, 1) → X_ p l e ({ frames := 1, cells := 0, slots := 0, locals := 20 } : Room) s m args below meth c Q D vwCl A 3 0 0 w1 lv pc [.int r]) (hWp : Wp (W_X10 cI cZ h_p0 h_p0_lengths h_p0_codes h_p0_below p0_symbols p0_most p0_nodes p0_inOrder p0_loaded p0_full n_p0_lengths p0_lengths n_p0_codes p0_codes n_p0_below p0_below))   : bf_X10_sum_0 F p0_symbols n_p0_lengths p0_lengths = some r → X_ p l e ({ frames := 1, cells := 0, slots := 0, locals := 20 } : Room) s m args below meth c Q D vwCl A 3 0 0 (W_X10 cI cZ h_p0 h_p0_lengths h_p0_codes h_p0_below p0_symbols p0_most p0_nodes p0_inOrder p0_loaded p0_full n_p0_lengths p0_lengths n_p0_codes p0_codes n_p0_below p0_below) [(0, .ref h_p0)] 0 [] := by
  intro h
  unfold bf_X10_sum_0 at h
  refine x_iconst (v := 0) S dX10_sum_0 (by decide) ?_
  refine x_istore_n (lv' := [(1, .int (0 : Int32)), (0, .ref h_p0)]) S dX10_sum_1 rfl (by decide) rfl ?_
  refine x_iconst (v := 0) S dX10_sum_2 (by decide) ?_
  refine x_istore_n (lv' := [(2, .int (0 : Int32)), (1, .int (0 : Int32)), (0, .ref h_p0)]) S dX10_sum_3 rfl (by decide) rfl ?_
  refine x_lv [2, 1, 0] (by rfl) ?_
  exact wl_X10_sum_4 S hK hA hend hWp  F (0 : Int32) (0 : Int32) h
noncomputable def fn_X10_sum (F : Nat) (p0_symbols : Int32) (n_p0_lengths : Nat) (p0_lengths : Nat → Int32)  : Option (Int32) :=
  bf_X10_sum_0 F p0_symbols n_p0_lengths p0_lengths
set_option maxRecDepth 100000 in
set_option maxHeartbeats 4000000 in
theorem c_X10_sum (l : Launch) (D : va_G) (cI cZ : ClassId) (F : Nat) (h_p0 h_p0_lengths h_p0_codes h_p0_below : Nat) (p0_symbols : Int32) (p0_most : Int32) (p0_nodes : Int32) (p0_inOrder : Int32) (p0_loaded : Int32) (p0_full : Int32) (n_p0_lengths : Nat) (p0_lengths : Nat → Int32) (n_p0_codes : Nat) (p0_codes : Nat → Int32) (n_p0_below : Nat) (p0_below : Nat → Int32)  (r : Int32) (h : fn_X10_sum F p0_symbols n_p0_lengths p0_lengths = some r) : Ci l yX10_sum wsX10_sum ({ frames := 1, cells := 0, slots := 0, locals := 20 } : Room) D vwCl [(cI, .int), (cZ, .boolean)] [.ref h_p0] (W_X10 cI cZ h_p0 h_p0_lengths h_p0_codes h_p0_below p0_symbols p0_most p0_nodes p0_inOrder p0_loaded p0_full n_p0_lengths p0_lengths n_p0_codes p0_codes n_p0_below p0_below) r (fun w => w = (W_X10 cI cZ h_p0 h_p0_lengths h_p0_codes h_p0_below p0_symbols p0_most p0_nodes p0_inOrder p0_loaded p0_full n_p0_lengths p0_lengths n_p0_codes p0_codes n_p0_below p0_below)) 0 0 :=
  Ci.ofi (by decide) rfl (Nat.le_of_ble_eq_true rfl) (fun p e s m args below meth c Q A S hK hA hname hend => w_X10_sum_0 S hK hA hend rfl  h)
end

/-! ===== PrefixSmith$Table.liesEvenly()Z ===== -/
theorem i_X10_liesEvenly_X10 : ∀ w ∈ u_ws RX10 TX10 9, w ∈ wsX10_liesEvenly := by decide +kernel
theorem k_X10_liesEvenly_9 : Cond.fieldLink RX10 9 "PrefixSmith$Table" "symbols" "I" ∈ wsX10_liesEvenly := by decide +kernel
theorem k_X10_liesEvenly_18 : Cond.fieldLink RX10 18 "PrefixSmith$Table" "lengths" "[I" ∈ wsX10_liesEvenly := by decide +kernel
section
variable {p : Program} {l : Launch} {e : Env} {s : State} {m : MethodId} {args : Array Value} {below : List Frame} {meth : Method} {c : Code} {Q : State → Prop} {D : va_G} {A : Nat → Prop} {cI cZ : ClassId}
noncomputable def bf_X10_liesEvenly_4 (F : Nat) (p0_symbols : Int32) (n_p0_lengths : Nat) (p0_lengths : Nat → Int32) (rec4 : Int32 → Int32 → Option (Int32)) (x1 : Int32) (x2 : Int32) : Option (Int32) :=
  (if p0_symbols ≤ x2 then some ((1 : Int32)) else (if x2 < 0 ∨ n_p0_lengths ≤ (x2).toNatClampNeg then none else (if (p0_lengths (x2).toNatClampNeg) ≤ 0 then rec4 x1 (x2 + (1 : Int32)) else (if x2 < 0 ∨ n_p0_lengths ≤ (x2).toNatClampNeg then none else ((fn_X10_share F (p0_lengths (x2).toNatClampNeg)).bind fun v27 => (if (x1 &&& (v27 - (1 : Int32))) = 0 then rec4 (x1 + v27) (x2 + (1 : Int32)) else some ((0 : Int32))))))))
set_option maxRecDepth 100000 in
set_option maxHeartbeats 4000000 in
theorem w_X10_liesEvenly_4 (S : CallFix p m c cX10_liesEvenly 4 s args wsX10_liesEvenly RX10) (hK : K_ D vwCl [(cI, .int), (cZ, .boolean)] s) (hA : ∀ q, s.heap.size ≤ q → A q) {F : Nat} {p0_symbols : Int32} {p0_most : Int32} {p0_nodes : Int32} {p0_inOrder : Int32} {p0_loaded : Int32} {p0_full : Int32} {n_p0_lengths : Nat} {p0_lengths : Nat → Int32} {n_p0_codes : Nat} {p0_codes : Nat → Int32} {n_p0_below : Nat} {p0_below : Nat → Int32} {h_p0 h_p0_lengths h_p0_codes h_p0_below : Nat} {r : Int32} {Wp : va_W → Prop} (hend : ∀ (w1 : va_W) (pc : Nat) (lv : List (Nat × Value)), Wp w1 → narrow .boolean (.int r) = .int r → decode cX10_liesEvenly pc = .ok (.ireturn, 1) → X_ p l e ({ frames := 1, cells := 0, slots := 0, locals := 20 } : Room) s m args below meth c Q D vwCl A 4 0 0 w1 lv pc [.int r]) (hWp : Wp (W_X10 cI cZ h_p0 h_p0_lengths h_p0_codes h_p0_below p0_symbols p0_most p0_nodes p0_inOrder p0_loaded p0_full n_p0_lengths p0_lengths n_p0_codes p0_codes n_p0_below p0_below)) {rec4 : Int32 → Int32 → Option (Int32)} (hrec4 : ∀ (x1 : Int32) (x2 : Int32), rec4 x1 x2 = some r → X_ p l e ({ frames := 1, cells := 0, slots := 0, locals := 20 } : Room) s m args below meth c Q D vwCl A 4 0 0 (W_X10 cI cZ h_p0 h_p0_lengths h_p0_codes h_p0_below p0_symbols p0_most p0_nodes p0_inOrder p0_loaded p0_full n_p0_lengths p0_lengths n_p0_codes p0_codes n_p0_below p0_below) [(0, .ref h_p0), (1, .int x1), (2, .int x2)] 4 []) : ∀ (x1 : Int32) (x2 : Int32), bf_X10_liesEvenly_4 F p0_symbols n_p0_lengths p0_lengths rec4 x1 x2 = some r → X_ p l e ({ frames := 1, cells := 0, slots := 0, locals := 20 } : Room) s m args below meth c Q D vwCl A 4 0 0 (W_X10 cI cZ h_p0 h_p0_lengths h_p0_codes h_p0_below p0_symbols p0_most p0_nodes p0_inOrder p0_loaded p0_full n_p0_lengths p0_lengths n_p0_codes p0_codes n_p0_below p0_below) [(0, .ref h_p0), (1, .int x1), (2, .int x2)] 4 [] := by
  intro x1 x2 h
  unfold bf_X10_liesEvenly_4 at h
  refine x_iload_n S dX10_liesEvenly_4 rfl 2 rfl ?_
  refine x_aload_n S dX10_liesEvenly_5 rfl 0 rfl ?_
  refine x_get S hK i_X10_liesEvenly_X10 0 rfl rfl 0 (by decide) k_X10_liesEvenly_9 rfl rfl dX10_liesEvenly_6 ?_
  refine x_icmp_ge S 51 dX10_liesEvenly_9 (by decide) h (fun h => ?_) (fun h => ?_)
  · refine x_iconst (v := 1) S dX10_liesEvenly_51 (by decide) ?_
    obtain rfl := Option.some.inj h
    exact hend _ _ _ hWp (by decide) dX10_liesEvenly_52
  · refine x_aload_n S dX10_liesEvenly_12 rfl 0 rfl ?_
    refine x_get S hK i_X10_liesEvenly_X10 0 rfl rfl 2 (by decide) k_X10_liesEvenly_18 rfl rfl dX10_liesEvenly_13 ?_
    refine x_iload_n S dX10_liesEvenly_16 rfl 2 rfl ?_
    refine x_iald S hK 1 0 rfl rfl dX10_liesEvenly_17 h (fun h => ?_)
    refine x_if_le S 45 dX10_liesEvenly_18 (by decide) h (fun h => ?_) (fun h => ?_)
    · refine x_iinc (v := x2 + (1 : Int32)) (lv' := [(2, .int (x2 + (1 : Int32))), (0, .ref h_p0), (1, .int x1)]) S dX10_liesEvenly_45 2 rfl rfl (by decide) rfl ?_
      refine x_goto S 4 dX10_liesEvenly_48 (by decide) ?_
      refine x_lv [1, 2, 0] (by rfl) ?_
      exact hrec4 x1 (x2 + (1 : Int32)) h
    · refine x_aload_n S dX10_liesEvenly_21 rfl 0 rfl ?_
      refine x_get S hK i_X10_liesEvenly_X10 0 rfl rfl 2 (by decide) k_X10_liesEvenly_18 rfl rfl dX10_liesEvenly_22 ?_
      refine x_iload_n S dX10_liesEvenly_25 rfl 2 rfl ?_
      refine x_iald S hK 1 0 rfl rfl dX10_liesEvenly_26 h (fun h => ?_)
      obtain ⟨v27, h27, h⟩ := gbind h
      refine x_callSi S hK hA (c_X10_share l D cI cZ F   (p0_lengths (x2).toNatClampNeg) v27 h27) (va_cwS 1 S.2.2.2.2 gX10_liesEvenly_X10_share rfl rfl rfl (by decide +kernel) ⟨(Nat.le_of_ble_eq_true rfl), (Nat.le_of_ble_eq_true rfl)⟩) [] [0, 1, 2, 3] rfl (by decide) rfl (by decide) (by decide) rfl (Nat.le_of_ble_eq_true rfl) rfl dX10_liesEvenly_27 ⟨(Nat.le_of_ble_eq_true rfl), (Nat.le_of_ble_eq_true rfl)⟩ (fun w1 hw1 => ?_)
      subst hw1
      refine x_ws (ws' := (W_X10 cI cZ h_p0 h_p0_lengths h_p0_codes h_p0_below p0_symbols p0_most p0_nodes p0_inOrder p0_loaded p0_full n_p0_lengths p0_lengths n_p0_codes p0_codes n_p0_below p0_below)) [0, 1, 2, 3] (by decide) (by rfl) ?_
      refine x_istore_n (lv' := [(3, .int v27), (0, .ref h_p0), (1, .int x1), (2, .int x2)]) S dX10_liesEvenly_30 rfl (by decide) rfl ?_
      refine x_iload_n S dX10_liesEvenly_31 rfl 2 rfl ?_
      refine x_iload_n S dX10_liesEvenly_32 rfl 0 rfl ?_
      refine x_iconst (v := 1) S dX10_liesEvenly_33 (by decide) ?_
      refine x_isub S dX10_liesEvenly_34 ?_
      refine x_iand S dX10_liesEvenly_35 ?_
      refine x_if_eq S 41 dX10_liesEvenly_36 (by decide) h (fun h => ?_) (fun h => ?_)
      · refine x_iload_n S dX10_liesEvenly_41 rfl 2 rfl ?_
        refine x_iload_n S dX10_liesEvenly_42 rfl 0 rfl ?_
        refine x_iadd S dX10_liesEvenly_43 ?_
        refine x_istore_n (lv' := [(1, .int (x1 + v27)), (3, .int v27), (0, .ref h_p0), (2, .int x2)]) S dX10_liesEvenly_44 rfl (by decide) rfl ?_
        refine x_iinc (v := x2 + (1 : Int32)) (lv' := [(2, .int (x2 + (1 : Int32))), (1, .int (x1 + v27)), (3, .int v27), (0, .ref h_p0)]) S dX10_liesEvenly_45 3 rfl rfl (by decide) rfl ?_
        refine x_goto S 4 dX10_liesEvenly_48 (by decide) ?_
        refine x_lv [3, 1, 0] (by rfl) ?_
        exact hrec4 (x1 + v27) (x2 + (1 : Int32)) h
      · refine x_iconst (v := 0) S dX10_liesEvenly_39 (by decide) ?_
        obtain rfl := Option.some.inj h
        exact hend _ _ _ hWp (by decide) dX10_liesEvenly_40
noncomputable def lf_X10_liesEvenly_4 (F : Nat) (p0_symbols : Int32) (n_p0_lengths : Nat) (p0_lengths : Nat → Int32)  (k : Nat) (x1 : Int32) (x2 : Int32) : Option (Int32) :=
  lp (fun (rec : Int32 × Int32 → Option (Int32)) (z : Int32 × Int32) => bf_X10_liesEvenly_4 F p0_symbols n_p0_lengths p0_lengths (fun x1 x2 => rec (x1, x2)) z.1 z.2) k (x1, x2)
set_option maxRecDepth 100000 in
set_option maxHeartbeats 4000000 in
theorem wl_X10_liesEvenly_4 (S : CallFix p m c cX10_liesEvenly 4 s args wsX10_liesEvenly RX10) (hK : K_ D vwCl [(cI, .int), (cZ, .boolean)] s) (hA : ∀ q, s.heap.size ≤ q → A q) {F : Nat} {p0_symbols : Int32} {p0_most : Int32} {p0_nodes : Int32} {p0_inOrder : Int32} {p0_loaded : Int32} {p0_full : Int32} {n_p0_lengths : Nat} {p0_lengths : Nat → Int32} {n_p0_codes : Nat} {p0_codes : Nat → Int32} {n_p0_below : Nat} {p0_below : Nat → Int32} {h_p0 h_p0_lengths h_p0_codes h_p0_below : Nat} {r : Int32} {Wp : va_W → Prop} (hend : ∀ (w1 : va_W) (pc : Nat) (lv : List (Nat × Value)), Wp w1 → narrow .boolean (.int r) = .int r → decode cX10_liesEvenly pc = .ok (.ireturn, 1) → X_ p l e ({ frames := 1, cells := 0, slots := 0, locals := 20 } : Room) s m args below meth c Q D vwCl A 4 0 0 w1 lv pc [.int r]) (hWp : Wp (W_X10 cI cZ h_p0 h_p0_lengths h_p0_codes h_p0_below p0_symbols p0_most p0_nodes p0_inOrder p0_loaded p0_full n_p0_lengths p0_lengths n_p0_codes p0_codes n_p0_below p0_below))   (k : Nat) : ∀ (x1 : Int32) (x2 : Int32), lf_X10_liesEvenly_4 F p0_symbols n_p0_lengths p0_lengths k x1 x2 = some r → X_ p l e ({ frames := 1, cells := 0, slots := 0, locals := 20 } : Room) s m args below meth c Q D vwCl A 4 0 0 (W_X10 cI cZ h_p0 h_p0_lengths h_p0_codes h_p0_below p0_symbols p0_most p0_nodes p0_inOrder p0_loaded p0_full n_p0_lengths p0_lengths n_p0_codes p0_codes n_p0_below p0_below) [(0, .ref h_p0), (1, .int x1), (2, .int x2)] 4 [] := by
  intro x1 x2 h
  exact lp_W (P := fun z => X_ p l e ({ frames := 1, cells := 0, slots := 0, locals := 20 } : Room) s m args below meth c Q D vwCl A 4 0 0 (W_X10 cI cZ h_p0 h_p0_lengths h_p0_codes h_p0_below p0_symbols p0_most p0_nodes p0_inOrder p0_loaded p0_full n_p0_lengths p0_lengths n_p0_codes p0_codes n_p0_below p0_below) [(0, .ref h_p0), (1, .int z.1), (2, .int z.2)] 4 []) (fun rec ih z hz => w_X10_liesEvenly_4 S hK hA hend hWp (fun x1 x2 hh => ih (x1, x2) hh)  z.1 z.2 hz) k (x1, x2) h 
noncomputable def bf_X10_liesEvenly_0 (F : Nat) (p0_symbols : Int32) (n_p0_lengths : Nat) (p0_lengths : Nat → Int32)   : Option (Int32) :=
  lf_X10_liesEvenly_4 F p0_symbols n_p0_lengths p0_lengths F (0 : Int32) (0 : Int32)
set_option maxRecDepth 100000 in
set_option maxHeartbeats 4000000 in
theorem w_X10_liesEvenly_0 (S : CallFix p m c cX10_liesEvenly 4 s args wsX10_liesEvenly RX10) (hK : K_ D vwCl [(cI, .int), (cZ, .boolean)] s) (hA : ∀ q, s.heap.size ≤ q → A q) {F : Nat} {p0_symbols : Int32} {p0_most : Int32} {p0_nodes : Int32} {p0_inOrder : Int32} {p0_loaded : Int32} {p0_full : Int32} {n_p0_lengths : Nat} {p0_lengths : Nat → Int32} {n_p0_codes : Nat} {p0_codes : Nat → Int32} {n_p0_below : Nat} {p0_below : Nat → Int32} {h_p0 h_p0_lengths h_p0_codes h_p0_below : Nat} {r : Int32} {Wp : va_W → Prop} (hend : ∀ (w1 : va_W) (pc : Nat) (lv : List (Nat × Value)), Wp w1 → narrow .boolean (.int r) = .int r → decode cX10_liesEvenly pc = .ok (.ireturn, 1) → X_ p l e ({ frames := 1, cells := 0, slots := 0, locals := 20 } : Room) s m args below meth c Q D vwCl A 4 0 0 w1 lv pc [.int r]) (hWp : Wp (W_X10 cI cZ h_p0 h_p0_lengths h_p0_codes h_p0_below p0_symbols p0_most p0_nodes p0_inOrder p0_loaded p0_full n_p0_lengths p0_lengths n_p0_codes p0_codes n_p0_below p0_below))   : bf_X10_liesEvenly_0 F p0_symbols n_p0_lengths p0_lengths = some r → X_ p l e ({ frames := 1, cells := 0, slots := 0, locals := 20 } : Room) s m args below meth c Q D vwCl A 4 0 0 (W_X10 cI cZ h_p0 h_p0_lengths h_p0_codes h_p0_below p0_symbols p0_most p0_nodes p0_inOrder p0_loaded p0_full n_p0_lengths p0_lengths n_p0_codes p0_codes n_p0_below p0_below) [(0, .ref h_p0)] 0 [] := by
  intro h
  unfold bf_X10_liesEvenly_0 at h
  refine x_iconst (v := 0) S dX10_liesEvenly_0 (by decide) ?_
  refine x_istore_n (lv' := [(1, .int (0 : Int32)), (0, .ref h_p0)]) S dX10_liesEvenly_1 rfl (by decide) rfl ?_
  refine x_iconst (v := 0) S dX10_liesEvenly_2 (by decide) ?_
  refine x_istore_n (lv' := [(2, .int (0 : Int32)), (1, .int (0 : Int32)), (0, .ref h_p0)]) S dX10_liesEvenly_3 rfl (by decide) rfl ?_
  refine x_lv [2, 1, 0] (by rfl) ?_
  exact wl_X10_liesEvenly_4 S hK hA hend hWp  F (0 : Int32) (0 : Int32) h
noncomputable def fn_X10_liesEvenly (F : Nat) (p0_symbols : Int32) (n_p0_lengths : Nat) (p0_lengths : Nat → Int32)  : Option (Int32) :=
  bf_X10_liesEvenly_0 F p0_symbols n_p0_lengths p0_lengths
set_option maxRecDepth 100000 in
set_option maxHeartbeats 4000000 in
theorem c_X10_liesEvenly (l : Launch) (D : va_G) (cI cZ : ClassId) (F : Nat) (h_p0 h_p0_lengths h_p0_codes h_p0_below : Nat) (p0_symbols : Int32) (p0_most : Int32) (p0_nodes : Int32) (p0_inOrder : Int32) (p0_loaded : Int32) (p0_full : Int32) (n_p0_lengths : Nat) (p0_lengths : Nat → Int32) (n_p0_codes : Nat) (p0_codes : Nat → Int32) (n_p0_below : Nat) (p0_below : Nat → Int32)  (r : Int32) (h : fn_X10_liesEvenly F p0_symbols n_p0_lengths p0_lengths = some r) : Ci l yX10_liesEvenly wsX10_liesEvenly ({ frames := 1, cells := 0, slots := 0, locals := 20 } : Room) D vwCl [(cI, .int), (cZ, .boolean)] [.ref h_p0] (W_X10 cI cZ h_p0 h_p0_lengths h_p0_codes h_p0_below p0_symbols p0_most p0_nodes p0_inOrder p0_loaded p0_full n_p0_lengths p0_lengths n_p0_codes p0_codes n_p0_below p0_below) r (fun w => w = (W_X10 cI cZ h_p0 h_p0_lengths h_p0_codes h_p0_below p0_symbols p0_most p0_nodes p0_inOrder p0_loaded p0_full n_p0_lengths p0_lengths n_p0_codes p0_codes n_p0_below p0_below)) 0 0 :=
  Ci.ofz (by decide) rfl (Nat.le_of_ble_eq_true rfl) (fun p e s m args below meth c Q A S hK hA hname hend => w_X10_liesEvenly_0 S hK hA hend rfl  h)
end

/-! ===== PrefixSmith$Table.isRight()Z ===== -/
theorem k_X10_isRight_63 : Jvm.Cond.constant RX10 63 (16777216) ∈ wsX10_isRight := by decide +kernel
theorem i_X10_isRight_X10 : ∀ w ∈ u_ws RX10 TX10 9, w ∈ wsX10_isRight := by decide +kernel
theorem k_X10_isRight_45 : Cond.fieldLink RX10 45 "PrefixSmith$Table" "inOrder" "Z" ∈ wsX10_isRight := by decide +kernel
section
variable {p : Program} {l : Launch} {e : Env} {s : State} {m : MethodId} {args : Array Value} {below : List Frame} {meth : Method} {c : Code} {Q : State → Prop} {D : va_G} {A : Nat → Prop} {cI cZ : ClassId}
noncomputable def bf_X10_isRight_0 (F : Nat) (p0_symbols : Int32) (p0_inOrder : Int32) (n_p0_lengths : Nat) (p0_lengths : Nat → Int32)   : Option (Int32) :=
  ((fn_X10_codeNumber F p0_symbols n_p0_lengths p0_lengths).bind fun v1 => (if v1 ≤ 0 then some ((0 : Int32)) else ((fn_X10_sum F p0_symbols n_p0_lengths p0_lengths).bind fun v8 => (if (16777216 : Int32) < v8 then some ((0 : Int32)) else (if p0_inOrder = 0 then some ((1 : Int32)) else ((fn_X10_liesEvenly F p0_symbols n_p0_lengths p0_lengths).bind fun v24 => (if v24 = 0 then some ((0 : Int32)) else some ((1 : Int32)))))))))
set_option maxRecDepth 100000 in
set_option maxHeartbeats 4000000 in
theorem w_X10_isRight_0 (S : CallFix p m c cX10_isRight 1 s args wsX10_isRight RX10) (hK : K_ D vwCl [(cI, .int), (cZ, .boolean)] s) (hA : ∀ q, s.heap.size ≤ q → A q) {F : Nat} {p0_symbols : Int32} {p0_most : Int32} {p0_nodes : Int32} {p0_inOrder : Int32} {p0_loaded : Int32} {p0_full : Int32} {n_p0_lengths : Nat} {p0_lengths : Nat → Int32} {n_p0_codes : Nat} {p0_codes : Nat → Int32} {n_p0_below : Nat} {p0_below : Nat → Int32} {h_p0 h_p0_lengths h_p0_codes h_p0_below : Nat} {r : Int32} {Wp : va_W → Prop} (hend : ∀ (w1 : va_W) (pc : Nat) (lv : List (Nat × Value)), Wp w1 → narrow .boolean (.int r) = .int r → decode cX10_isRight pc = .ok (.ireturn, 1) → X_ p l e ({ frames := 2, cells := 0, slots := 0, locals := 43 } : Room) s m args below meth c Q D vwCl A 1 0 0 w1 lv pc [.int r]) (hWp : Wp (W_X10 cI cZ h_p0 h_p0_lengths h_p0_codes h_p0_below p0_symbols p0_most p0_nodes p0_inOrder p0_loaded p0_full n_p0_lengths p0_lengths n_p0_codes p0_codes n_p0_below p0_below))   : bf_X10_isRight_0 F p0_symbols p0_inOrder n_p0_lengths p0_lengths = some r → X_ p l e ({ frames := 2, cells := 0, slots := 0, locals := 43 } : Room) s m args below meth c Q D vwCl A 1 0 0 (W_X10 cI cZ h_p0 h_p0_lengths h_p0_codes h_p0_below p0_symbols p0_most p0_nodes p0_inOrder p0_loaded p0_full n_p0_lengths p0_lengths n_p0_codes p0_codes n_p0_below p0_below) [(0, .ref h_p0)] 0 [] := by
  intro h
  unfold bf_X10_isRight_0 at h
  refine x_aload_n S dX10_isRight_0 rfl 0 rfl ?_
  obtain ⟨v1, h1, h⟩ := gbind h
  refine x_callVi S hK hA (c_X10_codeNumber l D cI cZ F h_p0 h_p0_lengths h_p0_codes h_p0_below p0_symbols p0_most p0_nodes p0_inOrder p0_loaded p0_full n_p0_lengths p0_lengths n_p0_codes p0_codes n_p0_below p0_below  v1 h1) (cwV 0 S.2.2.2.2 gX10_isRight_X10_codeNumber rfl rfl rfl (by decide +kernel) ⟨(Nat.le_of_ble_eq_true rfl), (Nat.le_of_ble_eq_true rfl)⟩) [0, 1, 2, 3] [] rfl (by decide) rfl (by decide) (by decide) 0 9 rfl rfl rfl (Nat.le_of_ble_eq_true rfl) rfl dX10_isRight_1 ⟨(Nat.le_of_ble_eq_true rfl), (Nat.le_of_ble_eq_true rfl)⟩ (fun w1 hw1 => ?_)
  subst hw1
  refine x_ws (ws' := (W_X10 cI cZ h_p0 h_p0_lengths h_p0_codes h_p0_below p0_symbols p0_most p0_nodes p0_inOrder p0_loaded p0_full n_p0_lengths p0_lengths n_p0_codes p0_codes n_p0_below p0_below)) [0, 1, 2, 3] (by decide) (by rfl) ?_
  refine x_if_le S 34 dX10_isRight_4 (by decide) h (fun h => ?_) (fun h => ?_)
  · refine x_iconst (v := 0) S dX10_isRight_34 (by decide) ?_
    obtain rfl := Option.some.inj h
    exact hend _ _ _ hWp (by decide) dX10_isRight_35
  · refine x_aload_n S dX10_isRight_7 rfl 0 rfl ?_
    obtain ⟨v8, h8, h⟩ := gbind h
    refine x_callVi S hK hA (c_X10_sum l D cI cZ F h_p0 h_p0_lengths h_p0_codes h_p0_below p0_symbols p0_most p0_nodes p0_inOrder p0_loaded p0_full n_p0_lengths p0_lengths n_p0_codes p0_codes n_p0_below p0_below  v8 h8) (cwV 0 S.2.2.2.2 gX10_isRight_X10_sum rfl rfl rfl (by decide +kernel) ⟨(Nat.le_of_ble_eq_true rfl), (Nat.le_of_ble_eq_true rfl)⟩) [0, 1, 2, 3] [] rfl (by decide) rfl (by decide) (by decide) 0 9 rfl rfl rfl (Nat.le_of_ble_eq_true rfl) rfl dX10_isRight_8 ⟨(Nat.le_of_ble_eq_true rfl), (Nat.le_of_ble_eq_true rfl)⟩ (fun w1 hw1 => ?_)
    subst hw1
    refine x_ws (ws' := (W_X10 cI cZ h_p0 h_p0_lengths h_p0_codes h_p0_below p0_symbols p0_most p0_nodes p0_inOrder p0_loaded p0_full n_p0_lengths p0_lengths n_p0_codes p0_codes n_p0_below p0_below)) [0, 1, 2, 3] (by decide) (by rfl) ?_
    refine x_ldc S k_X10_isRight_63 dX10_isRight_11 ?_
    refine x_icmp_gt S 34 dX10_isRight_13 (by decide) h (fun h => ?_) (fun h => ?_)
    · refine x_iconst (v := 0) S dX10_isRight_34 (by decide) ?_
      obtain rfl := Option.some.inj h
      exact hend _ _ _ hWp (by decide) dX10_isRight_35
    · refine x_aload_n S dX10_isRight_16 rfl 0 rfl ?_
      refine x_get S hK i_X10_isRight_X10 0 rfl rfl 6 (by decide) k_X10_isRight_45 rfl rfl dX10_isRight_17 ?_
      refine x_if_eq S 30 dX10_isRight_20 (by decide) h (fun h => ?_) (fun h => ?_)
      · refine x_iconst (v := 1) S dX10_isRight_30 (by decide) ?_
        refine x_goto S 35 dX10_isRight_31 (by decide) ?_
        obtain rfl := Option.some.inj h
        exact hend _ _ _ hWp (by decide) dX10_isRight_35
      · refine x_aload_n S dX10_isRight_23 rfl 0 rfl ?_
        obtain ⟨v24, h24, h⟩ := gbind h
        refine x_callVi S hK hA (c_X10_liesEvenly l D cI cZ F h_p0 h_p0_lengths h_p0_codes h_p0_below p0_symbols p0_most p0_nodes p0_inOrder p0_loaded p0_full n_p0_lengths p0_lengths n_p0_codes p0_codes n_p0_below p0_below  v24 h24) (cwV 0 S.2.2.2.2 gX10_isRight_X10_liesEvenly rfl rfl rfl (by decide +kernel) ⟨(Nat.le_of_ble_eq_true rfl), (Nat.le_of_ble_eq_true rfl)⟩) [0, 1, 2, 3] [] rfl (by decide) rfl (by decide) (by decide) 0 9 rfl rfl rfl (Nat.le_of_ble_eq_true rfl) rfl dX10_isRight_24 ⟨(Nat.le_of_ble_eq_true rfl), (Nat.le_of_ble_eq_true rfl)⟩ (fun w1 hw1 => ?_)
        subst hw1
        refine x_ws (ws' := (W_X10 cI cZ h_p0 h_p0_lengths h_p0_codes h_p0_below p0_symbols p0_most p0_nodes p0_inOrder p0_loaded p0_full n_p0_lengths p0_lengths n_p0_codes p0_codes n_p0_below p0_below)) [0, 1, 2, 3] (by decide) (by rfl) ?_
        refine x_if_eq S 34 dX10_isRight_27 (by decide) h (fun h => ?_) (fun h => ?_)
        · refine x_iconst (v := 0) S dX10_isRight_34 (by decide) ?_
          obtain rfl := Option.some.inj h
          exact hend _ _ _ hWp (by decide) dX10_isRight_35
        · refine x_iconst (v := 1) S dX10_isRight_30 (by decide) ?_
          refine x_goto S 35 dX10_isRight_31 (by decide) ?_
          obtain rfl := Option.some.inj h
          exact hend _ _ _ hWp (by decide) dX10_isRight_35
noncomputable def fn_X10_isRight (F : Nat) (p0_symbols : Int32) (p0_inOrder : Int32) (n_p0_lengths : Nat) (p0_lengths : Nat → Int32)  : Option (Int32) :=
  bf_X10_isRight_0 F p0_symbols p0_inOrder n_p0_lengths p0_lengths
set_option maxRecDepth 100000 in
set_option maxHeartbeats 4000000 in
theorem c_X10_isRight (l : Launch) (D : va_G) (cI cZ : ClassId) (F : Nat) (h_p0 h_p0_lengths h_p0_codes h_p0_below : Nat) (p0_symbols : Int32) (p0_most : Int32) (p0_nodes : Int32) (p0_inOrder : Int32) (p0_loaded : Int32) (p0_full : Int32) (n_p0_lengths : Nat) (p0_lengths : Nat → Int32) (n_p0_codes : Nat) (p0_codes : Nat → Int32) (n_p0_below : Nat) (p0_below : Nat → Int32)  (r : Int32) (h : fn_X10_isRight F p0_symbols p0_inOrder n_p0_lengths p0_lengths = some r) : Ci l yX10_isRight wsX10_isRight ({ frames := 2, cells := 0, slots := 0, locals := 43 } : Room) D vwCl [(cI, .int), (cZ, .boolean)] [.ref h_p0] (W_X10 cI cZ h_p0 h_p0_lengths h_p0_codes h_p0_below p0_symbols p0_most p0_nodes p0_inOrder p0_loaded p0_full n_p0_lengths p0_lengths n_p0_codes p0_codes n_p0_below p0_below) r (fun w => w = (W_X10 cI cZ h_p0 h_p0_lengths h_p0_codes h_p0_below p0_symbols p0_most p0_nodes p0_inOrder p0_loaded p0_full n_p0_lengths p0_lengths n_p0_codes p0_codes n_p0_below p0_below)) 0 0 :=
  Ci.ofz (by decide) rfl (Nat.le_of_ble_eq_true rfl) (fun p e s m args below meth c Q A S hK hA hname hend => w_X10_isRight_0 S hK hA hend rfl  h)
end

/-! ===== PrefixSmith$Table.gapFrom(I)I ===== -/
theorem i_X10_gapFrom_X10 : ∀ w ∈ u_ws RX10 TX10 9, w ∈ wsX10_gapFrom := by decide +kernel
theorem k_X10_gapFrom_9 : Cond.fieldLink RX10 9 "PrefixSmith$Table" "symbols" "I" ∈ wsX10_gapFrom := by decide +kernel
theorem k_X10_gapFrom_18 : Cond.fieldLink RX10 18 "PrefixSmith$Table" "lengths" "[I" ∈ wsX10_gapFrom := by decide +kernel
section
variable {p : Program} {l : Launch} {e : Env} {s : State} {m : MethodId} {args : Array Value} {below : List Frame} {meth : Method} {c : Code} {Q : State → Prop} {D : va_G} {A : Nat → Prop} {cI cZ : ClassId}
noncomputable def bf_X10_gapFrom_2 (F : Nat) (p0_symbols : Int32) (n_p0_lengths : Nat) (p0_lengths : Nat → Int32) (rec2 : Int32 → Int32 → Option (Int32)) (x1 : Int32) (x2 : Int32) : Option (Int32) :=
  (if p0_symbols ≤ x2 then some (x2 - x1) else (if x2 < 0 ∨ n_p0_lengths ≤ (x2).toNatClampNeg then none else (if (p0_lengths (x2).toNatClampNeg) = 0 then rec2 x1 (x2 + (1 : Int32)) else some (x2 - x1))))
set_option maxRecDepth 100000 in
set_option maxHeartbeats 4000000 in
theorem w_X10_gapFrom_2 (S : CallFix p m c cX10_gapFrom 3 s args wsX10_gapFrom RX10) (hK : K_ D vwCl [(cI, .int), (cZ, .boolean)] s) (hA : ∀ q, s.heap.size ≤ q → A q) {F : Nat} {p0_symbols : Int32} {p0_most : Int32} {p0_nodes : Int32} {p0_inOrder : Int32} {p0_loaded : Int32} {p0_full : Int32} {n_p0_lengths : Nat} {p0_lengths : Nat → Int32} {n_p0_codes : Nat} {p0_codes : Nat → Int32} {n_p0_below : Nat} {p0_below : Nat → Int32} {h_p0 h_p0_lengths h_p0_codes h_p0_below : Nat} {r : Int32} {Wp : va_W → Prop} (hend : ∀ (w1 : va_W) (pc : Nat) (lv : List (Nat × Value)), Wp w1 → decode cX10_gapFrom pc = .ok (.ireturn, 1) → X_ p l e ({ frames := 0, cells := 0, slots := 0, locals := 0 } : Room) s m args below meth c Q D vwCl A 3 0 0 w1 lv pc [.int r]) (hWp : Wp (W_X10 cI cZ h_p0 h_p0_lengths h_p0_codes h_p0_below p0_symbols p0_most p0_nodes p0_inOrder p0_loaded p0_full n_p0_lengths p0_lengths n_p0_codes p0_codes n_p0_below p0_below)) {rec2 : Int32 → Int32 → Option (Int32)} (hrec2 : ∀ (x1 : Int32) (x2 : Int32), rec2 x1 x2 = some r → X_ p l e ({ frames := 0, cells := 0, slots := 0, locals := 0 } : Room) s m args below meth c Q D vwCl A 3 0 0 (W_X10 cI cZ h_p0 h_p0_lengths h_p0_codes h_p0_below p0_symbols p0_most p0_nodes p0_inOrder p0_loaded p0_full n_p0_lengths p0_lengths n_p0_codes p0_codes n_p0_below p0_below) [(0, .ref h_p0), (1, .int x1), (2, .int x2)] 2 []) : ∀ (x1 : Int32) (x2 : Int32), bf_X10_gapFrom_2 F p0_symbols n_p0_lengths p0_lengths rec2 x1 x2 = some r → X_ p l e ({ frames := 0, cells := 0, slots := 0, locals := 0 } : Room) s m args below meth c Q D vwCl A 3 0 0 (W_X10 cI cZ h_p0 h_p0_lengths h_p0_codes h_p0_below p0_symbols p0_most p0_nodes p0_inOrder p0_loaded p0_full n_p0_lengths p0_lengths n_p0_codes p0_codes n_p0_below p0_below) [(0, .ref h_p0), (1, .int x1), (2, .int x2)] 2 [] := by
  intro x1 x2 h
  unfold bf_X10_gapFrom_2 at h
  refine x_iload_n S dX10_gapFrom_2 rfl 2 rfl ?_
  refine x_aload_n S dX10_gapFrom_3 rfl 0 rfl ?_
  refine x_get S hK i_X10_gapFrom_X10 0 rfl rfl 0 (by decide) k_X10_gapFrom_9 rfl rfl dX10_gapFrom_4 ?_
  refine x_icmp_ge S 25 dX10_gapFrom_7 (by decide) h (fun h => ?_) (fun h => ?_)
  · refine x_iload_n S dX10_gapFrom_25 rfl 2 rfl ?_
    refine x_iload_n S dX10_gapFrom_26 rfl 1 rfl ?_
    refine x_isub S dX10_gapFrom_27 ?_
    obtain rfl := Option.some.inj h
    exact hend _ _ _ hWp dX10_gapFrom_28
  · refine x_aload_n S dX10_gapFrom_10 rfl 0 rfl ?_
    refine x_get S hK i_X10_gapFrom_X10 0 rfl rfl 2 (by decide) k_X10_gapFrom_18 rfl rfl dX10_gapFrom_11 ?_
    refine x_iload_n S dX10_gapFrom_14 rfl 2 rfl ?_
    refine x_iald S hK 1 0 rfl rfl dX10_gapFrom_15 h (fun h => ?_)
    refine x_if_ne S 25 dX10_gapFrom_16 (by decide) h (fun h => ?_) (fun h => ?_)
    · refine x_iload_n S dX10_gapFrom_25 rfl 2 rfl ?_
      refine x_iload_n S dX10_gapFrom_26 rfl 1 rfl ?_
      refine x_isub S dX10_gapFrom_27 ?_
      obtain rfl := Option.some.inj h
      exact hend _ _ _ hWp dX10_gapFrom_28
    · refine x_iinc (v := x2 + (1 : Int32)) (lv' := [(2, .int (x2 + (1 : Int32))), (0, .ref h_p0), (1, .int x1)]) S dX10_gapFrom_19 2 rfl rfl (by decide) rfl ?_
      refine x_goto S 2 dX10_gapFrom_22 (by decide) ?_
      refine x_lv [1, 2, 0] (by rfl) ?_
      exact hrec2 x1 (x2 + (1 : Int32)) h
noncomputable def lf_X10_gapFrom_2 (F : Nat) (p0_symbols : Int32) (n_p0_lengths : Nat) (p0_lengths : Nat → Int32)  (k : Nat) (x1 : Int32) (x2 : Int32) : Option (Int32) :=
  lp (fun (rec : Int32 × Int32 → Option (Int32)) (z : Int32 × Int32) => bf_X10_gapFrom_2 F p0_symbols n_p0_lengths p0_lengths (fun x1 x2 => rec (x1, x2)) z.1 z.2) k (x1, x2)
set_option maxRecDepth 100000 in
set_option maxHeartbeats 4000000 in
theorem wl_X10_gapFrom_2 (S : CallFix p m c cX10_gapFrom 3 s args wsX10_gapFrom RX10) (hK : K_ D vwCl [(cI, .int), (cZ, .boolean)] s) (hA : ∀ q, s.heap.size ≤ q → A q) {F : Nat} {p0_symbols : Int32} {p0_most : Int32} {p0_nodes : Int32} {p0_inOrder : Int32} {p0_loaded : Int32} {p0_full : Int32} {n_p0_lengths : Nat} {p0_lengths : Nat → Int32} {n_p0_codes : Nat} {p0_codes : Nat → Int32} {n_p0_below : Nat} {p0_below : Nat → Int32} {h_p0 h_p0_lengths h_p0_codes h_p0_below : Nat} {r : Int32} {Wp : va_W → Prop} (hend : ∀ (w1 : va_W) (pc : Nat) (lv : List (Nat × Value)), Wp w1 → decode cX10_gapFrom pc = .ok (.ireturn, 1) → X_ p l e ({ frames := 0, cells := 0, slots := 0, locals := 0 } : Room) s m args below meth c Q D vwCl A 3 0 0 w1 lv pc [.int r]) (hWp : Wp (W_X10 cI cZ h_p0 h_p0_lengths h_p0_codes h_p0_below p0_symbols p0_most p0_nodes p0_inOrder p0_loaded p0_full n_p0_lengths p0_lengths n_p0_codes p0_codes n_p0_below p0_below))   (k : Nat) : ∀ (x1 : Int32) (x2 : Int32), lf_X10_gapFrom_2 F p0_symbols n_p0_lengths p0_lengths k x1 x2 = some r → X_ p l e ({ frames := 0, cells := 0, slots := 0, locals := 0 } : Room) s m args below meth c Q D vwCl A 3 0 0 (W_X10 cI cZ h_p0 h_p0_lengths h_p0_codes h_p0_below p0_symbols p0_most p0_nodes p0_inOrder p0_loaded p0_full n_p0_lengths p0_lengths n_p0_codes p0_codes n_p0_below p0_below) [(0, .ref h_p0), (1, .int x1), (2, .int x2)] 2 [] := by
  intro x1 x2 h
  exact lp_W (P := fun z => X_ p l e ({ frames := 0, cells := 0, slots := 0, locals := 0 } : Room) s m args below meth c Q D vwCl A 3 0 0 (W_X10 cI cZ h_p0 h_p0_lengths h_p0_codes h_p0_below p0_symbols p0_most p0_nodes p0_inOrder p0_loaded p0_full n_p0_lengths p0_lengths n_p0_codes p0_codes n_p0_below p0_below) [(0, .ref h_p0), (1, .int z.1), (2, .int z.2)] 2 []) (fun rec ih z hz => w_X10_gapFrom_2 S hK hA hend hWp (fun x1 x2 hh => ih (x1, x2) hh)  z.1 z.2 hz) k (x1, x2) h 
noncomputable def bf_X10_gapFrom_0 (F : Nat) (p0_symbols : Int32) (n_p0_lengths : Nat) (p0_lengths : Nat → Int32)  (x1 : Int32) : Option (Int32) :=
  lf_X10_gapFrom_2 F p0_symbols n_p0_lengths p0_lengths F x1 x1
set_option maxRecDepth 100000 in
set_option maxHeartbeats 4000000 in
theorem w_X10_gapFrom_0 (S : CallFix p m c cX10_gapFrom 3 s args wsX10_gapFrom RX10) (hK : K_ D vwCl [(cI, .int), (cZ, .boolean)] s) (hA : ∀ q, s.heap.size ≤ q → A q) {F : Nat} {p0_symbols : Int32} {p0_most : Int32} {p0_nodes : Int32} {p0_inOrder : Int32} {p0_loaded : Int32} {p0_full : Int32} {n_p0_lengths : Nat} {p0_lengths : Nat → Int32} {n_p0_codes : Nat} {p0_codes : Nat → Int32} {n_p0_below : Nat} {p0_below : Nat → Int32} {h_p0 h_p0_lengths h_p0_codes h_p0_below : Nat} {r : Int32} {Wp : va_W → Prop} (hend : ∀ (w1 : va_W) (pc : Nat) (lv : List (Nat × Value)), Wp w1 → decode cX10_gapFrom pc = .ok (.ireturn, 1) → X_ p l e ({ frames := 0, cells := 0, slots := 0, locals := 0 } : Room) s m args below meth c Q D vwCl A 3 0 0 w1 lv pc [.int r]) (hWp : Wp (W_X10 cI cZ h_p0 h_p0_lengths h_p0_codes h_p0_below p0_symbols p0_most p0_nodes p0_inOrder p0_loaded p0_full n_p0_lengths p0_lengths n_p0_codes p0_codes n_p0_below p0_below))   : ∀ (x1 : Int32), bf_X10_gapFrom_0 F p0_symbols n_p0_lengths p0_lengths x1 = some r → X_ p l e ({ frames := 0, cells := 0, slots := 0, locals := 0 } : Room) s m args below meth c Q D vwCl A 3 0 0 (W_X10 cI cZ h_p0 h_p0_lengths h_p0_codes h_p0_below p0_symbols p0_most p0_nodes p0_inOrder p0_loaded p0_full n_p0_lengths p0_lengths n_p0_codes p0_codes n_p0_below p0_below) [(0, .ref h_p0), (1, .int x1)] 0 [] := by
  intro x1 h
  unfold bf_X10_gapFrom_0 at h
  refine x_iload_n S dX10_gapFrom_0 rfl 1 rfl ?_
  refine x_istore_n (lv' := [(2, .int x1), (0, .ref h_p0), (1, .int x1)]) S dX10_gapFrom_1 rfl (by decide) rfl ?_
  refine x_lv [1, 2, 0] (by rfl) ?_
  exact wl_X10_gapFrom_2 S hK hA hend hWp  F x1 x1 h
noncomputable def fn_X10_gapFrom (F : Nat) (p0_symbols : Int32) (n_p0_lengths : Nat) (p0_lengths : Nat → Int32) (x1 : Int32) : Option (Int32) :=
  bf_X10_gapFrom_0 F p0_symbols n_p0_lengths p0_lengths x1
set_option maxRecDepth 100000 in
set_option maxHeartbeats 4000000 in
theorem c_X10_gapFrom (l : Launch) (D : va_G) (cI cZ : ClassId) (F : Nat) (h_p0 h_p0_lengths h_p0_codes h_p0_below : Nat) (p0_symbols : Int32) (p0_most : Int32) (p0_nodes : Int32) (p0_inOrder : Int32) (p0_loaded : Int32) (p0_full : Int32) (n_p0_lengths : Nat) (p0_lengths : Nat → Int32) (n_p0_codes : Nat) (p0_codes : Nat → Int32) (n_p0_below : Nat) (p0_below : Nat → Int32) (x1 : Int32) (r : Int32) (h : fn_X10_gapFrom F p0_symbols n_p0_lengths p0_lengths x1 = some r) : Ci l yX10_gapFrom wsX10_gapFrom ({ frames := 0, cells := 0, slots := 0, locals := 0 } : Room) D vwCl [(cI, .int), (cZ, .boolean)] [.ref h_p0, .int x1] (W_X10 cI cZ h_p0 h_p0_lengths h_p0_codes h_p0_below p0_symbols p0_most p0_nodes p0_inOrder p0_loaded p0_full n_p0_lengths p0_lengths n_p0_codes p0_codes n_p0_below p0_below) r (fun w => w = (W_X10 cI cZ h_p0 h_p0_lengths h_p0_codes h_p0_below p0_symbols p0_most p0_nodes p0_inOrder p0_loaded p0_full n_p0_lengths p0_lengths n_p0_codes p0_codes n_p0_below p0_below)) 0 0 :=
  Ci.ofi (by decide) rfl (Nat.le_of_ble_eq_true rfl) (fun p e s m args below meth c Q A S hK hA hname hend => w_X10_gapFrom_0 S hK hA hend rfl x1 h)
end

/-! ===== PrefixSmith$Table.nodeBelow(II)I ===== -/
theorem i_X10_nodeBelow_X10 : ∀ w ∈ u_ws RX10 TX10 9, w ∈ wsX10_nodeBelow := by decide +kernel
theorem k_X10_nodeBelow_25 : Cond.fieldLink RX10 25 "PrefixSmith$Table" "below" "[I" ∈ wsX10_nodeBelow := by decide +kernel
theorem k_X10_nodeBelow_68 : Cond.fieldLink RX10 68 "PrefixSmith$Table" "nodes" "I" ∈ wsX10_nodeBelow := by decide +kernel
theorem k_X10_nodeBelow_9 : Cond.fieldLink RX10 9 "PrefixSmith$Table" "symbols" "I" ∈ wsX10_nodeBelow := by decide +kernel
theorem k_X10_nodeBelow_15 : Cond.fieldLink RX10 15 "PrefixSmith$Table" "most" "I" ∈ wsX10_nodeBelow := by decide +kernel
theorem k_X10_nodeBelow_90 : Cond.methodLink RX10 90 Lib.Math.max.name ∈ wsX10_nodeBelow := by decide +kernel
theorem ks_X10_nodeBelow_max : Cond.static Lib.Math.max.name ∈ wsX10_nodeBelow := by decide +kernel
theorem ki_X10_nodeBelow_Math : Cond.initialized "java/lang/Math" ∈ wsX10_nodeBelow := by decide +kernel
theorem kc_X10_nodeBelow_max : Cond.code Lib.Math.max.name Lib.Math.max.code 2 (some .int) ∈ wsX10_nodeBelow := by decide +kernel
section
variable {p : Program} {l : Launch} {e : Env} {s : State} {m : MethodId} {args : Array Value} {below : List Frame} {meth : Method} {c : Code} {Q : State → Prop} {D : va_G} {A : Nat → Prop} {cI cZ : ClassId}
noncomputable def bf_X10_nodeBelow_51 (F : Nat) (p0_symbols : Int32) (p0_most : Int32) (n_p0_below : Nat)  (x3 : Int32) (p0_nodes : Int32) (p0_below : Nat → Int32) : Option (Int32 × Int32 × (Nat → Int32)) :=
  (if x3 < 0 ∨ n_p0_below ≤ (x3).toNatClampNeg then none else some ((if (p0_below (x3).toNatClampNeg) < (0 : Int32) then (0 : Int32) else (p0_below (x3).toNatClampNeg)), p0_nodes, p0_below))
set_option maxRecDepth 100000 in
set_option maxHeartbeats 4000000 in
theorem w_X10_nodeBelow_51 (S : CallFix p m c cX10_nodeBelow 4 s args wsX10_nodeBelow RX10) (hK : K_ D vwCl [(cI, .int), (cZ, .boolean)] s) (hA : ∀ q, s.heap.size ≤ q → A q) {F : Nat} {p0_symbols : Int32} {p0_most : Int32} {p0_inOrder : Int32} {p0_loaded : Int32} {p0_full : Int32} {n_p0_lengths : Nat} {p0_lengths : Nat → Int32} {n_p0_codes : Nat} {p0_codes : Nat → Int32} {n_p0_below : Nat} {h_p0 h_p0_lengths h_p0_codes h_p0_below : Nat} {r : Int32 × Int32 × (Nat → Int32)} {Wp : va_W → Prop} (hend : ∀ (w1 : va_W) (pc : Nat) (lv : List (Nat × Value)), Wp w1 → decode cX10_nodeBelow pc = .ok (.ireturn, 1) → X_ p l e ({ frames := 1, cells := 0, slots := 0, locals := 21 } : Room) s m args below meth c Q D vwCl A 4 0 0 w1 lv pc [.int r.1]) (hWp : Wp (W_X10 cI cZ h_p0 h_p0_lengths h_p0_codes h_p0_below p0_symbols p0_most r.2.1 p0_inOrder p0_loaded p0_full n_p0_lengths p0_lengths n_p0_codes p0_codes n_p0_below r.2.2))   : ∀ (x3 : Int32) (p0_nodes : Int32) (p0_below : Nat → Int32), bf_X10_nodeBelow_51 F p0_symbols p0_most n_p0_below x3 p0_nodes p0_below = some r → X_ p l e ({ frames := 1, cells := 0, slots := 0, locals := 21 } : Room) s m args below meth c Q D vwCl A 4 0 0 (W_X10 cI cZ h_p0 h_p0_lengths h_p0_codes h_p0_below p0_symbols p0_most p0_nodes p0_inOrder p0_loaded p0_full n_p0_lengths p0_lengths n_p0_codes p0_codes n_p0_below p0_below) [(0, .ref h_p0), (3, .int x3)] 51 [] := by
  intro x3 p0_nodes p0_below h
  unfold bf_X10_nodeBelow_51 at h
  refine x_aload_n S dX10_nodeBelow_51 rfl 0 rfl ?_
  refine x_get S hK i_X10_nodeBelow_X10 0 rfl rfl 4 (by decide) k_X10_nodeBelow_25 rfl rfl dX10_nodeBelow_52 ?_
  refine x_iload_n S dX10_nodeBelow_55 rfl 1 rfl ?_
  refine x_iald S hK 3 0 rfl rfl dX10_nodeBelow_56 h (fun h => ?_)
  refine x_iconst (v := 0) S dX10_nodeBelow_57 (by decide) ?_
  refine x_mmax S k_X10_nodeBelow_90 ks_X10_nodeBelow_max ki_X10_nodeBelow_Math kc_X10_nodeBelow_max (Nat.le_of_ble_eq_true rfl) (Nat.le_of_ble_eq_true rfl) (Nat.le_of_ble_eq_true rfl) (Nat.le_of_ble_eq_true rfl) dX10_nodeBelow_58 ?_
  obtain rfl := Option.some.inj h
  exact hend _ _ _ hWp dX10_nodeBelow_61
noncomputable def bf_X10_nodeBelow_0 (F : Nat) (p0_symbols : Int32) (p0_most : Int32) (n_p0_below : Nat)  (x1 : Int32) (x2 : Int32) (p0_nodes : Int32) (p0_below : Nat → Int32) : Option (Int32 × Int32 × (Nat → Int32)) :=
  (if (((2 : Int32) * x1) + x2) < 0 ∨ n_p0_below ≤ ((((2 : Int32) * x1) + x2)).toNatClampNeg then none else (if 0 < (p0_below ((((2 : Int32) * x1) + x2)).toNatClampNeg) then bf_X10_nodeBelow_51 F p0_symbols p0_most n_p0_below (((2 : Int32) * x1) + x2) p0_nodes p0_below else (if (p0_symbols + p0_most) ≤ p0_nodes then bf_X10_nodeBelow_51 F p0_symbols p0_most n_p0_below (((2 : Int32) * x1) + x2) p0_nodes p0_below else (if (((2 : Int32) * x1) + x2) < 0 ∨ n_p0_below ≤ ((((2 : Int32) * x1) + x2)).toNatClampNeg then none else bf_X10_nodeBelow_51 F p0_symbols p0_most n_p0_below (((2 : Int32) * x1) + x2) (p0_nodes + (1 : Int32)) (upd p0_below ((((2 : Int32) * x1) + x2)).toNatClampNeg p0_nodes)))))
set_option maxRecDepth 100000 in
set_option maxHeartbeats 4000000 in
theorem w_X10_nodeBelow_0 (S : CallFix p m c cX10_nodeBelow 4 s args wsX10_nodeBelow RX10) (hK : K_ D vwCl [(cI, .int), (cZ, .boolean)] s) (hA : ∀ q, s.heap.size ≤ q → A q) {F : Nat} {p0_symbols : Int32} {p0_most : Int32} {p0_inOrder : Int32} {p0_loaded : Int32} {p0_full : Int32} {n_p0_lengths : Nat} {p0_lengths : Nat → Int32} {n_p0_codes : Nat} {p0_codes : Nat → Int32} {n_p0_below : Nat} {h_p0 h_p0_lengths h_p0_codes h_p0_below : Nat} {r : Int32 × Int32 × (Nat → Int32)} {Wp : va_W → Prop} (hend : ∀ (w1 : va_W) (pc : Nat) (lv : List (Nat × Value)), Wp w1 → decode cX10_nodeBelow pc = .ok (.ireturn, 1) → X_ p l e ({ frames := 1, cells := 0, slots := 0, locals := 21 } : Room) s m args below meth c Q D vwCl A 4 0 0 w1 lv pc [.int r.1]) (hWp : Wp (W_X10 cI cZ h_p0 h_p0_lengths h_p0_codes h_p0_below p0_symbols p0_most r.2.1 p0_inOrder p0_loaded p0_full n_p0_lengths p0_lengths n_p0_codes p0_codes n_p0_below r.2.2))   : ∀ (x1 : Int32) (x2 : Int32) (p0_nodes : Int32) (p0_below : Nat → Int32), bf_X10_nodeBelow_0 F p0_symbols p0_most n_p0_below x1 x2 p0_nodes p0_below = some r → X_ p l e ({ frames := 1, cells := 0, slots := 0, locals := 21 } : Room) s m args below meth c Q D vwCl A 4 0 0 (W_X10 cI cZ h_p0 h_p0_lengths h_p0_codes h_p0_below p0_symbols p0_most p0_nodes p0_inOrder p0_loaded p0_full n_p0_lengths p0_lengths n_p0_codes p0_codes n_p0_below p0_below) [(0, .ref h_p0), (1, .int x1), (2, .int x2)] 0 [] := by
  intro x1 x2 p0_nodes p0_below h
  unfold bf_X10_nodeBelow_0 at h
  refine x_iconst (v := 2) S dX10_nodeBelow_0 (by decide) ?_
  refine x_iload_n S dX10_nodeBelow_1 rfl 1 rfl ?_
  refine x_imul S dX10_nodeBelow_2 ?_
  refine x_iload_n S dX10_nodeBelow_3 rfl 2 rfl ?_
  refine x_iadd S dX10_nodeBelow_4 ?_
  refine x_istore_n (lv' := [(3, .int (((2 : Int32) * x1) + x2)), (0, .ref h_p0), (1, .int x1), (2, .int x2)]) S dX10_nodeBelow_5 rfl (by decide) rfl ?_
  refine x_aload_n S dX10_nodeBelow_6 rfl 1 rfl ?_
  refine x_get S hK i_X10_nodeBelow_X10 0 rfl rfl 4 (by decide) k_X10_nodeBelow_25 rfl rfl dX10_nodeBelow_7 ?_
  refine x_iload_n S dX10_nodeBelow_10 rfl 0 rfl ?_
  refine x_iald S hK 3 0 rfl rfl dX10_nodeBelow_11 h (fun h => ?_)
  refine x_if_gt S 51 dX10_nodeBelow_12 (by decide) h (fun h => ?_) (fun h => ?_)
  · refine x_lv [1, 0] (by rfl) ?_
    exact w_X10_nodeBelow_51 S hK hA hend hWp  (((2 : Int32) * x1) + x2) p0_nodes p0_below h
  · refine x_aload_n S dX10_nodeBelow_15 rfl 1 rfl ?_
    refine x_get S hK i_X10_nodeBelow_X10 0 rfl rfl 5 (by decide) k_X10_nodeBelow_68 rfl rfl dX10_nodeBelow_16 ?_
    refine x_aload_n S dX10_nodeBelow_19 rfl 1 rfl ?_
    refine x_get S hK i_X10_nodeBelow_X10 0 rfl rfl 0 (by decide) k_X10_nodeBelow_9 rfl rfl dX10_nodeBelow_20 ?_
    refine x_aload_n S dX10_nodeBelow_23 rfl 1 rfl ?_
    refine x_get S hK i_X10_nodeBelow_X10 0 rfl rfl 1 (by decide) k_X10_nodeBelow_15 rfl rfl dX10_nodeBelow_24 ?_
    refine x_iadd S dX10_nodeBelow_27 ?_
    refine x_icmp_ge S 51 dX10_nodeBelow_28 (by decide) h (fun h => ?_) (fun h => ?_)
    · refine x_lv [1, 0] (by rfl) ?_
      exact w_X10_nodeBelow_51 S hK hA hend hWp  (((2 : Int32) * x1) + x2) p0_nodes p0_below h
    · refine x_aload_n S dX10_nodeBelow_31 rfl 1 rfl ?_
      refine x_get S hK i_X10_nodeBelow_X10 0 rfl rfl 4 (by decide) k_X10_nodeBelow_25 rfl rfl dX10_nodeBelow_32 ?_
      refine x_iload_n S dX10_nodeBelow_35 rfl 0 rfl ?_
      refine x_aload_n S dX10_nodeBelow_36 rfl 1 rfl ?_
      refine x_get S hK i_X10_nodeBelow_X10 0 rfl rfl 5 (by decide) k_X10_nodeBelow_68 rfl rfl dX10_nodeBelow_37 ?_
      refine x_iast S hK 3 0 rfl rfl dX10_nodeBelow_40 h rfl (fun h => ?_)
      refine x_aload_n S dX10_nodeBelow_41 rfl 1 rfl ?_
      refine x_dup S dX10_nodeBelow_42 rfl ?_
      refine x_get S hK i_X10_nodeBelow_X10 0 rfl rfl 5 (by decide) k_X10_nodeBelow_68 rfl rfl dX10_nodeBelow_43 ?_
      refine x_iconst (v := 1) S dX10_nodeBelow_46 (by decide) ?_
      refine x_iadd S dX10_nodeBelow_47 ?_
      refine x_put (ty := .int) S hK i_X10_nodeBelow_X10 tyX10 tyX10_ok nmX10 0 rfl rfl 5 (by decide) k_X10_nodeBelow_68 rfl rfl (by decide +kernel) rfl rfl (Nat.le_of_ble_eq_true rfl) dX10_nodeBelow_48 rfl ?_
      refine x_lv [1, 0] (by rfl) ?_
      exact w_X10_nodeBelow_51 S hK hA hend hWp  (((2 : Int32) * x1) + x2) (p0_nodes + (1 : Int32)) (upd p0_below ((((2 : Int32) * x1) + x2)).toNatClampNeg p0_nodes) h
noncomputable def fn_X10_nodeBelow (F : Nat) (p0_symbols : Int32) (p0_most : Int32) (n_p0_below : Nat) (p0_nodes : Int32) (p0_below : Nat → Int32) (x1 : Int32) (x2 : Int32) : Option (Int32 × Int32 × (Nat → Int32)) :=
  bf_X10_nodeBelow_0 F p0_symbols p0_most n_p0_below x1 x2 p0_nodes p0_below
set_option maxRecDepth 100000 in
set_option maxHeartbeats 4000000 in
theorem c_X10_nodeBelow (l : Launch) (D : va_G) (cI cZ : ClassId) (F : Nat) (h_p0 h_p0_lengths h_p0_codes h_p0_below : Nat) (p0_symbols : Int32) (p0_most : Int32) (p0_nodes : Int32) (p0_inOrder : Int32) (p0_loaded : Int32) (p0_full : Int32) (n_p0_lengths : Nat) (p0_lengths : Nat → Int32) (n_p0_codes : Nat) (p0_codes : Nat → Int32) (n_p0_below : Nat) (p0_below : Nat → Int32) (x1 : Int32) (x2 : Int32) (r : Int32 × Int32 × (Nat → Int32)) (h : fn_X10_nodeBelow F p0_symbols p0_most n_p0_below p0_nodes p0_below x1 x2 = some r) : Ci l yX10_nodeBelow wsX10_nodeBelow ({ frames := 1, cells := 0, slots := 0, locals := 21 } : Room) D vwCl [(cI, .int), (cZ, .boolean)] [.ref h_p0, .int x1, .int x2] (W_X10 cI cZ h_p0 h_p0_lengths h_p0_codes h_p0_below p0_symbols p0_most p0_nodes p0_inOrder p0_loaded p0_full n_p0_lengths p0_lengths n_p0_codes p0_codes n_p0_below p0_below) r.1 (fun w => w = (W_X10 cI cZ h_p0 h_p0_lengths h_p0_codes h_p0_below p0_symbols p0_most r.2.1 p0_inOrder p0_loaded p0_full n_p0_lengths p0_lengths n_p0_codes p0_codes n_p0_below r.2.2)) 0 0 :=
  Ci.ofi (by decide) rfl (Nat.le_of_ble_eq_true rfl) (fun p e s m args below meth c Q A S hK hA hname hend => w_X10_nodeBelow_0 S hK hA hend rfl x1 x2 p0_nodes p0_below h)
end

/-! ===== PrefixSmith$Table.forgeOne(II)I ===== -/
theorem i_X10_forgeOne_X10 : ∀ w ∈ u_ws RX10 TX10 9, w ∈ wsX10_forgeOne := by decide +kernel
theorem k_X10_forgeOne_18 : Cond.fieldLink RX10 18 "PrefixSmith$Table" "lengths" "[I" ∈ wsX10_forgeOne := by decide +kernel
theorem k_X10_forgeOne_22 : Cond.fieldLink RX10 22 "PrefixSmith$Table" "codes" "[I" ∈ wsX10_forgeOne := by decide +kernel
theorem k_X10_forgeOne_25 : Cond.fieldLink RX10 25 "PrefixSmith$Table" "below" "[I" ∈ wsX10_forgeOne := by decide +kernel
section
variable {p : Program} {l : Launch} {e : Env} {s : State} {m : MethodId} {args : Array Value} {below : List Frame} {meth : Method} {c : Code} {Q : State → Prop} {D : va_G} {A : Nat → Prop} {cI cZ : ClassId}
noncomputable def bf_X10_forgeOne_31 (F : Nat) (p0_symbols : Int32) (p0_most : Int32) (n_p0_lengths : Nat) (p0_lengths : Nat → Int32) (n_p0_codes : Nat) (n_p0_below : Nat) (rec31 : Int32 → Int32 → Int32 → Int32 → Int32 → Int32 → Int32 → (Nat → Int32) → (Nat → Int32) → Option (Int32 × Int32 × (Nat → Int32) × (Nat → Int32))) (x1 : Int32) (x2 : Int32) (x3 : Int32) (x4 : Int32) (x5 : Int32) (x6 : Int32) (p0_nodes : Int32) (p0_codes : Nat → Int32) (p0_below : Nat → Int32) : Option (Int32 × Int32 × (Nat → Int32) × (Nat → Int32)) :=
  (if x6 ≤ 0 then (if (((2 : Int32) * x5) + (x4 &&& (1 : Int32))) < 0 ∨ n_p0_below ≤ ((((2 : Int32) * x5) + (x4 &&& (1 : Int32)))).toNatClampNeg then none else ((fn_X10_share F x3).bind fun v76 => some (x2 + v76, p0_nodes, p0_codes, upd p0_below ((((2 : Int32) * x5) + (x4 &&& (1 : Int32)))).toNatClampNeg ((-1 : Int32) - x1)))) else ((fn_X10_nodeBelow F p0_symbols p0_most n_p0_below p0_nodes p0_below x5 ((x4 >>> (x6 &&& 31)) &&& (1 : Int32))).bind fun v46 => rec31 x1 x2 x3 x4 v46.1 (x6 + (-1 : Int32)) v46.2.1 p0_codes v46.2.2))
set_option maxRecDepth 100000 in
set_option maxHeartbeats 4000000 in
theorem w_X10_forgeOne_31 (S : CallFix p m c cX10_forgeOne 7 s args wsX10_forgeOne RX10) (hK : K_ D vwCl [(cI, .int), (cZ, .boolean)] s) (hA : ∀ q, s.heap.size ≤ q → A q) {F : Nat} {p0_symbols : Int32} {p0_most : Int32} {p0_inOrder : Int32} {p0_loaded : Int32} {p0_full : Int32} {n_p0_lengths : Nat} {p0_lengths : Nat → Int32} {n_p0_codes : Nat} {n_p0_below : Nat} {h_p0 h_p0_lengths h_p0_codes h_p0_below : Nat} {r : Int32 × Int32 × (Nat → Int32) × (Nat → Int32)} {Wp : va_W → Prop} (hend : ∀ (w1 : va_W) (pc : Nat) (lv : List (Nat × Value)), Wp w1 → decode cX10_forgeOne pc = .ok (.ireturn, 1) → X_ p l e ({ frames := 2, cells := 0, slots := 0, locals := 44 } : Room) s m args below meth c Q D vwCl A 7 0 0 w1 lv pc [.int r.1]) (hWp : Wp (W_X10 cI cZ h_p0 h_p0_lengths h_p0_codes h_p0_below p0_symbols p0_most r.2.1 p0_inOrder p0_loaded p0_full n_p0_lengths p0_lengths n_p0_codes r.2.2.1 n_p0_below r.2.2.2)) {rec31 : Int32 → Int32 → Int32 → Int32 → Int32 → Int32 → Int32 → (Nat → Int32) → (Nat → Int32) → Option (Int32 × Int32 × (Nat → Int32) × (Nat → Int32))} (hrec31 : ∀ (x1 : Int32) (x2 : Int32) (x3 : Int32) (x4 : Int32) (x5 : Int32) (x6 : Int32) (p0_nodes : Int32) (p0_codes : Nat → Int32) (p0_below : Nat → Int32), rec31 x1 x2 x3 x4 x5 x6 p0_nodes p0_codes p0_below = some r → X_ p l e ({ frames := 2, cells := 0, slots := 0, locals := 44 } : Room) s m args below meth c Q D vwCl A 7 0 0 (W_X10 cI cZ h_p0 h_p0_lengths h_p0_codes h_p0_below p0_symbols p0_most p0_nodes p0_inOrder p0_loaded p0_full n_p0_lengths p0_lengths n_p0_codes p0_codes n_p0_below p0_below) [(0, .ref h_p0), (1, .int x1), (2, .int x2), (3, .int x3), (4, .int x4), (5, .int x5), (6, .int x6)] 31 []) : ∀ (x1 : Int32) (x2 : Int32) (x3 : Int32) (x4 : Int32) (x5 : Int32) (x6 : Int32) (p0_nodes : Int32) (p0_codes : Nat → Int32) (p0_below : Nat → Int32), bf_X10_forgeOne_31 F p0_symbols p0_most n_p0_lengths p0_lengths n_p0_codes n_p0_below rec31 x1 x2 x3 x4 x5 x6 p0_nodes p0_codes p0_below = some r → X_ p l e ({ frames := 2, cells := 0, slots := 0, locals := 44 } : Room) s m args below meth c Q D vwCl A 7 0 0 (W_X10 cI cZ h_p0 h_p0_lengths h_p0_codes h_p0_below p0_symbols p0_most p0_nodes p0_inOrder p0_loaded p0_full n_p0_lengths p0_lengths n_p0_codes p0_codes n_p0_below p0_below) [(0, .ref h_p0), (1, .int x1), (2, .int x2), (3, .int x3), (4, .int x4), (5, .int x5), (6, .int x6)] 31 [] := by
  intro x1 x2 x3 x4 x5 x6 p0_nodes p0_codes p0_below h
  unfold bf_X10_forgeOne_31 at h
  refine x_iload S dX10_forgeOne_31 6 rfl ?_
  refine x_if_le S 57 dX10_forgeOne_33 (by decide) h (fun h => ?_) (fun h => ?_)
  · refine x_aload_n S dX10_forgeOne_57 rfl 0 rfl ?_
    refine x_get S hK i_X10_forgeOne_X10 0 rfl rfl 4 (by decide) k_X10_forgeOne_25 rfl rfl dX10_forgeOne_58 ?_
    refine x_iconst (v := 2) S dX10_forgeOne_61 (by decide) ?_
    refine x_iload S dX10_forgeOne_62 5 rfl ?_
    refine x_imul S dX10_forgeOne_64 ?_
    refine x_iload S dX10_forgeOne_65 4 rfl ?_
    refine x_iconst (v := 1) S dX10_forgeOne_67 (by decide) ?_
    refine x_iand S dX10_forgeOne_68 ?_
    refine x_iadd S dX10_forgeOne_69 ?_
    refine x_iconst (v := -1) S dX10_forgeOne_70 (by decide) ?_
    refine x_iload_n S dX10_forgeOne_71 rfl 1 rfl ?_
    refine x_isub S dX10_forgeOne_72 ?_
    refine x_iast S hK 3 0 rfl rfl dX10_forgeOne_73 h rfl (fun h => ?_)
    refine x_iload_n S dX10_forgeOne_74 rfl 2 rfl ?_
    refine x_iload_n S dX10_forgeOne_75 rfl 3 rfl ?_
    obtain ⟨v76, h76, h⟩ := gbind h
    refine x_callSi S hK hA (c_X10_share l D cI cZ F   x3 v76 h76) (va_cwS 1 S.2.2.2.2 gX10_forgeOne_X10_share rfl rfl rfl (by decide +kernel) ⟨(Nat.le_of_ble_eq_true rfl), (Nat.le_of_ble_eq_true rfl)⟩) [] [0, 1, 2, 3] rfl (by decide) rfl (by decide) (by decide) rfl (Nat.le_of_ble_eq_true rfl) rfl dX10_forgeOne_76 ⟨(Nat.le_of_ble_eq_true rfl), (Nat.le_of_ble_eq_true rfl)⟩ (fun w1 hw1 => ?_)
    subst hw1
    refine x_ws (ws' := (W_X10 cI cZ h_p0 h_p0_lengths h_p0_codes h_p0_below p0_symbols p0_most p0_nodes p0_inOrder p0_loaded p0_full n_p0_lengths p0_lengths n_p0_codes p0_codes n_p0_below (upd p0_below ((((2 : Int32) * x5) + (x4 &&& (1 : Int32)))).toNatClampNeg ((-1 : Int32) - x1)))) [0, 1, 2, 3] (by decide) (by rfl) ?_
    refine x_iadd S dX10_forgeOne_79 ?_
    obtain rfl := Option.some.inj h
    exact hend _ _ _ hWp dX10_forgeOne_80
  · refine x_aload_n S dX10_forgeOne_36 rfl 0 rfl ?_
    refine x_iload S dX10_forgeOne_37 5 rfl ?_
    refine x_iload S dX10_forgeOne_39 4 rfl ?_
    refine x_iload S dX10_forgeOne_41 6 rfl ?_
    refine x_ishr S dX10_forgeOne_43 ?_
    refine x_iconst (v := 1) S dX10_forgeOne_44 (by decide) ?_
    refine x_iand S dX10_forgeOne_45 ?_
    obtain ⟨v46, h46, h⟩ := gbind h
    refine x_callVi S hK hA (c_X10_nodeBelow l D cI cZ F h_p0 h_p0_lengths h_p0_codes h_p0_below p0_symbols p0_most p0_nodes p0_inOrder p0_loaded p0_full n_p0_lengths p0_lengths n_p0_codes p0_codes n_p0_below p0_below x5 ((x4 >>> (x6 &&& 31)) &&& (1 : Int32)) v46 h46) (cwV 2 S.2.2.2.2 gX10_forgeOne_X10_nodeBelow rfl rfl rfl (by decide +kernel) ⟨(Nat.le_of_ble_eq_true rfl), (Nat.le_of_ble_eq_true rfl)⟩) [0, 1, 2, 3] [] rfl (by decide) rfl (by decide) (by decide) 0 9 rfl rfl rfl (Nat.le_of_ble_eq_true rfl) rfl dX10_forgeOne_46 ⟨(Nat.le_of_ble_eq_true rfl), (Nat.le_of_ble_eq_true rfl)⟩ (fun w1 hw1 => ?_)
    subst hw1
    refine x_ws (ws' := (W_X10 cI cZ h_p0 h_p0_lengths h_p0_codes h_p0_below p0_symbols p0_most v46.2.1 p0_inOrder p0_loaded p0_full n_p0_lengths p0_lengths n_p0_codes p0_codes n_p0_below v46.2.2)) [0, 1, 2, 3] (by decide) (by rfl) ?_
    refine x_istore (lv' := [(5, .int v46.1), (0, .ref h_p0), (1, .int x1), (2, .int x2), (3, .int x3), (4, .int x4), (6, .int x6)]) S dX10_forgeOne_49 (by decide) rfl ?_
    refine x_iinc (v := x6 + (-1 : Int32)) (lv' := [(6, .int (x6 + (-1 : Int32))), (5, .int v46.1), (0, .ref h_p0), (1, .int x1), (2, .int x2), (3, .int x3), (4, .int x4)]) S dX10_forgeOne_51 6 rfl rfl (by decide) rfl ?_
    refine x_goto S 31 dX10_forgeOne_54 (by decide) ?_
    refine x_lv [2, 3, 4, 5, 6, 1, 0] (by rfl) ?_
    exact hrec31 x1 x2 x3 x4 v46.1 (x6 + (-1 : Int32)) v46.2.1 p0_codes v46.2.2 h
noncomputable def lf_X10_forgeOne_31 (F : Nat) (p0_symbols : Int32) (p0_most : Int32) (n_p0_lengths : Nat) (p0_lengths : Nat → Int32) (n_p0_codes : Nat) (n_p0_below : Nat)  (k : Nat) (x1 : Int32) (x2 : Int32) (x3 : Int32) (x4 : Int32) (x5 : Int32) (x6 : Int32) (p0_nodes : Int32) (p0_codes : Nat → Int32) (p0_below : Nat → Int32) : Option (Int32 × Int32 × (Nat → Int32) × (Nat → Int32)) :=
  lp (fun (rec : Int32 × Int32 × Int32 × Int32 × Int32 × Int32 × Int32 × (Nat → Int32) × (Nat → Int32) → Option (Int32 × Int32 × (Nat → Int32) × (Nat → Int32))) (z : Int32 × Int32 × Int32 × Int32 × Int32 × Int32 × Int32 × (Nat → Int32) × (Nat → Int32)) => bf_X10_forgeOne_31 F p0_symbols p0_most n_p0_lengths p0_lengths n_p0_codes n_p0_below (fun x1 x2 x3 x4 x5 x6 p0_nodes p0_codes p0_below => rec (x1, x2, x3, x4, x5, x6, p0_nodes, p0_codes, p0_below)) z.1 z.2.1 z.2.2.1 z.2.2.2.1 z.2.2.2.2.1 z.2.2.2.2.2.1 z.2.2.2.2.2.2.1 z.2.2.2.2.2.2.2.1 z.2.2.2.2.2.2.2.2) k (x1, x2, x3, x4, x5, x6, p0_nodes, p0_codes, p0_below)
set_option maxRecDepth 100000 in
set_option maxHeartbeats 4000000 in
theorem wl_X10_forgeOne_31 (S : CallFix p m c cX10_forgeOne 7 s args wsX10_forgeOne RX10) (hK : K_ D vwCl [(cI, .int), (cZ, .boolean)] s) (hA : ∀ q, s.heap.size ≤ q → A q) {F : Nat} {p0_symbols : Int32} {p0_most : Int32} {p0_inOrder : Int32} {p0_loaded : Int32} {p0_full : Int32} {n_p0_lengths : Nat} {p0_lengths : Nat → Int32} {n_p0_codes : Nat} {n_p0_below : Nat} {h_p0 h_p0_lengths h_p0_codes h_p0_below : Nat} {r : Int32 × Int32 × (Nat → Int32) × (Nat → Int32)} {Wp : va_W → Prop} (hend : ∀ (w1 : va_W) (pc : Nat) (lv : List (Nat × Value)), Wp w1 → decode cX10_forgeOne pc = .ok (.ireturn, 1) → X_ p l e ({ frames := 2, cells := 0, slots := 0, locals := 44 } : Room) s m args below meth c Q D vwCl A 7 0 0 w1 lv pc [.int r.1]) (hWp : Wp (W_X10 cI cZ h_p0 h_p0_lengths h_p0_codes h_p0_below p0_symbols p0_most r.2.1 p0_inOrder p0_loaded p0_full n_p0_lengths p0_lengths n_p0_codes r.2.2.1 n_p0_below r.2.2.2))   (k : Nat) : ∀ (x1 : Int32) (x2 : Int32) (x3 : Int32) (x4 : Int32) (x5 : Int32) (x6 : Int32) (p0_nodes : Int32) (p0_codes : Nat → Int32) (p0_below : Nat → Int32), lf_X10_forgeOne_31 F p0_symbols p0_most n_p0_lengths p0_lengths n_p0_codes n_p0_below k x1 x2 x3 x4 x5 x6 p0_nodes p0_codes p0_below = some r → X_ p l e ({ frames := 2, cells := 0, slots := 0, locals := 44 } : Room) s m args below meth c Q D vwCl A 7 0 0 (W_X10 cI cZ h_p0 h_p0_lengths h_p0_codes h_p0_below p0_symbols p0_most p0_nodes p0_inOrder p0_loaded p0_full n_p0_lengths p0_lengths n_p0_codes p0_codes n_p0_below p0_below) [(0, .ref h_p0), (1, .int x1), (2, .int x2), (3, .int x3), (4, .int x4), (5, .int x5), (6, .int x6)] 31 [] := by
  intro x1 x2 x3 x4 x5 x6 p0_nodes p0_codes p0_below h
  exact lp_W (P := fun z => X_ p l e ({ frames := 2, cells := 0, slots := 0, locals := 44 } : Room) s m args below meth c Q D vwCl A 7 0 0 (W_X10 cI cZ h_p0 h_p0_lengths h_p0_codes h_p0_below p0_symbols p0_most z.2.2.2.2.2.2.1 p0_inOrder p0_loaded p0_full n_p0_lengths p0_lengths n_p0_codes z.2.2.2.2.2.2.2.1 n_p0_below z.2.2.2.2.2.2.2.2) [(0, .ref h_p0), (1, .int z.1), (2, .int z.2.1), (3, .int z.2.2.1), (4, .int z.2.2.2.1), (5, .int z.2.2.2.2.1), (6, .int z.2.2.2.2.2.1)] 31 []) (fun rec ih z hz => w_X10_forgeOne_31 S hK hA hend hWp (fun x1 x2 x3 x4 x5 x6 p0_nodes p0_codes p0_below hh => ih (x1, x2, x3, x4, x5, x6, p0_nodes, p0_codes, p0_below) hh)  z.1 z.2.1 z.2.2.1 z.2.2.2.1 z.2.2.2.2.1 z.2.2.2.2.2.1 z.2.2.2.2.2.2.1 z.2.2.2.2.2.2.2.1 z.2.2.2.2.2.2.2.2 hz) k (x1, x2, x3, x4, x5, x6, p0_nodes, p0_codes, p0_below) h 
noncomputable def bf_X10_forgeOne_0 (F : Nat) (p0_symbols : Int32) (p0_most : Int32) (n_p0_lengths : Nat) (p0_lengths : Nat → Int32) (n_p0_codes : Nat) (n_p0_below : Nat)  (x1 : Int32) (x2 : Int32) (p0_nodes : Int32) (p0_codes : Nat → Int32) (p0_below : Nat → Int32) : Option (Int32 × Int32 × (Nat → Int32) × (Nat → Int32)) :=
  (if x1 < 0 ∨ n_p0_lengths ≤ (x1).toNatClampNeg then none else (if x1 < 0 ∨ n_p0_codes ≤ (x1).toNatClampNeg then none else lf_X10_forgeOne_31 F p0_symbols p0_most n_p0_lengths p0_lengths n_p0_codes n_p0_below F x1 x2 (p0_lengths (x1).toNatClampNeg) (x2 >>> (((24 : Int32) - (p0_lengths (x1).toNatClampNeg)) &&& 31)) (0 : Int32) ((p0_lengths (x1).toNatClampNeg) - (1 : Int32)) p0_nodes (upd p0_codes (x1).toNatClampNeg (x2 >>> (((24 : Int32) - (p0_lengths (x1).toNatClampNeg)) &&& 31))) p0_below))
set_option maxRecDepth 100000 in
set_option maxHeartbeats 4000000 in
theorem w_X10_forgeOne_0 (S : CallFix p m c cX10_forgeOne 7 s args wsX10_forgeOne RX10) (hK : K_ D vwCl [(cI, .int), (cZ, .boolean)] s) (hA : ∀ q, s.heap.size ≤ q → A q) {F : Nat} {p0_symbols : Int32} {p0_most : Int32} {p0_inOrder : Int32} {p0_loaded : Int32} {p0_full : Int32} {n_p0_lengths : Nat} {p0_lengths : Nat → Int32} {n_p0_codes : Nat} {n_p0_below : Nat} {h_p0 h_p0_lengths h_p0_codes h_p0_below : Nat} {r : Int32 × Int32 × (Nat → Int32) × (Nat → Int32)} {Wp : va_W → Prop} (hend : ∀ (w1 : va_W) (pc : Nat) (lv : List (Nat × Value)), Wp w1 → decode cX10_forgeOne pc = .ok (.ireturn, 1) → X_ p l e ({ frames := 2, cells := 0, slots := 0, locals := 44 } : Room) s m args below meth c Q D vwCl A 7 0 0 w1 lv pc [.int r.1]) (hWp : Wp (W_X10 cI cZ h_p0 h_p0_lengths h_p0_codes h_p0_below p0_symbols p0_most r.2.1 p0_inOrder p0_loaded p0_full n_p0_lengths p0_lengths n_p0_codes r.2.2.1 n_p0_below r.2.2.2))   : ∀ (x1 : Int32) (x2 : Int32) (p0_nodes : Int32) (p0_codes : Nat → Int32) (p0_below : Nat → Int32), bf_X10_forgeOne_0 F p0_symbols p0_most n_p0_lengths p0_lengths n_p0_codes n_p0_below x1 x2 p0_nodes p0_codes p0_below = some r → X_ p l e ({ frames := 2, cells := 0, slots := 0, locals := 44 } : Room) s m args below meth c Q D vwCl A 7 0 0 (W_X10 cI cZ h_p0 h_p0_lengths h_p0_codes h_p0_below p0_symbols p0_most p0_nodes p0_inOrder p0_loaded p0_full n_p0_lengths p0_lengths n_p0_codes p0_codes n_p0_below p0_below) [(0, .ref h_p0), (1, .int x1), (2, .int x2)] 0 [] := by
  intro x1 x2 p0_nodes p0_codes p0_below h
  unfold bf_X10_forgeOne_0 at h
  refine x_aload_n S dX10_forgeOne_0 rfl 0 rfl ?_
  refine x_get S hK i_X10_forgeOne_X10 0 rfl rfl 2 (by decide) k_X10_forgeOne_18 rfl rfl dX10_forgeOne_1 ?_
  refine x_iload_n S dX10_forgeOne_4 rfl 1 rfl ?_
  refine x_iald S hK 1 0 rfl rfl dX10_forgeOne_5 h (fun h => ?_)
  refine x_istore_n (lv' := [(3, .int (p0_lengths (x1).toNatClampNeg)), (0, .ref h_p0), (1, .int x1), (2, .int x2)]) S dX10_forgeOne_6 rfl (by decide) rfl ?_
  refine x_iload_n S dX10_forgeOne_7 rfl 3 rfl ?_
  refine x_bipush (v := 24) S dX10_forgeOne_8 (by decide) ?_
  refine x_iload_n S dX10_forgeOne_10 rfl 0 rfl ?_
  refine x_isub S dX10_forgeOne_11 ?_
  refine x_ishr S dX10_forgeOne_12 ?_
  refine x_istore (lv' := [(4, .int (x2 >>> (((24 : Int32) - (p0_lengths (x1).toNatClampNeg)) &&& 31))), (3, .int (p0_lengths (x1).toNatClampNeg)), (0, .ref h_p0), (1, .int x1), (2, .int x2)]) S dX10_forgeOne_13 (by decide) rfl ?_
  refine x_aload_n S dX10_forgeOne_15 rfl 2 rfl ?_
  refine x_get S hK i_X10_forgeOne_X10 0 rfl rfl 3 (by decide) k_X10_forgeOne_22 rfl rfl dX10_forgeOne_16 ?_
  refine x_iload_n S dX10_forgeOne_19 rfl 3 rfl ?_
  refine x_iload S dX10_forgeOne_20 0 rfl ?_
  refine x_iast S hK 2 0 rfl rfl dX10_forgeOne_22 h rfl (fun h => ?_)
  refine x_iconst (v := 0) S dX10_forgeOne_23 (by decide) ?_
  refine x_istore (lv' := [(5, .int (0 : Int32)), (4, .int (x2 >>> (((24 : Int32) - (p0_lengths (x1).toNatClampNeg)) &&& 31))), (3, .int (p0_lengths (x1).toNatClampNeg)), (0, .ref h_p0), (1, .int x1), (2, .int x2)]) S dX10_forgeOne_24 (by decide) rfl ?_
  refine x_iload_n S dX10_forgeOne_26 rfl 2 rfl ?_
  refine x_iconst (v := 1) S dX10_forgeOne_27 (by decide) ?_
  refine x_isub S dX10_forgeOne_28 ?_
  refine x_istore (lv' := [(6, .int ((p0_lengths (x1).toNatClampNeg) - (1 : Int32))), (5, .int (0 : Int32)), (4, .int (x2 >>> (((24 : Int32) - (p0_lengths (x1).toNatClampNeg)) &&& 31))), (3, .int (p0_lengths (x1).toNatClampNeg)), (0, .ref h_p0), (1, .int x1), (2, .int x2)]) S dX10_forgeOne_29 (by decide) rfl ?_
  refine x_lv [4, 5, 6, 3, 2, 1, 0] (by rfl) ?_
  exact wl_X10_forgeOne_31 S hK hA hend hWp  F x1 x2 (p0_lengths (x1).toNatClampNeg) (x2 >>> (((24 : Int32) - (p0_lengths (x1).toNatClampNeg)) &&& 31)) (0 : Int32) ((p0_lengths (x1).toNatClampNeg) - (1 : Int32)) p0_nodes (upd p0_codes (x1).toNatClampNeg (x2 >>> (((24 : Int32) - (p0_lengths (x1).toNatClampNeg)) &&& 31))) p0_below h
noncomputable def fn_X10_forgeOne (F : Nat) (p0_symbols : Int32) (p0_most : Int32) (n_p0_lengths : Nat) (p0_lengths : Nat → Int32) (n_p0_codes : Nat) (n_p0_below : Nat) (p0_nodes : Int32) (p0_codes : Nat → Int32) (p0_below : Nat → Int32) (x1 : Int32) (x2 : Int32) : Option (Int32 × Int32 × (Nat → Int32) × (Nat → Int32)) :=
  bf_X10_forgeOne_0 F p0_symbols p0_most n_p0_lengths p0_lengths n_p0_codes n_p0_below x1 x2 p0_nodes p0_codes p0_below
set_option maxRecDepth 100000 in
set_option maxHeartbeats 4000000 in
theorem c_X10_forgeOne (l : Launch) (D : va_G) (cI cZ : ClassId) (F : Nat) (h_p0 h_p0_lengths h_p0_codes h_p0_below : Nat) (p0_symbols : Int32) (p0_most : Int32) (p0_nodes : Int32) (p0_inOrder : Int32) (p0_loaded : Int32) (p0_full : Int32) (n_p0_lengths : Nat) (p0_lengths : Nat → Int32) (n_p0_codes : Nat) (p0_codes : Nat → Int32) (n_p0_below : Nat) (p0_below : Nat → Int32) (x1 : Int32) (x2 : Int32) (r : Int32 × Int32 × (Nat → Int32) × (Nat → Int32)) (h : fn_X10_forgeOne F p0_symbols p0_most n_p0_lengths p0_lengths n_p0_codes n_p0_below p0_nodes p0_codes p0_below x1 x2 = some r) : Ci l yX10_forgeOne wsX10_forgeOne ({ frames := 2, cells := 0, slots := 0, locals := 44 } : Room) D vwCl [(cI, .int), (cZ, .boolean)] [.ref h_p0, .int x1, .int x2] (W_X10 cI cZ h_p0 h_p0_lengths h_p0_codes h_p0_below p0_symbols p0_most p0_nodes p0_inOrder p0_loaded p0_full n_p0_lengths p0_lengths n_p0_codes p0_codes n_p0_below p0_below) r.1 (fun w => w = (W_X10 cI cZ h_p0 h_p0_lengths h_p0_codes h_p0_below p0_symbols p0_most r.2.1 p0_inOrder p0_loaded p0_full n_p0_lengths p0_lengths n_p0_codes r.2.2.1 n_p0_below r.2.2.2)) 0 0 :=
  Ci.ofi (by decide) rfl (Nat.le_of_ble_eq_true rfl) (fun p e s m args below meth c Q A S hK hA hname hend => w_X10_forgeOne_0 S hK hA hend rfl x1 x2 p0_nodes p0_codes p0_below h)
end

/-! ===== PrefixSmith$Table.forgeInOrder()V ===== -/
theorem i_X10_forgeInOrder_X10 : ∀ w ∈ u_ws RX10 TX10 9, w ∈ wsX10_forgeInOrder := by decide +kernel
theorem k_X10_forgeInOrder_9 : Cond.fieldLink RX10 9 "PrefixSmith$Table" "symbols" "I" ∈ wsX10_forgeInOrder := by decide +kernel
theorem k_X10_forgeInOrder_18 : Cond.fieldLink RX10 18 "PrefixSmith$Table" "lengths" "[I" ∈ wsX10_forgeInOrder := by decide +kernel
section
variable {p : Program} {l : Launch} {e : Env} {s : State} {m : MethodId} {args : Array Value} {below : List Frame} {meth : Method} {c : Code} {Q : State → Prop} {D : va_G} {A : Nat → Prop} {cI cZ : ClassId}
noncomputable def bf_X10_forgeInOrder_4 (F : Nat) (p0_symbols : Int32) (p0_most : Int32) (n_p0_lengths : Nat) (p0_lengths : Nat → Int32) (n_p0_codes : Nat) (n_p0_below : Nat) (rec4 : Int32 → Int32 → Int32 → (Nat → Int32) → (Nat → Int32) → Option (Int32 × (Nat → Int32) × (Nat → Int32))) (x1 : Int32) (x2 : Int32) (p0_nodes : Int32) (p0_codes : Nat → Int32) (p0_below : Nat → Int32) : Option (Int32 × (Nat → Int32) × (Nat → Int32)) :=
  (if p0_symbols ≤ x2 then some (p0_nodes, p0_codes, p0_below) else (if x2 < 0 ∨ n_p0_lengths ≤ (x2).toNatClampNeg then none else (if (p0_lengths (x2).toNatClampNeg) ≤ 0 then rec4 x1 (x2 + (1 : Int32)) p0_nodes p0_codes p0_below else ((fn_X10_forgeOne F p0_symbols p0_most n_p0_lengths p0_lengths n_p0_codes n_p0_below p0_nodes p0_codes p0_below x2 x1).bind fun v24 => rec4 v24.1 (x2 + (1 : Int32)) v24.2.1 v24.2.2.1 v24.2.2.2))))
set_option maxRecDepth 100000 in
set_option maxHeartbeats 4000000 in
theorem w_X10_forgeInOrder_4 (S : CallFix p m c cX10_forgeInOrder 3 s args wsX10_forgeInOrder RX10) (hK : K_ D vwCl [(cI, .int), (cZ, .boolean)] s) (hA : ∀ q, s.heap.size ≤ q → A q) {F : Nat} {p0_symbols : Int32} {p0_most : Int32} {p0_inOrder : Int32} {p0_loaded : Int32} {p0_full : Int32} {n_p0_lengths : Nat} {p0_lengths : Nat → Int32} {n_p0_codes : Nat} {n_p0_below : Nat} {h_p0 h_p0_lengths h_p0_codes h_p0_below : Nat} {r : Int32 × (Nat → Int32) × (Nat → Int32)} {Wp : va_W → Prop} (hend : ∀ (w1 : va_W) (pc : Nat) (lv : List (Nat × Value)), Wp w1 → decode cX10_forgeInOrder pc = .ok (.return_, 1) → X_ p l e ({ frames := 3, cells := 0, slots := 0, locals := 70 } : Room) s m args below meth c Q D vwCl A 3 0 0 w1 lv pc []) (hWp : Wp (W_X10 cI cZ h_p0 h_p0_lengths h_p0_codes h_p0_below p0_symbols p0_most r.1 p0_inOrder p0_loaded p0_full n_p0_lengths p0_lengths n_p0_codes r.2.1 n_p0_below r.2.2)) {rec4 : Int32 → Int32 → Int32 → (Nat → Int32) → (Nat → Int32) → Option (Int32 × (Nat → Int32) × (Nat → Int32))} (hrec4 : ∀ (x1 : Int32) (x2 : Int32) (p0_nodes : Int32) (p0_codes : Nat → Int32) (p0_below : Nat → Int32), rec4 x1 x2 p0_nodes p0_codes p0_below = some r → X_ p l e ({ frames := 3, cells := 0, slots := 0, locals := 70 } : Room) s m args below meth c Q D vwCl A 3 0 0 (W_X10 cI cZ h_p0 h_p0_lengths h_p0_codes h_p0_below p0_symbols p0_most p0_nodes p0_inOrder p0_loaded p0_full n_p0_lengths p0_lengths n_p0_codes p0_codes n_p0_below p0_below) [(0, .ref h_p0), (1, .int x1), (2, .int x2)] 4 []) : ∀ (x1 : Int32) (x2 : Int32) (p0_nodes : Int32) (p0_codes : Nat → Int32) (p0_below : Nat → Int32), bf_X10_forgeInOrder_4 F p0_symbols p0_most n_p0_lengths p0_lengths n_p0_codes n_p0_below rec4 x1 x2 p0_nodes p0_codes p0_below = some r → X_ p l e ({ frames := 3, cells := 0, slots := 0, locals := 70 } : Room) s m args below meth c Q D vwCl A 3 0 0 (W_X10 cI cZ h_p0 h_p0_lengths h_p0_codes h_p0_below p0_symbols p0_most p0_nodes p0_inOrder p0_loaded p0_full n_p0_lengths p0_lengths n_p0_codes p0_codes n_p0_below p0_below) [(0, .ref h_p0), (1, .int x1), (2, .int x2)] 4 [] := by
  intro x1 x2 p0_nodes p0_codes p0_below h
  unfold bf_X10_forgeInOrder_4 at h
  refine x_iload_n S dX10_forgeInOrder_4 rfl 2 rfl ?_
  refine x_aload_n S dX10_forgeInOrder_5 rfl 0 rfl ?_
  refine x_get S hK i_X10_forgeInOrder_X10 0 rfl rfl 0 (by decide) k_X10_forgeInOrder_9 rfl rfl dX10_forgeInOrder_6 ?_
  refine x_icmp_ge S 34 dX10_forgeInOrder_9 (by decide) h (fun h => ?_) (fun h => ?_)
  · obtain rfl := Option.some.inj h
    exact hend _ _ _ hWp dX10_forgeInOrder_34
  · refine x_aload_n S dX10_forgeInOrder_12 rfl 0 rfl ?_
    refine x_get S hK i_X10_forgeInOrder_X10 0 rfl rfl 2 (by decide) k_X10_forgeInOrder_18 rfl rfl dX10_forgeInOrder_13 ?_
    refine x_iload_n S dX10_forgeInOrder_16 rfl 2 rfl ?_
    refine x_iald S hK 1 0 rfl rfl dX10_forgeInOrder_17 h (fun h => ?_)
    refine x_if_le S 28 dX10_forgeInOrder_18 (by decide) h (fun h => ?_) (fun h => ?_)
    · refine x_iinc (v := x2 + (1 : Int32)) (lv' := [(2, .int (x2 + (1 : Int32))), (0, .ref h_p0), (1, .int x1)]) S dX10_forgeInOrder_28 2 rfl rfl (by decide) rfl ?_
      refine x_goto S 4 dX10_forgeInOrder_31 (by decide) ?_
      refine x_lv [1, 2, 0] (by rfl) ?_
      exact hrec4 x1 (x2 + (1 : Int32)) p0_nodes p0_codes p0_below h
    · refine x_aload_n S dX10_forgeInOrder_21 rfl 0 rfl ?_
      refine x_iload_n S dX10_forgeInOrder_22 rfl 2 rfl ?_
      refine x_iload_n S dX10_forgeInOrder_23 rfl 1 rfl ?_
      obtain ⟨v24, h24, h⟩ := gbind h
      refine x_callVi S hK hA (c_X10_forgeOne l D cI cZ F h_p0 h_p0_lengths h_p0_codes h_p0_below p0_symbols p0_most p0_nodes p0_inOrder p0_loaded p0_full n_p0_lengths p0_lengths n_p0_codes p0_codes n_p0_below p0_below x2 x1 v24 h24) (cwV 2 S.2.2.2.2 gX10_forgeInOrder_X10_forgeOne rfl rfl rfl (by decide +kernel) ⟨(Nat.le_of_ble_eq_true rfl), (Nat.le_of_ble_eq_true rfl)⟩) [0, 1, 2, 3] [] rfl (by decide) rfl (by decide) (by decide) 0 9 rfl rfl rfl (Nat.le_of_ble_eq_true rfl) rfl dX10_forgeInOrder_24 ⟨(Nat.le_of_ble_eq_true rfl), (Nat.le_of_ble_eq_true rfl)⟩ (fun w1 hw1 => ?_)
      subst hw1
      refine x_ws (ws' := (W_X10 cI cZ h_p0 h_p0_lengths h_p0_codes h_p0_below p0_symbols p0_most v24.2.1 p0_inOrder p0_loaded p0_full n_p0_lengths p0_lengths n_p0_codes v24.2.2.1 n_p0_below v24.2.2.2)) [0, 1, 2, 3] (by decide) (by rfl) ?_
      refine x_istore_n (lv' := [(1, .int v24.1), (0, .ref h_p0), (2, .int x2)]) S dX10_forgeInOrder_27 rfl (by decide) rfl ?_
      refine x_iinc (v := x2 + (1 : Int32)) (lv' := [(2, .int (x2 + (1 : Int32))), (1, .int v24.1), (0, .ref h_p0)]) S dX10_forgeInOrder_28 2 rfl rfl (by decide) rfl ?_
      refine x_goto S 4 dX10_forgeInOrder_31 (by decide) ?_
      refine x_lv [2, 1, 0] (by rfl) ?_
      exact hrec4 v24.1 (x2 + (1 : Int32)) v24.2.1 v24.2.2.1 v24.2.2.2 h
noncomputable def lf_X10_forgeInOrder_4 (F : Nat) (p0_symbols : Int32) (p0_most : Int32) (n_p0_lengths : Nat) (p0_lengths : Nat → Int32) (n_p0_codes : Nat) (n_p0_below : Nat)  (k : Nat) (x1 : Int32) (x2 : Int32) (p0_nodes : Int32) (p0_codes : Nat → Int32) (p0_below : Nat → Int32) : Option (Int32 × (Nat → Int32) × (Nat → Int32)) :=
  lp (fun (rec : Int32 × Int32 × Int32 × (Nat → Int32) × (Nat → Int32) → Option (Int32 × (Nat → Int32) × (Nat → Int32))) (z : Int32 × Int32 × Int32 × (Nat → Int32) × (Nat → Int32)) => bf_X10_forgeInOrder_4 F p0_symbols p0_most n_p0_lengths p0_lengths n_p0_codes n_p0_below (fun x1 x2 p0_nodes p0_codes p0_below => rec (x1, x2, p0_nodes, p0_codes, p0_below)) z.1 z.2.1 z.2.2.1 z.2.2.2.1 z.2.2.2.2) k (x1, x2, p0_nodes, p0_codes, p0_below)
set_option maxRecDepth 100000 in
set_option maxHeartbeats 4000000 in
theorem wl_X10_forgeInOrder_4 (S : CallFix p m c cX10_forgeInOrder 3 s args wsX10_forgeInOrder RX10) (hK : K_ D vwCl [(cI, .int), (cZ, .boolean)] s) (hA : ∀ q, s.heap.size ≤ q → A q) {F : Nat} {p0_symbols : Int32} {p0_most : Int32} {p0_inOrder : Int32} {p0_loaded : Int32} {p0_full : Int32} {n_p0_lengths : Nat} {p0_lengths : Nat → Int32} {n_p0_codes : Nat} {n_p0_below : Nat} {h_p0 h_p0_lengths h_p0_codes h_p0_below : Nat} {r : Int32 × (Nat → Int32) × (Nat → Int32)} {Wp : va_W → Prop} (hend : ∀ (w1 : va_W) (pc : Nat) (lv : List (Nat × Value)), Wp w1 → decode cX10_forgeInOrder pc = .ok (.return_, 1) → X_ p l e ({ frames := 3, cells := 0, slots := 0, locals := 70 } : Room) s m args below meth c Q D vwCl A 3 0 0 w1 lv pc []) (hWp : Wp (W_X10 cI cZ h_p0 h_p0_lengths h_p0_codes h_p0_below p0_symbols p0_most r.1 p0_inOrder p0_loaded p0_full n_p0_lengths p0_lengths n_p0_codes r.2.1 n_p0_below r.2.2))   (k : Nat) : ∀ (x1 : Int32) (x2 : Int32) (p0_nodes : Int32) (p0_codes : Nat → Int32) (p0_below : Nat → Int32), lf_X10_forgeInOrder_4 F p0_symbols p0_most n_p0_lengths p0_lengths n_p0_codes n_p0_below k x1 x2 p0_nodes p0_codes p0_below = some r → X_ p l e ({ frames := 3, cells := 0, slots := 0, locals := 70 } : Room) s m args below meth c Q D vwCl A 3 0 0 (W_X10 cI cZ h_p0 h_p0_lengths h_p0_codes h_p0_below p0_symbols p0_most p0_nodes p0_inOrder p0_loaded p0_full n_p0_lengths p0_lengths n_p0_codes p0_codes n_p0_below p0_below) [(0, .ref h_p0), (1, .int x1), (2, .int x2)] 4 [] := by
  intro x1 x2 p0_nodes p0_codes p0_below h
  exact lp_W (P := fun z => X_ p l e ({ frames := 3, cells := 0, slots := 0, locals := 70 } : Room) s m args below meth c Q D vwCl A 3 0 0 (W_X10 cI cZ h_p0 h_p0_lengths h_p0_codes h_p0_below p0_symbols p0_most z.2.2.1 p0_inOrder p0_loaded p0_full n_p0_lengths p0_lengths n_p0_codes z.2.2.2.1 n_p0_below z.2.2.2.2) [(0, .ref h_p0), (1, .int z.1), (2, .int z.2.1)] 4 []) (fun rec ih z hz => w_X10_forgeInOrder_4 S hK hA hend hWp (fun x1 x2 p0_nodes p0_codes p0_below hh => ih (x1, x2, p0_nodes, p0_codes, p0_below) hh)  z.1 z.2.1 z.2.2.1 z.2.2.2.1 z.2.2.2.2 hz) k (x1, x2, p0_nodes, p0_codes, p0_below) h 
noncomputable def bf_X10_forgeInOrder_0 (F : Nat) (p0_symbols : Int32) (p0_most : Int32) (n_p0_lengths : Nat) (p0_lengths : Nat → Int32) (n_p0_codes : Nat) (n_p0_below : Nat)  (p0_nodes : Int32) (p0_codes : Nat → Int32) (p0_below : Nat → Int32) : Option (Int32 × (Nat → Int32) × (Nat → Int32)) :=
  lf_X10_forgeInOrder_4 F p0_symbols p0_most n_p0_lengths p0_lengths n_p0_codes n_p0_below F (0 : Int32) (0 : Int32) p0_nodes p0_codes p0_below
set_option maxRecDepth 100000 in
set_option maxHeartbeats 4000000 in
theorem w_X10_forgeInOrder_0 (S : CallFix p m c cX10_forgeInOrder 3 s args wsX10_forgeInOrder RX10) (hK : K_ D vwCl [(cI, .int), (cZ, .boolean)] s) (hA : ∀ q, s.heap.size ≤ q → A q) {F : Nat} {p0_symbols : Int32} {p0_most : Int32} {p0_inOrder : Int32} {p0_loaded : Int32} {p0_full : Int32} {n_p0_lengths : Nat} {p0_lengths : Nat → Int32} {n_p0_codes : Nat} {n_p0_below : Nat} {h_p0 h_p0_lengths h_p0_codes h_p0_below : Nat} {r : Int32 × (Nat → Int32) × (Nat → Int32)} {Wp : va_W → Prop} (hend : ∀ (w1 : va_W) (pc : Nat) (lv : List (Nat × Value)), Wp w1 → decode cX10_forgeInOrder pc = .ok (.return_, 1) → X_ p l e ({ frames := 3, cells := 0, slots := 0, locals := 70 } : Room) s m args below meth c Q D vwCl A 3 0 0 w1 lv pc []) (hWp : Wp (W_X10 cI cZ h_p0 h_p0_lengths h_p0_codes h_p0_below p0_symbols p0_most r.1 p0_inOrder p0_loaded p0_full n_p0_lengths p0_lengths n_p0_codes r.2.1 n_p0_below r.2.2))   : ∀ (p0_nodes : Int32) (p0_codes : Nat → Int32) (p0_below : Nat → Int32), bf_X10_forgeInOrder_0 F p0_symbols p0_most n_p0_lengths p0_lengths n_p0_codes n_p0_below p0_nodes p0_codes p0_below = some r → X_ p l e ({ frames := 3, cells := 0, slots := 0, locals := 70 } : Room) s m args below meth c Q D vwCl A 3 0 0 (W_X10 cI cZ h_p0 h_p0_lengths h_p0_codes h_p0_below p0_symbols p0_most p0_nodes p0_inOrder p0_loaded p0_full n_p0_lengths p0_lengths n_p0_codes p0_codes n_p0_below p0_below) [(0, .ref h_p0)] 0 [] := by
  intro p0_nodes p0_codes p0_below h
  unfold bf_X10_forgeInOrder_0 at h
  refine x_iconst (v := 0) S dX10_forgeInOrder_0 (by decide) ?_
  refine x_istore_n (lv' := [(1, .int (0 : Int32)), (0, .ref h_p0)]) S dX10_forgeInOrder_1 rfl (by decide) rfl ?_
  refine x_iconst (v := 0) S dX10_forgeInOrder_2 (by decide) ?_
  refine x_istore_n (lv' := [(2, .int (0 : Int32)), (1, .int (0 : Int32)), (0, .ref h_p0)]) S dX10_forgeInOrder_3 rfl (by decide) rfl ?_
  refine x_lv [2, 1, 0] (by rfl) ?_
  exact wl_X10_forgeInOrder_4 S hK hA hend hWp  F (0 : Int32) (0 : Int32) p0_nodes p0_codes p0_below h
noncomputable def fn_X10_forgeInOrder (F : Nat) (p0_symbols : Int32) (p0_most : Int32) (n_p0_lengths : Nat) (p0_lengths : Nat → Int32) (n_p0_codes : Nat) (n_p0_below : Nat) (p0_nodes : Int32) (p0_codes : Nat → Int32) (p0_below : Nat → Int32)  : Option (Int32 × (Nat → Int32) × (Nat → Int32)) :=
  bf_X10_forgeInOrder_0 F p0_symbols p0_most n_p0_lengths p0_lengths n_p0_codes n_p0_below p0_nodes p0_codes p0_below
set_option maxRecDepth 100000 in
set_option maxHeartbeats 4000000 in
theorem c_X10_forgeInOrder (l : Launch) (D : va_G) (cI cZ : ClassId) (F : Nat) (h_p0 h_p0_lengths h_p0_codes h_p0_below : Nat) (p0_symbols : Int32) (p0_most : Int32) (p0_nodes : Int32) (p0_inOrder : Int32) (p0_loaded : Int32) (p0_full : Int32) (n_p0_lengths : Nat) (p0_lengths : Nat → Int32) (n_p0_codes : Nat) (p0_codes : Nat → Int32) (n_p0_below : Nat) (p0_below : Nat → Int32)  (r : Int32 × (Nat → Int32) × (Nat → Int32)) (h : fn_X10_forgeInOrder F p0_symbols p0_most n_p0_lengths p0_lengths n_p0_codes n_p0_below p0_nodes p0_codes p0_below = some r) : Cv l yX10_forgeInOrder wsX10_forgeInOrder ({ frames := 3, cells := 0, slots := 0, locals := 70 } : Room) D vwCl [(cI, .int), (cZ, .boolean)] [.ref h_p0] (W_X10 cI cZ h_p0 h_p0_lengths h_p0_codes h_p0_below p0_symbols p0_most p0_nodes p0_inOrder p0_loaded p0_full n_p0_lengths p0_lengths n_p0_codes p0_codes n_p0_below p0_below) (fun w => w = (W_X10 cI cZ h_p0 h_p0_lengths h_p0_codes h_p0_below p0_symbols p0_most r.1 p0_inOrder p0_loaded p0_full n_p0_lengths p0_lengths n_p0_codes r.2.1 n_p0_below r.2.2)) 0 0 :=
  Cv.ofv (by decide) rfl (Nat.le_of_ble_eq_true rfl) (fun p e s m args below meth c Q A S hK hA hname hend => w_X10_forgeInOrder_0 S hK hA hend rfl p0_nodes p0_codes p0_below h)
end

/-! ===== PrefixSmith$Table.forgeCanonical()V ===== -/
theorem i_X10_forgeCanonical_X10 : ∀ w ∈ u_ws RX10 TX10 9, w ∈ wsX10_forgeCanonical := by decide +kernel
theorem k_X10_forgeCanonical_15 : Cond.fieldLink RX10 15 "PrefixSmith$Table" "most" "I" ∈ wsX10_forgeCanonical := by decide +kernel
theorem k_X10_forgeCanonical_9 : Cond.fieldLink RX10 9 "PrefixSmith$Table" "symbols" "I" ∈ wsX10_forgeCanonical := by decide +kernel
theorem k_X10_forgeCanonical_18 : Cond.fieldLink RX10 18 "PrefixSmith$Table" "lengths" "[I" ∈ wsX10_forgeCanonical := by decide +kernel
section
variable {p : Program} {l : Launch} {e : Env} {s : State} {m : MethodId} {args : Array Value} {below : List Frame} {meth : Method} {c : Code} {Q : State → Prop} {D : va_G} {A : Nat → Prop} {cI cZ : ClassId}
noncomputable def bf_X10_forgeCanonical_14 (F : Nat) (p0_symbols : Int32) (p0_most : Int32) (n_p0_lengths : Nat) (p0_lengths : Nat → Int32) (n_p0_codes : Nat) (n_p0_below : Nat) (rec4 : Int32 → Int32 → Int32 → (Nat → Int32) → (Nat → Int32) → Option (Int32 × (Nat → Int32) × (Nat → Int32))) (rec14 : Int32 → Int32 → Int32 → Int32 → (Nat → Int32) → (Nat → Int32) → Option (Int32 × (Nat → Int32) × (Nat → Int32))) (x1 : Int32) (x2 : Int32) (x3 : Int32) (p0_nodes : Int32) (p0_codes : Nat → Int32) (p0_below : Nat → Int32) : Option (Int32 × (Nat → Int32) × (Nat → Int32)) :=
  (if p0_symbols ≤ x3 then rec4 x1 (x2 + (1 : Int32)) p0_nodes p0_codes p0_below else (if x3 < 0 ∨ n_p0_lengths ≤ (x3).toNatClampNeg then none else (if (p0_lengths (x3).toNatClampNeg) = x2 then ((fn_X10_forgeOne F p0_symbols p0_most n_p0_lengths p0_lengths n_p0_codes n_p0_below p0_nodes p0_codes p0_below x3 x1).bind fun v35 => rec14 v35.1 x2 (x3 + (1 : Int32)) v35.2.1 v35.2.2.1 v35.2.2.2) else rec14 x1 x2 (x3 + (1 : Int32)) p0_nodes p0_codes p0_below)))
set_option maxRecDepth 100000 in
set_option maxHeartbeats 4000000 in
theorem w_X10_forgeCanonical_14 (S : CallFix p m c cX10_forgeCanonical 4 s args wsX10_forgeCanonical RX10) (hK : K_ D vwCl [(cI, .int), (cZ, .boolean)] s) (hA : ∀ q, s.heap.size ≤ q → A q) {F : Nat} {p0_symbols : Int32} {p0_most : Int32} {p0_inOrder : Int32} {p0_loaded : Int32} {p0_full : Int32} {n_p0_lengths : Nat} {p0_lengths : Nat → Int32} {n_p0_codes : Nat} {n_p0_below : Nat} {h_p0 h_p0_lengths h_p0_codes h_p0_below : Nat} {r : Int32 × (Nat → Int32) × (Nat → Int32)} {Wp : va_W → Prop} (hend : ∀ (w1 : va_W) (pc : Nat) (lv : List (Nat × Value)), Wp w1 → decode cX10_forgeCanonical pc = .ok (.return_, 1) → X_ p l e ({ frames := 3, cells := 0, slots := 0, locals := 70 } : Room) s m args below meth c Q D vwCl A 4 0 0 w1 lv pc []) (hWp : Wp (W_X10 cI cZ h_p0 h_p0_lengths h_p0_codes h_p0_below p0_symbols p0_most r.1 p0_inOrder p0_loaded p0_full n_p0_lengths p0_lengths n_p0_codes r.2.1 n_p0_below r.2.2)) {rec4 : Int32 → Int32 → Int32 → (Nat → Int32) → (Nat → Int32) → Option (Int32 × (Nat → Int32) × (Nat → Int32))} {rec14 : Int32 → Int32 → Int32 → Int32 → (Nat → Int32) → (Nat → Int32) → Option (Int32 × (Nat → Int32) × (Nat → Int32))} (hrec4 : ∀ (x1 : Int32) (x2 : Int32) (p0_nodes : Int32) (p0_codes : Nat → Int32) (p0_below : Nat → Int32), rec4 x1 x2 p0_nodes p0_codes p0_below = some r → X_ p l e ({ frames := 3, cells := 0, slots := 0, locals := 70 } : Room) s m args below meth c Q D vwCl A 4 0 0 (W_X10 cI cZ h_p0 h_p0_lengths h_p0_codes h_p0_below p0_symbols p0_most p0_nodes p0_inOrder p0_loaded p0_full n_p0_lengths p0_lengths n_p0_codes p0_codes n_p0_below p0_below) [(0, .ref h_p0), (1, .int x1), (2, .int x2)] 4 []) (hrec14 : ∀ (x1 : Int32) (x2 : Int32) (x3 : Int32) (p0_nodes : Int32) (p0_codes : Nat → Int32) (p0_below : Nat → Int32), rec14 x1 x2 x3 p0_nodes p0_codes p0_below = some r → X_ p l e ({ frames := 3, cells := 0, slots := 0, locals := 70 } : Room) s m args below meth c Q D vwCl A 4 0 0 (W_X10 cI cZ h_p0 h_p0_lengths h_p0_codes h_p0_below p0_symbols p0_most p0_nodes p0_inOrder p0_loaded p0_full n_p0_lengths p0_lengths n_p0_codes p0_codes n_p0_below p0_below) [(0, .ref h_p0), (1, .int x1), (2, .int x2), (3, .int x3)] 14 []) : ∀ (x1 : Int32) (x2 : Int32) (x3 : Int32) (p0_nodes : Int32) (p0_codes : Nat → Int32) (p0_below : Nat → Int32), bf_X10_forgeCanonical_14 F p0_symbols p0_most n_p0_lengths p0_lengths n_p0_codes n_p0_below rec4 rec14 x1 x2 x3 p0_nodes p0_codes p0_below = some r → X_ p l e ({ frames := 3, cells := 0, slots := 0, locals := 70 } : Room) s m args below meth c Q D vwCl A 4 0 0 (W_X10 cI cZ h_p0 h_p0_lengths h_p0_codes h_p0_below p0_symbols p0_most p0_nodes p0_inOrder p0_loaded p0_full n_p0_lengths p0_lengths n_p0_codes p0_codes n_p0_below p0_below) [(0, .ref h_p0), (1, .int x1), (2, .int x2), (3, .int x3)] 14 [] := by
  intro x1 x2 x3 p0_nodes p0_codes p0_below h
  unfold bf_X10_forgeCanonical_14 at h
  refine x_iload_n S dX10_forgeCanonical_14 rfl 3 rfl ?_
  refine x_aload_n S dX10_forgeCanonical_15 rfl 0 rfl ?_
  refine x_get S hK i_X10_forgeCanonical_X10 0 rfl rfl 0 (by decide) k_X10_forgeCanonical_9 rfl rfl dX10_forgeCanonical_16 ?_
  refine x_icmp_ge S 45 dX10_forgeCanonical_19 (by decide) h (fun h => ?_) (fun h => ?_)
  · refine x_iinc (v := x2 + (1 : Int32)) (lv' := [(2, .int (x2 + (1 : Int32))), (0, .ref h_p0), (1, .int x1), (3, .int x3)]) S dX10_forgeCanonical_45 2 rfl rfl (by decide) rfl ?_
    refine x_goto S 4 dX10_forgeCanonical_48 (by decide) ?_
    refine x_lv [1, 2, 0] (by rfl) ?_
    exact hrec4 x1 (x2 + (1 : Int32)) p0_nodes p0_codes p0_below h
  · refine x_aload_n S dX10_forgeCanonical_22 rfl 0 rfl ?_
    refine x_get S hK i_X10_forgeCanonical_X10 0 rfl rfl 2 (by decide) k_X10_forgeCanonical_18 rfl rfl dX10_forgeCanonical_23 ?_
    refine x_iload_n S dX10_forgeCanonical_26 rfl 3 rfl ?_
    refine x_iald S hK 1 0 rfl rfl dX10_forgeCanonical_27 h (fun h => ?_)
    refine x_iload_n S dX10_forgeCanonical_28 rfl 2 rfl ?_
    refine x_icmp_ne S 39 dX10_forgeCanonical_29 (by decide) h (fun h => ?_) (fun h => ?_)
    · refine x_iinc (v := x3 + (1 : Int32)) (lv' := [(3, .int (x3 + (1 : Int32))), (0, .ref h_p0), (1, .int x1), (2, .int x2)]) S dX10_forgeCanonical_39 3 rfl rfl (by decide) rfl ?_
      refine x_goto S 14 dX10_forgeCanonical_42 (by decide) ?_
      refine x_lv [1, 2, 3, 0] (by rfl) ?_
      exact hrec14 x1 x2 (x3 + (1 : Int32)) p0_nodes p0_codes p0_below h
    · refine x_aload_n S dX10_forgeCanonical_32 rfl 0 rfl ?_
      refine x_iload_n S dX10_forgeCanonical_33 rfl 3 rfl ?_
      refine x_iload_n S dX10_forgeCanonical_34 rfl 1 rfl ?_
      obtain ⟨v35, h35, h⟩ := gbind h
      refine x_callVi S hK hA (c_X10_forgeOne l D cI cZ F h_p0 h_p0_lengths h_p0_codes h_p0_below p0_symbols p0_most p0_nodes p0_inOrder p0_loaded p0_full n_p0_lengths p0_lengths n_p0_codes p0_codes n_p0_below p0_below x3 x1 v35 h35) (cwV 2 S.2.2.2.2 gX10_forgeCanonical_X10_forgeOne rfl rfl rfl (by decide +kernel) ⟨(Nat.le_of_ble_eq_true rfl), (Nat.le_of_ble_eq_true rfl)⟩) [0, 1, 2, 3] [] rfl (by decide) rfl (by decide) (by decide) 0 9 rfl rfl rfl (Nat.le_of_ble_eq_true rfl) rfl dX10_forgeCanonical_35 ⟨(Nat.le_of_ble_eq_true rfl), (Nat.le_of_ble_eq_true rfl)⟩ (fun w1 hw1 => ?_)
      subst hw1
      refine x_ws (ws' := (W_X10 cI cZ h_p0 h_p0_lengths h_p0_codes h_p0_below p0_symbols p0_most v35.2.1 p0_inOrder p0_loaded p0_full n_p0_lengths p0_lengths n_p0_codes v35.2.2.1 n_p0_below v35.2.2.2)) [0, 1, 2, 3] (by decide) (by rfl) ?_
      refine x_istore_n (lv' := [(1, .int v35.1), (0, .ref h_p0), (2, .int x2), (3, .int x3)]) S dX10_forgeCanonical_38 rfl (by decide) rfl ?_
      refine x_iinc (v := x3 + (1 : Int32)) (lv' := [(3, .int (x3 + (1 : Int32))), (1, .int v35.1), (0, .ref h_p0), (2, .int x2)]) S dX10_forgeCanonical_39 3 rfl rfl (by decide) rfl ?_
      refine x_goto S 14 dX10_forgeCanonical_42 (by decide) ?_
      refine x_lv [2, 1, 3, 0] (by rfl) ?_
      exact hrec14 v35.1 x2 (x3 + (1 : Int32)) v35.2.1 v35.2.2.1 v35.2.2.2 h
noncomputable def lf_X10_forgeCanonical_14 (F : Nat) (p0_symbols : Int32) (p0_most : Int32) (n_p0_lengths : Nat) (p0_lengths : Nat → Int32) (n_p0_codes : Nat) (n_p0_below : Nat) (rec4 : Int32 → Int32 → Int32 → (Nat → Int32) → (Nat → Int32) → Option (Int32 × (Nat → Int32) × (Nat → Int32))) (k : Nat) (x1 : Int32) (x2 : Int32) (x3 : Int32) (p0_nodes : Int32) (p0_codes : Nat → Int32) (p0_below : Nat → Int32) : Option (Int32 × (Nat → Int32) × (Nat → Int32)) :=
  lp (fun (rec : Int32 × Int32 × Int32 × Int32 × (Nat → Int32) × (Nat → Int32) → Option (Int32 × (Nat → Int32) × (Nat → Int32))) (z : Int32 × Int32 × Int32 × Int32 × (Nat → Int32) × (Nat → Int32)) => bf_X10_forgeCanonical_14 F p0_symbols p0_most n_p0_lengths p0_lengths n_p0_codes n_p0_below rec4 (fun x1 x2 x3 p0_nodes p0_codes p0_below => rec (x1, x2, x3, p0_nodes, p0_codes, p0_below)) z.1 z.2.1 z.2.2.1 z.2.2.2.1 z.2.2.2.2.1 z.2.2.2.2.2) k (x1, x2, x3, p0_nodes, p0_codes, p0_below)
set_option maxRecDepth 100000 in
set_option maxHeartbeats 4000000 in
theorem wl_X10_forgeCanonical_14 (S : CallFix p m c cX10_forgeCanonical 4 s args wsX10_forgeCanonical RX10) (hK : K_ D vwCl [(cI, .int), (cZ, .boolean)] s) (hA : ∀ q, s.heap.size ≤ q → A q) {F : Nat} {p0_symbols : Int32} {p0_most : Int32} {p0_inOrder : Int32} {p0_loaded : Int32} {p0_full : Int32} {n_p0_lengths : Nat} {p0_lengths : Nat → Int32} {n_p0_codes : Nat} {n_p0_below : Nat} {h_p0 h_p0_lengths h_p0_codes h_p0_below : Nat} {r : Int32 × (Nat → Int32) × (Nat → Int32)} {Wp : va_W → Prop} (hend : ∀ (w1 : va_W) (pc : Nat) (lv : List (Nat × Value)), Wp w1 → decode cX10_forgeCanonical pc = .ok (.return_, 1) → X_ p l e ({ frames := 3, cells := 0, slots := 0, locals := 70 } : Room) s m args below meth c Q D vwCl A 4 0 0 w1 lv pc []) (hWp : Wp (W_X10 cI cZ h_p0 h_p0_lengths h_p0_codes h_p0_below p0_symbols p0_most r.1 p0_inOrder p0_loaded p0_full n_p0_lengths p0_lengths n_p0_codes r.2.1 n_p0_below r.2.2)) {rec4 : Int32 → Int32 → Int32 → (Nat → Int32) → (Nat → Int32) → Option (Int32 × (Nat → Int32) × (Nat → Int32))} (hrec4 : ∀ (x1 : Int32) (x2 : Int32) (p0_nodes : Int32) (p0_codes : Nat → Int32) (p0_below : Nat → Int32), rec4 x1 x2 p0_nodes p0_codes p0_below = some r → X_ p l e ({ frames := 3, cells := 0, slots := 0, locals := 70 } : Room) s m args below meth c Q D vwCl A 4 0 0 (W_X10 cI cZ h_p0 h_p0_lengths h_p0_codes h_p0_below p0_symbols p0_most p0_nodes p0_inOrder p0_loaded p0_full n_p0_lengths p0_lengths n_p0_codes p0_codes n_p0_below p0_below) [(0, .ref h_p0), (1, .int x1), (2, .int x2)] 4 []) (k : Nat) : ∀ (x1 : Int32) (x2 : Int32) (x3 : Int32) (p0_nodes : Int32) (p0_codes : Nat → Int32) (p0_below : Nat → Int32), lf_X10_forgeCanonical_14 F p0_symbols p0_most n_p0_lengths p0_lengths n_p0_codes n_p0_below rec4 k x1 x2 x3 p0_nodes p0_codes p0_below = some r → X_ p l e ({ frames := 3, cells := 0, slots := 0, locals := 70 } : Room) s m args below meth c Q D vwCl A 4 0 0 (W_X10 cI cZ h_p0 h_p0_lengths h_p0_codes h_p0_below p0_symbols p0_most p0_nodes p0_inOrder p0_loaded p0_full n_p0_lengths p0_lengths n_p0_codes p0_codes n_p0_below p0_below) [(0, .ref h_p0), (1, .int x1), (2, .int x2), (3, .int x3)] 14 [] := by
  intro x1 x2 x3 p0_nodes p0_codes p0_below h
  exact lp_W (P := fun z => X_ p l e ({ frames := 3, cells := 0, slots := 0, locals := 70 } : Room) s m args below meth c Q D vwCl A 4 0 0 (W_X10 cI cZ h_p0 h_p0_lengths h_p0_codes h_p0_below p0_symbols p0_most z.2.2.2.1 p0_inOrder p0_loaded p0_full n_p0_lengths p0_lengths n_p0_codes z.2.2.2.2.1 n_p0_below z.2.2.2.2.2) [(0, .ref h_p0), (1, .int z.1), (2, .int z.2.1), (3, .int z.2.2.1)] 14 []) (fun rec ih z hz => w_X10_forgeCanonical_14 S hK hA hend hWp hrec4 (fun x1 x2 x3 p0_nodes p0_codes p0_below hh => ih (x1, x2, x3, p0_nodes, p0_codes, p0_below) hh)  z.1 z.2.1 z.2.2.1 z.2.2.2.1 z.2.2.2.2.1 z.2.2.2.2.2 hz) k (x1, x2, x3, p0_nodes, p0_codes, p0_below) h 
noncomputable def bf_X10_forgeCanonical_4 (F : Nat) (p0_symbols : Int32) (p0_most : Int32) (n_p0_lengths : Nat) (p0_lengths : Nat → Int32) (n_p0_codes : Nat) (n_p0_below : Nat) (rec4 : Int32 → Int32 → Int32 → (Nat → Int32) → (Nat → Int32) → Option (Int32 × (Nat → Int32) × (Nat → Int32))) (x1 : Int32) (x2 : Int32) (p0_nodes : Int32) (p0_codes : Nat → Int32) (p0_below : Nat → Int32) : Option (Int32 × (Nat → Int32) × (Nat → Int32)) :=
  (if p0_most < x2 then some (p0_nodes, p0_codes, p0_below) else lf_X10_forgeCanonical_14 F p0_symbols p0_most n_p0_lengths p0_lengths n_p0_codes n_p0_below rec4 F x1 x2 (0 : Int32) p0_nodes p0_codes p0_below)
set_option maxRecDepth 100000 in
set_option maxHeartbeats 4000000 in
theorem w_X10_forgeCanonical_4 (S : CallFix p m c cX10_forgeCanonical 4 s args wsX10_forgeCanonical RX10) (hK : K_ D vwCl [(cI, .int), (cZ, .boolean)] s) (hA : ∀ q, s.heap.size ≤ q → A q) {F : Nat} {p0_symbols : Int32} {p0_most : Int32} {p0_inOrder : Int32} {p0_loaded : Int32} {p0_full : Int32} {n_p0_lengths : Nat} {p0_lengths : Nat → Int32} {n_p0_codes : Nat} {n_p0_below : Nat} {h_p0 h_p0_lengths h_p0_codes h_p0_below : Nat} {r : Int32 × (Nat → Int32) × (Nat → Int32)} {Wp : va_W → Prop} (hend : ∀ (w1 : va_W) (pc : Nat) (lv : List (Nat × Value)), Wp w1 → decode cX10_forgeCanonical pc = .ok (.return_, 1) → X_ p l e ({ frames := 3, cells := 0, slots := 0, locals := 70 } : Room) s m args below meth c Q D vwCl A 4 0 0 w1 lv pc []) (hWp : Wp (W_X10 cI cZ h_p0 h_p0_lengths h_p0_codes h_p0_below p0_symbols p0_most r.1 p0_inOrder p0_loaded p0_full n_p0_lengths p0_lengths n_p0_codes r.2.1 n_p0_below r.2.2)) {rec4 : Int32 → Int32 → Int32 → (Nat → Int32) → (Nat → Int32) → Option (Int32 × (Nat → Int32) × (Nat → Int32))} (hrec4 : ∀ (x1 : Int32) (x2 : Int32) (p0_nodes : Int32) (p0_codes : Nat → Int32) (p0_below : Nat → Int32), rec4 x1 x2 p0_nodes p0_codes p0_below = some r → X_ p l e ({ frames := 3, cells := 0, slots := 0, locals := 70 } : Room) s m args below meth c Q D vwCl A 4 0 0 (W_X10 cI cZ h_p0 h_p0_lengths h_p0_codes h_p0_below p0_symbols p0_most p0_nodes p0_inOrder p0_loaded p0_full n_p0_lengths p0_lengths n_p0_codes p0_codes n_p0_below p0_below) [(0, .ref h_p0), (1, .int x1), (2, .int x2)] 4 []) : ∀ (x1 : Int32) (x2 : Int32) (p0_nodes : Int32) (p0_codes : Nat → Int32) (p0_below : Nat → Int32), bf_X10_forgeCanonical_4 F p0_symbols p0_most n_p0_lengths p0_lengths n_p0_codes n_p0_below rec4 x1 x2 p0_nodes p0_codes p0_below = some r → X_ p l e ({ frames := 3, cells := 0, slots := 0, locals := 70 } : Room) s m args below meth c Q D vwCl A 4 0 0 (W_X10 cI cZ h_p0 h_p0_lengths h_p0_codes h_p0_below p0_symbols p0_most p0_nodes p0_inOrder p0_loaded p0_full n_p0_lengths p0_lengths n_p0_codes p0_codes n_p0_below p0_below) [(0, .ref h_p0), (1, .int x1), (2, .int x2)] 4 [] := by
  intro x1 x2 p0_nodes p0_codes p0_below h
  unfold bf_X10_forgeCanonical_4 at h
  refine x_iload_n S dX10_forgeCanonical_4 rfl 2 rfl ?_
  refine x_aload_n S dX10_forgeCanonical_5 rfl 0 rfl ?_
  refine x_get S hK i_X10_forgeCanonical_X10 0 rfl rfl 1 (by decide) k_X10_forgeCanonical_15 rfl rfl dX10_forgeCanonical_6 ?_
  refine x_icmp_gt S 51 dX10_forgeCanonical_9 (by decide) h (fun h => ?_) (fun h => ?_)
  · obtain rfl := Option.some.inj h
    exact hend _ _ _ hWp dX10_forgeCanonical_51
  · refine x_iconst (v := 0) S dX10_forgeCanonical_12 (by decide) ?_
    refine x_istore_n (lv' := [(3, .int (0 : Int32)), (0, .ref h_p0), (1, .int x1), (2, .int x2)]) S dX10_forgeCanonical_13 rfl (by decide) rfl ?_
    refine x_lv [1, 2, 3, 0] (by rfl) ?_
    exact wl_X10_forgeCanonical_14 S hK hA hend hWp hrec4 F x1 x2 (0 : Int32) p0_nodes p0_codes p0_below h
noncomputable def lf_X10_forgeCanonical_4 (F : Nat) (p0_symbols : Int32) (p0_most : Int32) (n_p0_lengths : Nat) (p0_lengths : Nat → Int32) (n_p0_codes : Nat) (n_p0_below : Nat)  (k : Nat) (x1 : Int32) (x2 : Int32) (p0_nodes : Int32) (p0_codes : Nat → Int32) (p0_below : Nat → Int32) : Option (Int32 × (Nat → Int32) × (Nat → Int32)) :=
  lp (fun (rec : Int32 × Int32 × Int32 × (Nat → Int32) × (Nat → Int32) → Option (Int32 × (Nat → Int32) × (Nat → Int32))) (z : Int32 × Int32 × Int32 × (Nat → Int32) × (Nat → Int32)) => bf_X10_forgeCanonical_4 F p0_symbols p0_most n_p0_lengths p0_lengths n_p0_codes n_p0_below (fun x1 x2 p0_nodes p0_codes p0_below => rec (x1, x2, p0_nodes, p0_codes, p0_below)) z.1 z.2.1 z.2.2.1 z.2.2.2.1 z.2.2.2.2) k (x1, x2, p0_nodes, p0_codes, p0_below)
set_option maxRecDepth 100000 in
set_option maxHeartbeats 4000000 in
theorem wl_X10_forgeCanonical_4 (S : CallFix p m c cX10_forgeCanonical 4 s args wsX10_forgeCanonical RX10) (hK : K_ D vwCl [(cI, .int), (cZ, .boolean)] s) (hA : ∀ q, s.heap.size ≤ q → A q) {F : Nat} {p0_symbols : Int32} {p0_most : Int32} {p0_inOrder : Int32} {p0_loaded : Int32} {p0_full : Int32} {n_p0_lengths : Nat} {p0_lengths : Nat → Int32} {n_p0_codes : Nat} {n_p0_below : Nat} {h_p0 h_p0_lengths h_p0_codes h_p0_below : Nat} {r : Int32 × (Nat → Int32) × (Nat → Int32)} {Wp : va_W → Prop} (hend : ∀ (w1 : va_W) (pc : Nat) (lv : List (Nat × Value)), Wp w1 → decode cX10_forgeCanonical pc = .ok (.return_, 1) → X_ p l e ({ frames := 3, cells := 0, slots := 0, locals := 70 } : Room) s m args below meth c Q D vwCl A 4 0 0 w1 lv pc []) (hWp : Wp (W_X10 cI cZ h_p0 h_p0_lengths h_p0_codes h_p0_below p0_symbols p0_most r.1 p0_inOrder p0_loaded p0_full n_p0_lengths p0_lengths n_p0_codes r.2.1 n_p0_below r.2.2))   (k : Nat) : ∀ (x1 : Int32) (x2 : Int32) (p0_nodes : Int32) (p0_codes : Nat → Int32) (p0_below : Nat → Int32), lf_X10_forgeCanonical_4 F p0_symbols p0_most n_p0_lengths p0_lengths n_p0_codes n_p0_below k x1 x2 p0_nodes p0_codes p0_below = some r → X_ p l e ({ frames := 3, cells := 0, slots := 0, locals := 70 } : Room) s m args below meth c Q D vwCl A 4 0 0 (W_X10 cI cZ h_p0 h_p0_lengths h_p0_codes h_p0_below p0_symbols p0_most p0_nodes p0_inOrder p0_loaded p0_full n_p0_lengths p0_lengths n_p0_codes p0_codes n_p0_below p0_below) [(0, .ref h_p0), (1, .int x1), (2, .int x2)] 4 [] := by
  intro x1 x2 p0_nodes p0_codes p0_below h
  exact lp_W (P := fun z => X_ p l e ({ frames := 3, cells := 0, slots := 0, locals := 70 } : Room) s m args below meth c Q D vwCl A 4 0 0 (W_X10 cI cZ h_p0 h_p0_lengths h_p0_codes h_p0_below p0_symbols p0_most z.2.2.1 p0_inOrder p0_loaded p0_full n_p0_lengths p0_lengths n_p0_codes z.2.2.2.1 n_p0_below z.2.2.2.2) [(0, .ref h_p0), (1, .int z.1), (2, .int z.2.1)] 4 []) (fun rec ih z hz => w_X10_forgeCanonical_4 S hK hA hend hWp (fun x1 x2 p0_nodes p0_codes p0_below hh => ih (x1, x2, p0_nodes, p0_codes, p0_below) hh)  z.1 z.2.1 z.2.2.1 z.2.2.2.1 z.2.2.2.2 hz) k (x1, x2, p0_nodes, p0_codes, p0_below) h 
noncomputable def bf_X10_forgeCanonical_0 (F : Nat) (p0_symbols : Int32) (p0_most : Int32) (n_p0_lengths : Nat) (p0_lengths : Nat → Int32) (n_p0_codes : Nat) (n_p0_below : Nat)  (p0_nodes : Int32) (p0_codes : Nat → Int32) (p0_below : Nat → Int32) : Option (Int32 × (Nat → Int32) × (Nat → Int32)) :=
  lf_X10_forgeCanonical_4 F p0_symbols p0_most n_p0_lengths p0_lengths n_p0_codes n_p0_below F (0 : Int32) (1 : Int32) p0_nodes p0_codes p0_below
set_option maxRecDepth 100000 in
set_option maxHeartbeats 4000000 in
theorem w_X10_forgeCanonical_0 (S : CallFix p m c cX10_forgeCanonical 4 s args wsX10_forgeCanonical RX10) (hK : K_ D vwCl [(cI, .int), (cZ, .boolean)] s) (hA : ∀ q, s.heap.size ≤ q → A q) {F : Nat} {p0_symbols : Int32} {p0_most : Int32} {p0_inOrder : Int32} {p0_loaded : Int32} {p0_full : Int32} {n_p0_lengths : Nat} {p0_lengths : Nat → Int32} {n_p0_codes : Nat} {n_p0_below : Nat} {h_p0 h_p0_lengths h_p0_codes h_p0_below : Nat} {r : Int32 × (Nat → Int32) × (Nat → Int32)} {Wp : va_W → Prop} (hend : ∀ (w1 : va_W) (pc : Nat) (lv : List (Nat × Value)), Wp w1 → decode cX10_forgeCanonical pc = .ok (.return_, 1) → X_ p l e ({ frames := 3, cells := 0, slots := 0, locals := 70 } : Room) s m args below meth c Q D vwCl A 4 0 0 w1 lv pc []) (hWp : Wp (W_X10 cI cZ h_p0 h_p0_lengths h_p0_codes h_p0_below p0_symbols p0_most r.1 p0_inOrder p0_loaded p0_full n_p0_lengths p0_lengths n_p0_codes r.2.1 n_p0_below r.2.2))   : ∀ (p0_nodes : Int32) (p0_codes : Nat → Int32) (p0_below : Nat → Int32), bf_X10_forgeCanonical_0 F p0_symbols p0_most n_p0_lengths p0_lengths n_p0_codes n_p0_below p0_nodes p0_codes p0_below = some r → X_ p l e ({ frames := 3, cells := 0, slots := 0, locals := 70 } : Room) s m args below meth c Q D vwCl A 4 0 0 (W_X10 cI cZ h_p0 h_p0_lengths h_p0_codes h_p0_below p0_symbols p0_most p0_nodes p0_inOrder p0_loaded p0_full n_p0_lengths p0_lengths n_p0_codes p0_codes n_p0_below p0_below) [(0, .ref h_p0)] 0 [] := by
  intro p0_nodes p0_codes p0_below h
  unfold bf_X10_forgeCanonical_0 at h
  refine x_iconst (v := 0) S dX10_forgeCanonical_0 (by decide) ?_
  refine x_istore_n (lv' := [(1, .int (0 : Int32)), (0, .ref h_p0)]) S dX10_forgeCanonical_1 rfl (by decide) rfl ?_
  refine x_iconst (v := 1) S dX10_forgeCanonical_2 (by decide) ?_
  refine x_istore_n (lv' := [(2, .int (1 : Int32)), (1, .int (0 : Int32)), (0, .ref h_p0)]) S dX10_forgeCanonical_3 rfl (by decide) rfl ?_
  refine x_lv [2, 1, 0] (by rfl) ?_
  exact wl_X10_forgeCanonical_4 S hK hA hend hWp  F (0 : Int32) (1 : Int32) p0_nodes p0_codes p0_below h
noncomputable def fn_X10_forgeCanonical (F : Nat) (p0_symbols : Int32) (p0_most : Int32) (n_p0_lengths : Nat) (p0_lengths : Nat → Int32) (n_p0_codes : Nat) (n_p0_below : Nat) (p0_nodes : Int32) (p0_codes : Nat → Int32) (p0_below : Nat → Int32)  : Option (Int32 × (Nat → Int32) × (Nat → Int32)) :=
  bf_X10_forgeCanonical_0 F p0_symbols p0_most n_p0_lengths p0_lengths n_p0_codes n_p0_below p0_nodes p0_codes p0_below
set_option maxRecDepth 100000 in
set_option maxHeartbeats 4000000 in
theorem c_X10_forgeCanonical (l : Launch) (D : va_G) (cI cZ : ClassId) (F : Nat) (h_p0 h_p0_lengths h_p0_codes h_p0_below : Nat) (p0_symbols : Int32) (p0_most : Int32) (p0_nodes : Int32) (p0_inOrder : Int32) (p0_loaded : Int32) (p0_full : Int32) (n_p0_lengths : Nat) (p0_lengths : Nat → Int32) (n_p0_codes : Nat) (p0_codes : Nat → Int32) (n_p0_below : Nat) (p0_below : Nat → Int32)  (r : Int32 × (Nat → Int32) × (Nat → Int32)) (h : fn_X10_forgeCanonical F p0_symbols p0_most n_p0_lengths p0_lengths n_p0_codes n_p0_below p0_nodes p0_codes p0_below = some r) : Cv l yX10_forgeCanonical wsX10_forgeCanonical ({ frames := 3, cells := 0, slots := 0, locals := 70 } : Room) D vwCl [(cI, .int), (cZ, .boolean)] [.ref h_p0] (W_X10 cI cZ h_p0 h_p0_lengths h_p0_codes h_p0_below p0_symbols p0_most p0_nodes p0_inOrder p0_loaded p0_full n_p0_lengths p0_lengths n_p0_codes p0_codes n_p0_below p0_below) (fun w => w = (W_X10 cI cZ h_p0 h_p0_lengths h_p0_codes h_p0_below p0_symbols p0_most r.1 p0_inOrder p0_loaded p0_full n_p0_lengths p0_lengths n_p0_codes r.2.1 n_p0_below r.2.2)) 0 0 :=
  Cv.ofv (by decide) rfl (Nat.le_of_ble_eq_true rfl) (fun p e s m args below meth c Q A S hK hA hname hend => w_X10_forgeCanonical_0 S hK hA hend rfl p0_nodes p0_codes p0_below h)
end

/-! ===== PrefixSmith$Table.forge()V ===== -/
theorem i_X10_forge_X10 : ∀ w ∈ u_ws RX10 TX10 9, w ∈ wsX10_forge := by decide +kernel
theorem k_X10_forge_25 : Cond.fieldLink RX10 25 "PrefixSmith$Table" "below" "[I" ∈ wsX10_forge := by decide +kernel
theorem k_X10_forge_68 : Cond.fieldLink RX10 68 "PrefixSmith$Table" "nodes" "I" ∈ wsX10_forge := by decide +kernel
theorem k_X10_forge_45 : Cond.fieldLink RX10 45 "PrefixSmith$Table" "inOrder" "Z" ∈ wsX10_forge := by decide +kernel
theorem k_X10_forge_63 : Jvm.Cond.constant RX10 63 (16777216) ∈ wsX10_forge := by decide +kernel
theorem k_X10_forge_77 : Cond.fieldLink RX10 77 "PrefixSmith$Table" "full" "Z" ∈ wsX10_forge := by decide +kernel
theorem k_X10_forge_80 : Cond.fieldLink RX10 80 "PrefixSmith$Table" "loaded" "Z" ∈ wsX10_forge := by decide +kernel
section
variable {p : Program} {l : Launch} {e : Env} {s : State} {m : MethodId} {args : Array Value} {below : List Frame} {meth : Method} {c : Code} {Q : State → Prop} {D : va_G} {A : Nat → Prop} {cI cZ : ClassId}
noncomputable def bf_X10_forge_31 (F : Nat) (p0_symbols : Int32) (p0_most : Int32) (p0_inOrder : Int32) (n_p0_lengths : Nat) (p0_lengths : Nat → Int32) (n_p0_codes : Nat) (n_p0_below : Nat)  (p0_nodes : Int32) (p0_loaded : Int32) (p0_full : Int32) (p0_codes : Nat → Int32) (p0_below : Nat → Int32) : Option (Int32 × Int32 × Int32 × (Nat → Int32) × (Nat → Int32)) :=
  ((fn_X10_sum F p0_symbols n_p0_lengths p0_lengths).bind fun v33 => (if v33 = (16777216 : Int32) then some (p0_nodes, (1 : Int32), (1 : Int32), p0_codes, p0_below) else some (p0_nodes, (1 : Int32), (0 : Int32), p0_codes, p0_below)))
set_option maxRecDepth 100000 in
set_option maxHeartbeats 4000000 in
theorem w_X10_forge_31 (S : CallFix p m c cX10_forge 1 s args wsX10_forge RX10) (hK : K_ D vwCl [(cI, .int), (cZ, .boolean)] s) (hA : ∀ q, s.heap.size ≤ q → A q) {F : Nat} {p0_symbols : Int32} {p0_most : Int32} {p0_inOrder : Int32} {n_p0_lengths : Nat} {p0_lengths : Nat → Int32} {n_p0_codes : Nat} {n_p0_below : Nat} {h_p0 h_p0_lengths h_p0_codes h_p0_below : Nat} {r : Int32 × Int32 × Int32 × (Nat → Int32) × (Nat → Int32)} {Wp : va_W → Prop} (hend : ∀ (w1 : va_W) (pc : Nat) (lv : List (Nat × Value)), Wp w1 → decode cX10_forge pc = .ok (.return_, 1) → X_ p l e ({ frames := 4, cells := 0, slots := 0, locals := 93 } : Room) s m args below meth c Q D vwCl A 1 0 0 w1 lv pc []) (hWp : Wp (W_X10 cI cZ h_p0 h_p0_lengths h_p0_codes h_p0_below p0_symbols p0_most r.1 p0_inOrder r.2.1 r.2.2.1 n_p0_lengths p0_lengths n_p0_codes r.2.2.2.1 n_p0_below r.2.2.2.2))   : ∀ (p0_nodes : Int32) (p0_loaded : Int32) (p0_full : Int32) (p0_codes : Nat → Int32) (p0_below : Nat → Int32), bf_X10_forge_31 F p0_symbols p0_most p0_inOrder n_p0_lengths p0_lengths n_p0_codes n_p0_below p0_nodes p0_loaded p0_full p0_codes p0_below = some r → X_ p l e ({ frames := 4, cells := 0, slots := 0, locals := 93 } : Room) s m args below meth c Q D vwCl A 1 0 0 (W_X10 cI cZ h_p0 h_p0_lengths h_p0_codes h_p0_below p0_symbols p0_most p0_nodes p0_inOrder p0_loaded p0_full n_p0_lengths p0_lengths n_p0_codes p0_codes n_p0_below p0_below) [(0, .ref h_p0)] 31 [] := by
  intro p0_nodes p0_loaded p0_full p0_codes p0_below h
  unfold bf_X10_forge_31 at h
  refine x_aload_n S dX10_forge_31 rfl 0 rfl ?_
  refine x_aload_n S dX10_forge_32 rfl 0 rfl ?_
  obtain ⟨v33, h33, h⟩ := gbind h
  refine x_callVi S hK hA (c_X10_sum l D cI cZ F h_p0 h_p0_lengths h_p0_codes h_p0_below p0_symbols p0_most p0_nodes p0_inOrder p0_loaded p0_full n_p0_lengths p0_lengths n_p0_codes p0_codes n_p0_below p0_below  v33 h33) (cwV 0 S.2.2.2.2 gX10_forge_X10_sum rfl rfl rfl (by decide +kernel) ⟨(Nat.le_of_ble_eq_true rfl), (Nat.le_of_ble_eq_true rfl)⟩) [0, 1, 2, 3] [] rfl (by decide) rfl (by decide) (by decide) 0 9 rfl rfl rfl (Nat.le_of_ble_eq_true rfl) rfl dX10_forge_33 ⟨(Nat.le_of_ble_eq_true rfl), (Nat.le_of_ble_eq_true rfl)⟩ (fun w1 hw1 => ?_)
  subst hw1
  refine x_ws (ws' := (W_X10 cI cZ h_p0 h_p0_lengths h_p0_codes h_p0_below p0_symbols p0_most p0_nodes p0_inOrder p0_loaded p0_full n_p0_lengths p0_lengths n_p0_codes p0_codes n_p0_below p0_below)) [0, 1, 2, 3] (by decide) (by rfl) ?_
  refine x_ldc S k_X10_forge_63 dX10_forge_36 ?_
  refine x_icmp_ne S 45 dX10_forge_38 (by decide) h (fun h => ?_) (fun h => ?_)
  · refine x_iconst (v := 0) S dX10_forge_45 (by decide) ?_
    refine x_put (ty := .boolean) S hK i_X10_forge_X10 tyX10 tyX10_ok nmX10 0 rfl rfl 8 (by decide) k_X10_forge_77 rfl rfl (by decide +kernel) (by decide) (by decide) (Nat.le_of_ble_eq_true rfl) dX10_forge_46 rfl ?_
    refine x_aload_n S dX10_forge_49 rfl 0 rfl ?_
    refine x_iconst (v := 1) S dX10_forge_50 (by decide) ?_
    refine x_put (ty := .boolean) S hK i_X10_forge_X10 tyX10 tyX10_ok nmX10 0 rfl rfl 7 (by decide) k_X10_forge_80 rfl rfl (by decide +kernel) (by decide) (by decide) (Nat.le_of_ble_eq_true rfl) dX10_forge_51 rfl ?_
    obtain rfl := Option.some.inj h
    exact hend _ _ _ hWp dX10_forge_54
  · refine x_iconst (v := 1) S dX10_forge_41 (by decide) ?_
    refine x_goto S 46 dX10_forge_42 (by decide) ?_
    refine x_put (ty := .boolean) S hK i_X10_forge_X10 tyX10 tyX10_ok nmX10 0 rfl rfl 8 (by decide) k_X10_forge_77 rfl rfl (by decide +kernel) (by decide) (by decide) (Nat.le_of_ble_eq_true rfl) dX10_forge_46 rfl ?_
    refine x_aload_n S dX10_forge_49 rfl 0 rfl ?_
    refine x_iconst (v := 1) S dX10_forge_50 (by decide) ?_
    refine x_put (ty := .boolean) S hK i_X10_forge_X10 tyX10 tyX10_ok nmX10 0 rfl rfl 7 (by decide) k_X10_forge_80 rfl rfl (by decide +kernel) (by decide) (by decide) (Nat.le_of_ble_eq_true rfl) dX10_forge_51 rfl ?_
    obtain rfl := Option.some.inj h
    exact hend _ _ _ hWp dX10_forge_54
noncomputable def bf_X10_forge_0 (F : Nat) (p0_symbols : Int32) (p0_most : Int32) (p0_inOrder : Int32) (n_p0_lengths : Nat) (p0_lengths : Nat → Int32) (n_p0_codes : Nat) (n_p0_below : Nat)  (p0_nodes : Int32) (p0_loaded : Int32) (p0_full : Int32) (p0_codes : Nat → Int32) (p0_below : Nat → Int32) : Option (Int32 × Int32 × Int32 × (Nat → Int32) × (Nat → Int32)) :=
  ((fn_J7_fill_53178 F n_p0_below p0_below (0 : Int32)).bind fun v5 => (if p0_inOrder = 0 then ((fn_X10_forgeCanonical F p0_symbols p0_most n_p0_lengths p0_lengths n_p0_codes n_p0_below (1 : Int32) p0_codes v5).bind fun v28 => bf_X10_forge_31 F p0_symbols p0_most p0_inOrder n_p0_lengths p0_lengths n_p0_codes n_p0_below v28.1 p0_loaded p0_full v28.2.1 v28.2.2) else ((fn_X10_forgeInOrder F p0_symbols p0_most n_p0_lengths p0_lengths n_p0_codes n_p0_below (1 : Int32) p0_codes v5).bind fun v21 => bf_X10_forge_31 F p0_symbols p0_most p0_inOrder n_p0_lengths p0_lengths n_p0_codes n_p0_below v21.1 p0_loaded p0_full v21.2.1 v21.2.2)))
set_option maxRecDepth 100000 in
set_option maxHeartbeats 4000000 in
theorem w_X10_forge_0 (S : CallFix p m c cX10_forge 1 s args wsX10_forge RX10) (hK : K_ D vwCl [(cI, .int), (cZ, .boolean)] s) (hA : ∀ q, s.heap.size ≤ q → A q) {F : Nat} {p0_symbols : Int32} {p0_most : Int32} {p0_inOrder : Int32} {n_p0_lengths : Nat} {p0_lengths : Nat → Int32} {n_p0_codes : Nat} {n_p0_below : Nat} {h_p0 h_p0_lengths h_p0_codes h_p0_below : Nat} {r : Int32 × Int32 × Int32 × (Nat → Int32) × (Nat → Int32)} {Wp : va_W → Prop} (hend : ∀ (w1 : va_W) (pc : Nat) (lv : List (Nat × Value)), Wp w1 → decode cX10_forge pc = .ok (.return_, 1) → X_ p l e ({ frames := 4, cells := 0, slots := 0, locals := 93 } : Room) s m args below meth c Q D vwCl A 1 0 0 w1 lv pc []) (hWp : Wp (W_X10 cI cZ h_p0 h_p0_lengths h_p0_codes h_p0_below p0_symbols p0_most r.1 p0_inOrder r.2.1 r.2.2.1 n_p0_lengths p0_lengths n_p0_codes r.2.2.2.1 n_p0_below r.2.2.2.2))   : ∀ (p0_nodes : Int32) (p0_loaded : Int32) (p0_full : Int32) (p0_codes : Nat → Int32) (p0_below : Nat → Int32), bf_X10_forge_0 F p0_symbols p0_most p0_inOrder n_p0_lengths p0_lengths n_p0_codes n_p0_below p0_nodes p0_loaded p0_full p0_codes p0_below = some r → X_ p l e ({ frames := 4, cells := 0, slots := 0, locals := 93 } : Room) s m args below meth c Q D vwCl A 1 0 0 (W_X10 cI cZ h_p0 h_p0_lengths h_p0_codes h_p0_below p0_symbols p0_most p0_nodes p0_inOrder p0_loaded p0_full n_p0_lengths p0_lengths n_p0_codes p0_codes n_p0_below p0_below) [(0, .ref h_p0)] 0 [] := by
  intro p0_nodes p0_loaded p0_full p0_codes p0_below h
  unfold bf_X10_forge_0 at h
  refine x_aload_n S dX10_forge_0 rfl 0 rfl ?_
  refine x_get S hK i_X10_forge_X10 0 rfl rfl 4 (by decide) k_X10_forge_25 rfl rfl dX10_forge_1 ?_
  refine x_iconst (v := 0) S dX10_forge_4 (by decide) ?_
  obtain ⟨v5, h5, h⟩ := gbind h
  refine x_callSv S hK hA (c_J7_fill_53178 l D cI cZ F h_p0_below n_p0_below p0_below (0 : Int32) v5 h5) (va_cwS 2 S.2.2.2.2 gX10_forge_J7_fill_53178 rfl rfl rfl (by decide +kernel) ⟨(Nat.le_of_ble_eq_true rfl), (Nat.le_of_ble_eq_true rfl)⟩) [3] [0, 1, 2] rfl (by decide) rfl (by decide) (by decide) rfl (Nat.le_of_ble_eq_true rfl) rfl dX10_forge_5 ⟨(Nat.le_of_ble_eq_true rfl), (Nat.le_of_ble_eq_true rfl)⟩ (fun w1 hw1 => ?_)
  subst hw1
  refine x_ws (ws' := (W_X10 cI cZ h_p0 h_p0_lengths h_p0_codes h_p0_below p0_symbols p0_most p0_nodes p0_inOrder p0_loaded p0_full n_p0_lengths p0_lengths n_p0_codes p0_codes n_p0_below v5)) [0, 1, 2, 3] (by decide) (by rfl) ?_
  refine x_aload_n S dX10_forge_8 rfl 0 rfl ?_
  refine x_iconst (v := 1) S dX10_forge_9 (by decide) ?_
  refine x_put (ty := .int) S hK i_X10_forge_X10 tyX10 tyX10_ok nmX10 0 rfl rfl 5 (by decide) k_X10_forge_68 rfl rfl (by decide +kernel) rfl rfl (Nat.le_of_ble_eq_true rfl) dX10_forge_10 rfl ?_
  refine x_aload_n S dX10_forge_13 rfl 0 rfl ?_
  refine x_get S hK i_X10_forge_X10 0 rfl rfl 6 (by decide) k_X10_forge_45 rfl rfl dX10_forge_14 ?_
  refine x_if_eq S 27 dX10_forge_17 (by decide) h (fun h => ?_) (fun h => ?_)
  · refine x_aload_n S dX10_forge_27 rfl 0 rfl ?_
    obtain ⟨v28, h28, h⟩ := gbind h
    refine x_callVv S hK hA (c_X10_forgeCanonical l D cI cZ F h_p0 h_p0_lengths h_p0_codes h_p0_below p0_symbols p0_most (1 : Int32) p0_inOrder p0_loaded p0_full n_p0_lengths p0_lengths n_p0_codes p0_codes n_p0_below v5  v28 h28) (cwV 0 S.2.2.2.2 gX10_forge_X10_forgeCanonical rfl rfl rfl (by decide +kernel) ⟨(Nat.le_of_ble_eq_true rfl), (Nat.le_of_ble_eq_true rfl)⟩) [0, 1, 2, 3] [] rfl (by decide) rfl (by decide) (by decide) 0 9 rfl rfl rfl (Nat.le_of_ble_eq_true rfl) rfl dX10_forge_28 ⟨(Nat.le_of_ble_eq_true rfl), (Nat.le_of_ble_eq_true rfl)⟩ (fun w1 hw1 => ?_)
    subst hw1
    refine x_ws (ws' := (W_X10 cI cZ h_p0 h_p0_lengths h_p0_codes h_p0_below p0_symbols p0_most v28.1 p0_inOrder p0_loaded p0_full n_p0_lengths p0_lengths n_p0_codes v28.2.1 n_p0_below v28.2.2)) [0, 1, 2, 3] (by decide) (by rfl) ?_
    exact w_X10_forge_31 S hK hA hend hWp  v28.1 p0_loaded p0_full v28.2.1 v28.2.2 h
  · refine x_aload_n S dX10_forge_20 rfl 0 rfl ?_
    obtain ⟨v21, h21, h⟩ := gbind h
    refine x_callVv S hK hA (c_X10_forgeInOrder l D cI cZ F h_p0 h_p0_lengths h_p0_codes h_p0_below p0_symbols p0_most (1 : Int32) p0_inOrder p0_loaded p0_full n_p0_lengths p0_lengths n_p0_codes p0_codes n_p0_below v5  v21 h21) (cwV 0 S.2.2.2.2 gX10_forge_X10_forgeInOrder rfl rfl rfl (by decide +kernel) ⟨(Nat.le_of_ble_eq_true rfl), (Nat.le_of_ble_eq_true rfl)⟩) [0, 1, 2, 3] [] rfl (by decide) rfl (by decide) (by decide) 0 9 rfl rfl rfl (Nat.le_of_ble_eq_true rfl) rfl dX10_forge_21 ⟨(Nat.le_of_ble_eq_true rfl), (Nat.le_of_ble_eq_true rfl)⟩ (fun w1 hw1 => ?_)
    subst hw1
    refine x_ws (ws' := (W_X10 cI cZ h_p0 h_p0_lengths h_p0_codes h_p0_below p0_symbols p0_most v21.1 p0_inOrder p0_loaded p0_full n_p0_lengths p0_lengths n_p0_codes v21.2.1 n_p0_below v21.2.2)) [0, 1, 2, 3] (by decide) (by rfl) ?_
    refine x_goto S 31 dX10_forge_24 (by decide) ?_
    exact w_X10_forge_31 S hK hA hend hWp  v21.1 p0_loaded p0_full v21.2.1 v21.2.2 h
noncomputable def fn_X10_forge (F : Nat) (p0_symbols : Int32) (p0_most : Int32) (p0_inOrder : Int32) (n_p0_lengths : Nat) (p0_lengths : Nat → Int32) (n_p0_codes : Nat) (n_p0_below : Nat) (p0_nodes : Int32) (p0_loaded : Int32) (p0_full : Int32) (p0_codes : Nat → Int32) (p0_below : Nat → Int32)  : Option (Int32 × Int32 × Int32 × (Nat → Int32) × (Nat → Int32)) :=
  bf_X10_forge_0 F p0_symbols p0_most p0_inOrder n_p0_lengths p0_lengths n_p0_codes n_p0_below p0_nodes p0_loaded p0_full p0_codes p0_below
set_option maxRecDepth 100000 in
set_option maxHeartbeats 4000000 in
theorem c_X10_forge (l : Launch) (D : va_G) (cI cZ : ClassId) (F : Nat) (h_p0 h_p0_lengths h_p0_codes h_p0_below : Nat) (p0_symbols : Int32) (p0_most : Int32) (p0_nodes : Int32) (p0_inOrder : Int32) (p0_loaded : Int32) (p0_full : Int32) (n_p0_lengths : Nat) (p0_lengths : Nat → Int32) (n_p0_codes : Nat) (p0_codes : Nat → Int32) (n_p0_below : Nat) (p0_below : Nat → Int32)  (r : Int32 × Int32 × Int32 × (Nat → Int32) × (Nat → Int32)) (h : fn_X10_forge F p0_symbols p0_most p0_inOrder n_p0_lengths p0_lengths n_p0_codes n_p0_below p0_nodes p0_loaded p0_full p0_codes p0_below = some r) : Cv l yX10_forge wsX10_forge ({ frames := 4, cells := 0, slots := 0, locals := 93 } : Room) D vwCl [(cI, .int), (cZ, .boolean)] [.ref h_p0] (W_X10 cI cZ h_p0 h_p0_lengths h_p0_codes h_p0_below p0_symbols p0_most p0_nodes p0_inOrder p0_loaded p0_full n_p0_lengths p0_lengths n_p0_codes p0_codes n_p0_below p0_below) (fun w => w = (W_X10 cI cZ h_p0 h_p0_lengths h_p0_codes h_p0_below p0_symbols p0_most r.1 p0_inOrder r.2.1 r.2.2.1 n_p0_lengths p0_lengths n_p0_codes r.2.2.2.1 n_p0_below r.2.2.2.2)) 0 0 :=
  Cv.ofv (by decide) rfl (Nat.le_of_ble_eq_true rfl) (fun p e s m args below meth c Q A S hK hA hname hend => w_X10_forge_0 S hK hA hend rfl p0_nodes p0_loaded p0_full p0_codes p0_below h)
end

/-! ===== PrefixSmith$Table.step(II)I ===== -/
theorem i_X10_step_X10 : ∀ w ∈ u_ws RX10 TX10 9, w ∈ wsX10_step := by decide +kernel
theorem k_X10_step_25 : Cond.fieldLink RX10 25 "PrefixSmith$Table" "below" "[I" ∈ wsX10_step := by decide +kernel
section
variable {p : Program} {l : Launch} {e : Env} {s : State} {m : MethodId} {args : Array Value} {below : List Frame} {meth : Method} {c : Code} {Q : State → Prop} {D : va_G} {A : Nat → Prop} {cI cZ : ClassId}
noncomputable def bf_X10_step_0 (F : Nat) (n_p0_below : Nat) (p0_below : Nat → Int32)  (x1 : Int32) (x2 : Int32) : Option (Int32) :=
  (if (((2 : Int32) * x1) + x2) < 0 then some ((0 : Int32)) else (if (nI n_p0_below) ≤ (((2 : Int32) * x1) + x2) then some ((0 : Int32)) else (if (((2 : Int32) * x1) + x2) < 0 ∨ n_p0_below ≤ ((((2 : Int32) * x1) + x2)).toNatClampNeg then none else some (p0_below ((((2 : Int32) * x1) + x2)).toNatClampNeg))))
set_option maxRecDepth 100000 in
set_option maxHeartbeats 4000000 in
theorem w_X10_step_0 (S : CallFix p m c cX10_step 4 s args wsX10_step RX10) (hK : K_ D vwCl [(cI, .int), (cZ, .boolean)] s) (hA : ∀ q, s.heap.size ≤ q → A q) {F : Nat} {p0_symbols : Int32} {p0_most : Int32} {p0_nodes : Int32} {p0_inOrder : Int32} {p0_loaded : Int32} {p0_full : Int32} {n_p0_lengths : Nat} {p0_lengths : Nat → Int32} {n_p0_codes : Nat} {p0_codes : Nat → Int32} {n_p0_below : Nat} {p0_below : Nat → Int32} {h_p0 h_p0_lengths h_p0_codes h_p0_below : Nat} {r : Int32} {Wp : va_W → Prop} (hend : ∀ (w1 : va_W) (pc : Nat) (lv : List (Nat × Value)), Wp w1 → decode cX10_step pc = .ok (.ireturn, 1) → X_ p l e ({ frames := 0, cells := 0, slots := 0, locals := 0 } : Room) s m args below meth c Q D vwCl A 4 0 0 w1 lv pc [.int r]) (hWp : Wp (W_X10 cI cZ h_p0 h_p0_lengths h_p0_codes h_p0_below p0_symbols p0_most p0_nodes p0_inOrder p0_loaded p0_full n_p0_lengths p0_lengths n_p0_codes p0_codes n_p0_below p0_below))   : ∀ (x1 : Int32) (x2 : Int32), bf_X10_step_0 F n_p0_below p0_below x1 x2 = some r → X_ p l e ({ frames := 0, cells := 0, slots := 0, locals := 0 } : Room) s m args below meth c Q D vwCl A 4 0 0 (W_X10 cI cZ h_p0 h_p0_lengths h_p0_codes h_p0_below p0_symbols p0_most p0_nodes p0_inOrder p0_loaded p0_full n_p0_lengths p0_lengths n_p0_codes p0_codes n_p0_below p0_below) [(0, .ref h_p0), (1, .int x1), (2, .int x2)] 0 [] := by
  intro x1 x2 h
  unfold bf_X10_step_0 at h
  refine x_iconst (v := 2) S dX10_step_0 (by decide) ?_
  refine x_iload_n S dX10_step_1 rfl 1 rfl ?_
  refine x_imul S dX10_step_2 ?_
  refine x_iload_n S dX10_step_3 rfl 2 rfl ?_
  refine x_iadd S dX10_step_4 ?_
  refine x_istore_n (lv' := [(3, .int (((2 : Int32) * x1) + x2)), (0, .ref h_p0), (1, .int x1), (2, .int x2)]) S dX10_step_5 rfl (by decide) rfl ?_
  refine x_iload_n S dX10_step_6 rfl 0 rfl ?_
  refine x_if_lt S 28 dX10_step_7 (by decide) h (fun h => ?_) (fun h => ?_)
  · refine x_iconst (v := 0) S dX10_step_28 (by decide) ?_
    obtain rfl := Option.some.inj h
    exact hend _ _ _ hWp dX10_step_29
  · refine x_iload_n S dX10_step_10 rfl 0 rfl ?_
    refine x_aload_n S dX10_step_11 rfl 1 rfl ?_
    refine x_get S hK i_X10_step_X10 0 rfl rfl 4 (by decide) k_X10_step_25 rfl rfl dX10_step_12 ?_
    refine x_alen S hK 3 0 rfl rfl dX10_step_15 ?_
    refine x_icmp_ge S 28 dX10_step_16 (by decide) h (fun h => ?_) (fun h => ?_)
    · refine x_iconst (v := 0) S dX10_step_28 (by decide) ?_
      obtain rfl := Option.some.inj h
      exact hend _ _ _ hWp dX10_step_29
    · refine x_aload_n S dX10_step_19 rfl 1 rfl ?_
      refine x_get S hK i_X10_step_X10 0 rfl rfl 4 (by decide) k_X10_step_25 rfl rfl dX10_step_20 ?_
      refine x_iload_n S dX10_step_23 rfl 0 rfl ?_
      refine x_iald S hK 3 0 rfl rfl dX10_step_24 h (fun h => ?_)
      refine x_goto S 29 dX10_step_25 (by decide) ?_
      obtain rfl := Option.some.inj h
      exact hend _ _ _ hWp dX10_step_29
noncomputable def fn_X10_step (F : Nat) (n_p0_below : Nat) (p0_below : Nat → Int32) (x1 : Int32) (x2 : Int32) : Option (Int32) :=
  bf_X10_step_0 F n_p0_below p0_below x1 x2
set_option maxRecDepth 100000 in
set_option maxHeartbeats 4000000 in
theorem c_X10_step (l : Launch) (D : va_G) (cI cZ : ClassId) (F : Nat) (h_p0 h_p0_lengths h_p0_codes h_p0_below : Nat) (p0_symbols : Int32) (p0_most : Int32) (p0_nodes : Int32) (p0_inOrder : Int32) (p0_loaded : Int32) (p0_full : Int32) (n_p0_lengths : Nat) (p0_lengths : Nat → Int32) (n_p0_codes : Nat) (p0_codes : Nat → Int32) (n_p0_below : Nat) (p0_below : Nat → Int32) (x1 : Int32) (x2 : Int32) (r : Int32) (h : fn_X10_step F n_p0_below p0_below x1 x2 = some r) : Ci l yX10_step wsX10_step ({ frames := 0, cells := 0, slots := 0, locals := 0 } : Room) D vwCl [(cI, .int), (cZ, .boolean)] [.ref h_p0, .int x1, .int x2] (W_X10 cI cZ h_p0 h_p0_lengths h_p0_codes h_p0_below p0_symbols p0_most p0_nodes p0_inOrder p0_loaded p0_full n_p0_lengths p0_lengths n_p0_codes p0_codes n_p0_below p0_below) r (fun w => w = (W_X10 cI cZ h_p0 h_p0_lengths h_p0_codes h_p0_below p0_symbols p0_most p0_nodes p0_inOrder p0_loaded p0_full n_p0_lengths p0_lengths n_p0_codes p0_codes n_p0_below p0_below)) 0 0 :=
  Ci.ofi (by decide) rfl (Nat.le_of_ble_eq_true rfl) (fun p e s m args below meth c Q A S hK hA hname hend => w_X10_step_0 S hK hA hend rfl x1 x2 h)
end
