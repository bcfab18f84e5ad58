/-! ===== PrefixSmith$Halves.middle(LPrefixSmith$Leaves;II)I ===== -/
abbrev W_X1_X3 (cI cZ : ClassId) (h_p0 h_p0_partStart h_p0_partEnd h_p1 h_p1_symbol h_p1_weight h_p1_depth h_p1_line : Nat) (p0_parts : Int32) (n_p0_partStart : Nat) (p0_partStart : Nat → Int32) (n_p0_partEnd : Nat) (p0_partEnd : Nat → Int32) (p1_size : Int32) (n_p1_symbol : Nat) (p1_symbol : Nat → Int32) (n_p1_weight : Nat) (p1_weight : Nat → Int32) (n_p1_depth : Nat) (p1_depth : Nat → Int32) (n_p1_line : Nat) (p1_line : Nat → Int32) : va_W := [(h_p0, .inr (1, [.ref h_p0_partStart, .ref h_p0_partEnd, .int p0_parts])), (h_p0_partStart, .inl (cI, n_p0_partStart, .inl p0_partStart)), (h_p0_partEnd, .inl (cI, n_p0_partEnd, .inl p0_partEnd)), (h_p1, .inr (3, [.ref h_p1_symbol, .ref h_p1_weight, .ref h_p1_depth, .ref h_p1_line, .int p1_size])), (h_p1_symbol, .inl (cI, n_p1_symbol, .inl p1_symbol)), (h_p1_weight, .inl (cI, n_p1_weight, .inl p1_weight)), (h_p1_depth, .inl (cI, n_p1_depth, .inl p1_depth)), (h_p1_line, .inl (cI, n_p1_line, .inl p1_line))]
theorem i_X1_middle_X3 : ∀ w ∈ u_ws RX3 TX3 5, w ∈ wsX1_middle := by decide +kernel
section
variable {p : Program} {l : Launch} {e : Env} {s : State} {m : MethodId} {args : Array Value} {below : List Frame} {meth : Method} {c : Code} {Q : State → Prop} {D : va_G} {A : Nat → Prop} {cI cZ : ClassId}
noncomputable def bf_X1_middle_53 (F : Nat) (n_p1_weight : Nat) (p1_weight : Nat → Int32) (n_p1_line : Nat) (p1_line : Nat → Int32) (rec53 : Int32 → Int32 → Int32 → Int32 → Option (Int32)) (x3 : Int32) (x4 : Int32) (x5 : Int32) (x6 : Int32) : Option (Int32) :=
  (if x4 ≤ ((2 : Int32) * x6) then some (x5) else (if (x3 - (1 : Int32)) ≤ x5 then some (x5) else (if x5 < 0 ∨ n_p1_line ≤ (x5).toNatClampNeg then none else (if (p1_line (x5).toNatClampNeg) < 0 ∨ n_p1_weight ≤ ((p1_line (x5).toNatClampNeg)).toNatClampNeg then none else rec53 x3 x4 (x5 + (1 : Int32)) (x6 + (p1_weight ((p1_line (x5).toNatClampNeg)).toNatClampNeg))))))
set_option maxRecDepth 100000 in
set_option maxHeartbeats 4000000 in
theorem w_X1_middle_53 (S : CallFix p m c cX1_middle 7 s args wsX1_middle RX1) (hK : K_ D vwCl [(cI, .int), (cZ, .boolean)] s) (hA : ∀ q, s.heap.size ≤ q → A q) {F : Nat} {p0_parts : Int32} {n_p0_partStart : Nat} {p0_partStart : Nat → Int32} {n_p0_partEnd : Nat} {p0_partEnd : Nat → Int32} {p1_size : Int32} {n_p1_symbol : Nat} {p1_symbol : Nat → Int32} {n_p1_weight : Nat} {p1_weight : Nat → Int32} {n_p1_depth : Nat} {p1_depth : Nat → Int32} {n_p1_line : Nat} {p1_line : Nat → Int32} {h_p0 h_p1 h_p0_partStart h_p0_partEnd h_p1_symbol h_p1_weight h_p1_depth h_p1_line : Nat} {r : Int32} {Wp : va_W → Prop} (hend : ∀ (w1 : va_W) (pc : Nat) (lv : List (Nat × Value)), Wp w1 → decode cX1_middle pc = .ok (.ireturn, 1) → X_ p l e ({ frames := 0, cells := 0, slots := 0, locals := 0 } : Room) s m args below meth c Q D vwCl A 7 0 0 w1 lv pc [.int r]) (hWp : Wp (W_X1_X3 cI cZ h_p0 h_p0_partStart h_p0_partEnd h_p1 h_p1_symbol h_p1_weight h_p1_depth h_p1_line p0_parts n_p0_partStart p0_partStart n_p0_partEnd p0_partEnd p1_size n_p1_symbol p1_symbol n_p1_weight p1_weight n_p1_depth p1_depth n_p1_line p1_line)) {rec53 : Int32 → Int32 → Int32 → Int32 → Option (Int32)} (hrec53 : ∀ (x3 : Int32) (x4 : Int32) (x5 : Int32) (x6 : Int32), rec53 x3 x4 x5 x6 = some r → X_ p l e ({ frames := 0, cells := 0, slots := 0, locals := 0 } : Room) s m args below meth c Q D vwCl A 7 0 0 (W_X1_X3 cI cZ h_p0 h_p0_partStart h_p0_partEnd h_p1 h_p1_symbol h_p1_weight h_p1_depth h_p1_line p0_parts n_p0_partStart p0_partStart n_p0_partEnd p0_partEnd p1_size n_p1_symbol p1_symbol n_p1_weight p1_weight n_p1_depth p1_depth n_p1_line p1_line) [(1, .ref h_p1), (3, .int x3), (4, .int x4), (5, .int x5), (6, .int x6)] 53 []) : ∀ (x3 : Int32) (x4 : Int32) (x5 : Int32) (x6 : Int32), bf_X1_middle_53 F n_p1_weight p1_weight n_p1_line p1_line rec53 x3 x4 x5 x6 = some r → X_ p l e ({ frames := 0, cells := 0, slots := 0, locals := 0 } : Room) s m args below meth c Q D vwCl A 7 0 0 (W_X1_X3 cI cZ h_p0 h_p0_partStart h_p0_partEnd h_p1 h_p1_symbol h_p1_weight h_p1_depth h_p1_line p0_parts n_p0_partStart p0_partStart n_p0_partEnd p0_partEnd p1_size n_p1_symbol p1_symbol n_p1_weight p1_weight n_p1_depth p1_depth n_p1_line p1_line) [(1, .ref h_p1), (3, .int x3), (4, .int x4), (5, .int x5), (6, .int x6)] 53 [] := by
  intro x3 x4 x5 x6 h
  unfold bf_X1_middle_53 at h
  refine x_iconst (v := 2) S dX1_middle_53 (by decide) ?_
  refine x_iload S dX1_middle_54 4 rfl ?_
  refine x_imul S dX1_middle_56 ?_
  refine x_iload S dX1_middle_57 2 rfl ?_
  refine x_icmp_ge S 93 dX1_middle_59 (by decide) h (fun h => ?_) (fun h => ?_)
  · refine x_iload S dX1_middle_93 3 rfl ?_
    obtain rfl := Option.some.inj h
    exact hend _ _ _ hWp dX1_middle_95
  · refine x_iload S dX1_middle_62 3 rfl ?_
    refine x_iload_n S dX1_middle_64 rfl 1 rfl ?_
    refine x_iconst (v := 1) S dX1_middle_65 (by decide) ?_
    refine x_isub S dX1_middle_66 ?_
    refine x_icmp_ge S 93 dX1_middle_67 (by decide) h (fun h => ?_) (fun h => ?_)
    · refine x_iload S dX1_middle_93 3 rfl ?_
      obtain rfl := Option.some.inj h
      exact hend _ _ _ hWp dX1_middle_95
    · refine x_iload S dX1_middle_70 4 rfl ?_
      refine x_aload_n S dX1_middle_72 rfl 0 rfl ?_
      refine x_getN S hK i_X1_middle_X3 3 rfl rfl 1 (by decide) nf_X1_19 rfl rfl dX1_middle_73 ?_
      refine x_aload_n S dX1_middle_76 rfl 0 rfl ?_
      refine x_getN S hK i_X1_middle_X3 3 rfl rfl 3 (by decide) nf_X1_23 rfl rfl dX1_middle_77 ?_
      refine x_iload S dX1_middle_80 3 rfl ?_
      refine x_iald S hK 7 0 rfl rfl dX1_middle_82 h (fun h => ?_)
      refine x_iald S hK 5 0 rfl rfl dX1_middle_83 h (fun h => ?_)
      refine x_iadd S dX1_middle_84 ?_
      refine x_istore (lv' := [(6, .int (x6 + (p1_weight ((p1_line (x5).toNatClampNeg)).toNatClampNeg))), (1, .ref h_p1), (3, .int x3), (4, .int x4), (5, .int x5)]) S dX1_middle_85 (by decide) rfl ?_
      refine x_iinc (v := x5 + (1 : Int32)) (lv' := [(5, .int (x5 + (1 : Int32))), (6, .int (x6 + (p1_weight ((p1_line (x5).toNatClampNeg)).toNatClampNeg))), (1, .ref h_p1), (3, .int x3), (4, .int x4)]) S dX1_middle_87 4 rfl rfl (by decide) rfl ?_
      refine x_goto S 53 dX1_middle_90 (by decide) ?_
      refine x_lv [2, 3, 4, 0, 1] (by rfl) ?_
      exact hrec53 x3 x4 (x5 + (1 : Int32)) (x6 + (p1_weight ((p1_line (x5).toNatClampNeg)).toNatClampNeg)) h
noncomputable def lf_X1_middle_53 (F : Nat) (n_p1_weight : Nat) (p1_weight : Nat → Int32) (n_p1_line : Nat) (p1_line : Nat → Int32)  (k : Nat) (x3 : Int32) (x4 : Int32) (x5 : Int32) (x6 : Int32) : Option (Int32) :=
  lp (fun (rec : Int32 × Int32 × Int32 × Int32 → Option (Int32)) (z : Int32 × Int32 × Int32 × Int32) => bf_X1_middle_53 F n_p1_weight p1_weight n_p1_line p1_line (fun x3 x4 x5 x6 => rec (x3, x4, x5, x6)) z.1 z.2.1 z.2.2.1 z.2.2.2) k (x3, x4, x5, x6)
set_option maxRecDepth 100000 in
set_option maxHeartbeats 4000000 in
theorem wl_X1_middle_53 (S : CallFix p m c cX1_middle 7 s args wsX1_middle RX1) (hK : K_ D vwCl [(cI, .int), (cZ, .boolean)] s) (hA : ∀ q, s.heap.size ≤ q → A q) {F : Nat} {p0_parts : Int32} {n_p0_partStart : Nat} {p0_partStart : Nat → Int32} {n_p0_partEnd : Nat} {p0_partEnd : Nat → Int32} {p1_size : Int32} {n_p1_symbol : Nat} {p1_symbol : Nat → Int32} {n_p1_weight : Nat} {p1_weight : Nat → Int32} {n_p1_depth : Nat} {p1_depth : Nat → Int32} {n_p1_line : Nat} {p1_line : Nat → Int32} {h_p0 h_p1 h_p0_partStart h_p0_partEnd h_p1_symbol h_p1_weight h_p1_depth h_p1_line : Nat} {r : Int32} {Wp : va_W → Prop} (hend : ∀ (w1 : va_W) (pc : Nat) (lv : List (Nat × Value)), Wp w1 → decode cX1_middle pc = .ok (.ireturn, 1) → X_ p l e ({ frames := 0, cells := 0, slots := 0, locals := 0 } : Room) s m args below meth c Q D vwCl A 7 0 0 w1 lv pc [.int r]) (hWp : Wp (W_X1_X3 cI cZ h_p0 h_p0_partStart h_p0_partEnd h_p1 h_p1_symbol h_p1_weight h_p1_depth h_p1_line p0_parts n_p0_partStart p0_partStart n_p0_partEnd p0_partEnd p1_size n_p1_symbol p1_symbol n_p1_weight p1_weight n_p1_depth p1_depth n_p1_line p1_line))   (k : Nat) : ∀ (x3 : Int32) (x4 : Int32) (x5 : Int32) (x6 : Int32), lf_X1_middle_53 F n_p1_weight p1_weight n_p1_line p1_line k x3 x4 x5 x6 = some r → X_ p l e ({ frames := 0, cells := 0, slots := 0, locals := 0 } : Room) s m args below meth c Q D vwCl A 7 0 0 (W_X1_X3 cI cZ h_p0 h_p0_partStart h_p0_partEnd h_p1 h_p1_symbol h_p1_weight h_p1_depth h_p1_line p0_parts n_p0_partStart p0_partStart n_p0_partEnd p0_partEnd p1_size n_p1_symbol p1_symbol n_p1_weight p1_weight n_p1_depth p1_depth n_p1_line p1_line) [(1, .ref h_p1), (3, .int x3), (4, .int x4), (5, .int x5), (6, .int x6)] 53 [] := by
  intro x3 x4 x5 x6 h
  exact lp_W (P := fun z => X_ p l e ({ frames := 0, cells := 0, slots := 0, locals := 0 } : Room) s m args below meth c Q D vwCl A 7 0 0 (W_X1_X3 cI cZ h_p0 h_p0_partStart h_p0_partEnd h_p1 h_p1_symbol h_p1_weight h_p1_depth h_p1_line p0_parts n_p0_partStart p0_partStart n_p0_partEnd p0_partEnd p1_size n_p1_symbol p1_symbol n_p1_weight p1_weight n_p1_depth p1_depth n_p1_line p1_line) [(1, .ref h_p1), (3, .int z.1), (4, .int z.2.1), (5, .int z.2.2.1), (6, .int z.2.2.2)] 53 []) (fun rec ih z hz => w_X1_middle_53 S hK hA hend hWp (fun x3 x4 x5 x6 hh => ih (x3, x4, x5, x6) hh)  z.1 z.2.1 z.2.2.1 z.2.2.2 hz) k (x3, x4, x5, x6) h 
noncomputable def bf_X1_middle_6 (F : Nat) (n_p1_weight : Nat) (p1_weight : Nat → Int32) (n_p1_line : Nat) (p1_line : Nat → Int32) (rec6 : Int32 → Int32 → Int32 → Int32 → Option (Int32)) (x2 : Int32) (x3 : Int32) (x4 : Int32) (x5 : Int32) : Option (Int32) :=
  (if x3 ≤ x5 then (if x2 < 0 ∨ n_p1_line ≤ (x2).toNatClampNeg then none else (if (p1_line (x2).toNatClampNeg) < 0 ∨ n_p1_weight ≤ ((p1_line (x2).toNatClampNeg)).toNatClampNeg then none else lf_X1_middle_53 F n_p1_weight p1_weight n_p1_line p1_line F x3 x4 (x2 + (1 : Int32)) (p1_weight ((p1_line (x2).toNatClampNeg)).toNatClampNeg))) else (if x5 < 0 ∨ n_p1_line ≤ (x5).toNatClampNeg then none else (if (p1_line (x5).toNatClampNeg) < 0 ∨ n_p1_weight ≤ ((p1_line (x5).toNatClampNeg)).toNatClampNeg then none else rec6 x2 x3 (x4 + (p1_weight ((p1_line (x5).toNatClampNeg)).toNatClampNeg)) (x5 + (1 : Int32)))))
set_option maxRecDepth 100000 in
set_option maxHeartbeats 4000000 in
theorem w_X1_middle_6 (S : CallFix p m c cX1_middle 7 s args wsX1_middle RX1) (hK : K_ D vwCl [(cI, .int), (cZ, .boolean)] s) (hA : ∀ q, s.heap.size ≤ q → A q) {F : Nat} {p0_parts : Int32} {n_p0_partStart : Nat} {p0_partStart : Nat → Int32} {n_p0_partEnd : Nat} {p0_partEnd : Nat → Int32} {p1_size : Int32} {n_p1_symbol : Nat} {p1_symbol : Nat → Int32} {n_p1_weight : Nat} {p1_weight : Nat → Int32} {n_p1_depth : Nat} {p1_depth : Nat → Int32} {n_p1_line : Nat} {p1_line : Nat → Int32} {h_p0 h_p1 h_p0_partStart h_p0_partEnd h_p1_symbol h_p1_weight h_p1_depth h_p1_line : Nat} {r : Int32} {Wp : va_W → Prop} (hend : ∀ (w1 : va_W) (pc : Nat) (lv : List (Nat × Value)), Wp w1 → decode cX1_middle pc = .ok (.ireturn, 1) → X_ p l e ({ frames := 0, cells := 0, slots := 0, locals := 0 } : Room) s m args below meth c Q D vwCl A 7 0 0 w1 lv pc [.int r]) (hWp : Wp (W_X1_X3 cI cZ h_p0 h_p0_partStart h_p0_partEnd h_p1 h_p1_symbol h_p1_weight h_p1_depth h_p1_line p0_parts n_p0_partStart p0_partStart n_p0_partEnd p0_partEnd p1_size n_p1_symbol p1_symbol n_p1_weight p1_weight n_p1_depth p1_depth n_p1_line p1_line)) {rec6 : Int32 → Int32 → Int32 → Int32 → Option (Int32)} (hrec6 : ∀ (x2 : Int32) (x3 : Int32) (x4 : Int32) (x5 : Int32), rec6 x2 x3 x4 x5 = some r → X_ p l e ({ frames := 0, cells := 0, slots := 0, locals := 0 } : Room) s m args below meth c Q D vwCl A 7 0 0 (W_X1_X3 cI cZ h_p0 h_p0_partStart h_p0_partEnd h_p1 h_p1_symbol h_p1_weight h_p1_depth h_p1_line p0_parts n_p0_partStart p0_partStart n_p0_partEnd p0_partEnd p1_size n_p1_symbol p1_symbol n_p1_weight p1_weight n_p1_depth p1_depth n_p1_line p1_line) [(1, .ref h_p1), (2, .int x2), (3, .int x3), (4, .int x4), (5, .int x5)] 6 []) : ∀ (x2 : Int32) (x3 : Int32) (x4 : Int32) (x5 : Int32), bf_X1_middle_6 F n_p1_weight p1_weight n_p1_line p1_line rec6 x2 x3 x4 x5 = some r → X_ p l e ({ frames := 0, cells := 0, slots := 0, locals := 0 } : Room) s m args below meth c Q D vwCl A 7 0 0 (W_X1_X3 cI cZ h_p0 h_p0_partStart h_p0_partEnd h_p1 h_p1_symbol h_p1_weight h_p1_depth h_p1_line p0_parts n_p0_partStart p0_partStart n_p0_partEnd p0_partEnd p1_size n_p1_symbol p1_symbol n_p1_weight p1_weight n_p1_depth p1_depth n_p1_line p1_line) [(1, .ref h_p1), (2, .int x2), (3, .int x3), (4, .int x4), (5, .int x5)] 6 [] := by
  intro x2 x3 x4 x5 h
  unfold bf_X1_middle_6 at h
  refine x_iload S dX1_middle_6 4 rfl ?_
  refine x_iload_n S dX1_middle_8 rfl 2 rfl ?_
  refine x_icmp_ge S 35 dX1_middle_9 (by decide) h (fun h => ?_) (fun h => ?_)
  · refine x_iload_n S dX1_middle_35 rfl 1 rfl ?_
    refine x_iconst (v := 1) S dX1_middle_36 (by decide) ?_
    refine x_iadd S dX1_middle_37 ?_
    refine x_istore (lv' := [(5, .int (x2 + (1 : Int32))), (1, .ref h_p1), (2, .int x2), (3, .int x3), (4, .int x4)]) S dX1_middle_38 (by decide) rfl ?_
    refine x_aload_n S dX1_middle_40 rfl 1 rfl ?_
    refine x_getN S hK i_X1_middle_X3 3 rfl rfl 1 (by decide) nf_X1_19 rfl rfl dX1_middle_41 ?_
    refine x_aload_n S dX1_middle_44 rfl 1 rfl ?_
    refine x_getN S hK i_X1_middle_X3 3 rfl rfl 3 (by decide) nf_X1_23 rfl rfl dX1_middle_45 ?_
    refine x_iload_n S dX1_middle_48 rfl 2 rfl ?_
    refine x_iald S hK 7 0 rfl rfl dX1_middle_49 h (fun h => ?_)
    refine x_iald S hK 5 0 rfl rfl dX1_middle_50 h (fun h => ?_)
    refine x_istore (lv' := [(6, .int (p1_weight ((p1_line (x2).toNatClampNeg)).toNatClampNeg)), (5, .int (x2 + (1 : Int32))), (1, .ref h_p1), (2, .int x2), (3, .int x3), (4, .int x4)]) S dX1_middle_51 (by decide) rfl ?_
    refine x_lv [2, 4, 5, 1, 0] (by rfl) ?_
    exact wl_X1_middle_53 S hK hA hend hWp  F x3 x4 (x2 + (1 : Int32)) (p1_weight ((p1_line (x2).toNatClampNeg)).toNatClampNeg) h
  · refine x_iload S dX1_middle_12 3 rfl ?_
    refine x_aload_n S dX1_middle_14 rfl 0 rfl ?_
    refine x_getN S hK i_X1_middle_X3 3 rfl rfl 1 (by decide) nf_X1_19 rfl rfl dX1_middle_15 ?_
    refine x_aload_n S dX1_middle_18 rfl 0 rfl ?_
    refine x_getN S hK i_X1_middle_X3 3 rfl rfl 3 (by decide) nf_X1_23 rfl rfl dX1_middle_19 ?_
    refine x_iload S dX1_middle_22 4 rfl ?_
    refine x_iald S hK 7 0 rfl rfl dX1_middle_24 h (fun h => ?_)
    refine x_iald S hK 5 0 rfl rfl dX1_middle_25 h (fun h => ?_)
    refine x_iadd S dX1_middle_26 ?_
    refine x_istore (lv' := [(4, .int (x4 + (p1_weight ((p1_line (x5).toNatClampNeg)).toNatClampNeg))), (1, .ref h_p1), (2, .int x2), (3, .int x3), (5, .int x5)]) S dX1_middle_27 (by decide) rfl ?_
    refine x_iinc (v := x5 + (1 : Int32)) (lv' := [(5, .int (x5 + (1 : Int32))), (4, .int (x4 + (p1_weight ((p1_line (x5).toNatClampNeg)).toNatClampNeg))), (1, .ref h_p1), (2, .int x2), (3, .int x3)]) S dX1_middle_29 4 rfl rfl (by decide) rfl ?_
    refine x_goto S 6 dX1_middle_32 (by decide) ?_
    refine x_lv [2, 3, 4, 1, 0] (by rfl) ?_
    exact hrec6 x2 x3 (x4 + (p1_weight ((p1_line (x5).toNatClampNeg)).toNatClampNeg)) (x5 + (1 : Int32)) h
noncomputable def lf_X1_middle_6 (F : Nat) (n_p1_weight : Nat) (p1_weight : Nat → Int32) (n_p1_line : Nat) (p1_line : Nat → Int32)  (k : Nat) (x2 : Int32) (x3 : Int32) (x4 : Int32) (x5 : Int32) : Option (Int32) :=
  lp (fun (rec : Int32 × Int32 × Int32 × Int32 → Option (Int32)) (z : Int32 × Int32 × Int32 × Int32) => bf_X1_middle_6 F n_p1_weight p1_weight n_p1_line p1_line (fun x2 x3 x4 x5 => rec (x2, x3, x4, x5)) z.1 z.2.1 z.2.2.1 z.2.2.2) k (x2, x3, x4, x5)
set_option maxRecDepth 100000 in
set_option maxHeartbeats 4000000 in
theorem wl_X1_middle_6 (S : CallFix p m c cX1_middle 7 s args wsX1_middle RX1) (hK : K_ D vwCl [(cI, .int), (cZ, .boolean)] s) (hA : ∀ q, s.heap.size ≤ q → A q) {F : Nat} {p0_parts : Int32} {n_p0_partStart : Nat} {p0_partStart : Nat → Int32} {n_p0_partEnd : Nat} {p0_partEnd : Nat → Int32} {p1_size : Int32} {n_p1_symbol : Nat} {p1_symbol : Nat → Int32} {n_p1_weight : Nat} {p1_weight : Nat → Int32} {n_p1_depth : Nat} {p1_depth : Nat → Int32} {n_p1_line : Nat} {p1_line : Nat → Int32} {h_p0 h_p1 h_p0_partStart h_p0_partEnd h_p1_symbol h_p1_weight h_p1_depth h_p1_line : Nat} {r : Int32} {Wp : va_W → Prop} (hend : ∀ (w1 : va_W) (pc : Nat) (lv : List (Nat × Value)), Wp w1 → decode cX1_middle pc = .ok (.ireturn, 1) → X_ p l e ({ frames := 0, cells := 0, slots := 0, locals := 0 } : Room) s m args below meth c Q D vwCl A 7 0 0 w1 lv pc [.int r]) (hWp : Wp (W_X1_X3 cI cZ h_p0 h_p0_partStart h_p0_partEnd h_p1 h_p1_symbol h_p1_weight h_p1_depth h_p1_line p0_parts n_p0_partStart p0_partStart n_p0_partEnd p0_partEnd p1_size n_p1_symbol p1_symbol n_p1_weight p1_weight n_p1_depth p1_depth n_p1_line p1_line))   (k : Nat) : ∀ (x2 : Int32) (x3 : Int32) (x4 : Int32) (x5 : Int32), lf_X1_middle_6 F n_p1_weight p1_weight n_p1_line p1_line k x2 x3 x4 x5 = some r → X_ p l e ({ frames := 0, cells := 0, slots := 0, locals := 0 } : Room) s m args below meth c Q D vwCl A 7 0 0 (W_X1_X3 cI cZ h_p0 h_p0_partStart h_p0_partEnd h_p1 h_p1_symbol h_p1_weight h_p1_depth h_p1_line p0_parts n_p0_partStart p0_partStart n_p0_partEnd p0_partEnd p1_size n_p1_symbol p1_symbol n_p1_weight p1_weight n_p1_depth p1_depth n_p1_line p1_line) [(1, .ref h_p1), (2, .int x2), (3, .int x3), (4, .int x4), (5, .int x5)] 6 [] := by
  intro x2 x3 x4 x5 h
  exact lp_W (P := fun z => X_ p l e ({ frames := 0, cells := 0, slots := 0, locals := 0 } : Room) s m args below meth c Q D vwCl A 7 0 0 (W_X1_X3 cI cZ h_p0 h_p0_partStart h_p0_partEnd h_p1 h_p1_symbol h_p1_weight h_p1_depth h_p1_line p0_parts n_p0_partStart p0_partStart n_p0_partEnd p0_partEnd p1_size n_p1_symbol p1_symbol n_p1_weight p1_weight n_p1_depth p1_depth n_p1_line p1_line) [(1, .ref h_p1), (2, .int z.1), (3, .int z.2.1), (4, .int z.2.2.1), (5, .int z.2.2.2)] 6 []) (fun rec ih z hz => w_X1_middle_6 S hK hA hend hWp (fun x2 x3 x4 x5 hh => ih (x2, x3, x4, x5) hh)  z.1 z.2.1 z.2.2.1 z.2.2.2 hz) k (x2, x3, x4, x5) h 
noncomputable def bf_X1_middle_0 (F : Nat) (n_p1_weight : Nat) (p1_weight : Nat → Int32) (n_p1_line : Nat) (p1_line : Nat → Int32)  (x2 : Int32) (x3 : Int32) : Option (Int32) :=
  lf_X1_middle_6 F n_p1_weight p1_weight n_p1_line p1_line F x2 x3 (0 : Int32) x2
set_option maxRecDepth 100000 in
set_option maxHeartbeats 4000000 in
theorem w_X1_middle_0 (S : CallFix p m c cX1_middle 7 s args wsX1_middle RX1) (hK : K_ D vwCl [(cI, .int), (cZ, .boolean)] s) (hA : ∀ q, s.heap.size ≤ q → A q) {F : Nat} {p0_parts : Int32} {n_p0_partStart : Nat} {p0_partStart : Nat → Int32} {n_p0_partEnd : Nat} {p0_partEnd : Nat → Int32} {p1_size : Int32} {n_p1_symbol : Nat} {p1_symbol : Nat → Int32} {n_p1_weight : Nat} {p1_weight : Nat → Int32} {n_p1_depth : Nat} {p1_depth : Nat → Int32} {n_p1_line : Nat} {p1_line : Nat → Int32} {h_p0 h_p1 h_p0_partStart h_p0_partEnd h_p1_symbol h_p1_weight h_p1_depth h_p1_line : Nat} {r : Int32} {Wp : va_W → Prop} (hend : ∀ (w1 : va_W) (pc : Nat) (lv : List (Nat × Value)), Wp w1 → decode cX1_middle pc = .ok (.ireturn, 1) → X_ p l e ({ frames := 0, cells := 0, slots := 0, locals := 0 } : Room) s m args below meth c Q D vwCl A 7 0 0 w1 lv pc [.int r]) (hWp : Wp (W_X1_X3 cI cZ h_p0 h_p0_partStart h_p0_partEnd h_p1 h_p1_symbol h_p1_weight h_p1_depth h_p1_line p0_parts n_p0_partStart p0_partStart n_p0_partEnd p0_partEnd p1_size n_p1_symbol p1_symbol n_p1_weight p1_weight n_p1_depth p1_depth n_p1_line p1_line))   : ∀ (x2 : Int32) (x3 : Int32), bf_X1_middle_0 F n_p1_weight p1_weight n_p1_line p1_line x2 x3 = some r → X_ p l e ({ frames := 0, cells := 0, slots := 0, locals := 0 } : Room) s m args below meth c Q D vwCl A 7 0 0 (W_X1_X3 cI cZ h_p0 h_p0_partStart h_p0_partEnd h_p1 h_p1_symbol h_p1_weight h_p1_depth h_p1_line p0_parts n_p0_partStart p0_partStart n_p0_partEnd p0_partEnd p1_size n_p1_symbol p1_symbol n_p1_weight p1_weight n_p1_depth p1_depth n_p1_line p1_line) [(0, .ref h_p0), (1, .ref h_p1), (2, .int x2), (3, .int x3)] 0 [] := by
  intro x2 x3 h
  unfold bf_X1_middle_0 at h
  refine x_iconst (v := 0) S dX1_middle_0 (by decide) ?_
  refine x_istore (lv' := [(4, .int (0 : Int32)), (0, .ref h_p0), (1, .ref h_p1), (2, .int x2), (3, .int x3)]) S dX1_middle_1 (by decide) rfl ?_
  refine x_iload_n S dX1_middle_3 rfl 3 rfl ?_
  refine x_istore (lv' := [(5, .int x2), (4, .int (0 : Int32)), (0, .ref h_p0), (1, .ref h_p1), (2, .int x2), (3, .int x3)]) S dX1_middle_4 (by decide) rfl ?_
  refine x_lv [3, 4, 5, 1, 0] (by rfl) ?_
  exact wl_X1_middle_6 S hK hA hend hWp  F x2 x3 (0 : Int32) x2 h
noncomputable def fn_X1_middle (F : Nat) (n_p1_weight : Nat) (p1_weight : Nat → Int32) (n_p1_line : Nat) (p1_line : Nat → Int32) (x2 : Int32) (x3 : Int32) : Option (Int32) :=
  bf_X1_middle_0 F n_p1_weight p1_weight n_p1_line p1_line x2 x3
set_option maxRecDepth 100000 in
set_option maxHeartbeats 4000000 in
theorem c_X1_middle (l : Launch) (D : va_G) (cI cZ : ClassId) (F : Nat) (h_p0 h_p0_partStart h_p0_partEnd h_p1 h_p1_symbol h_p1_weight h_p1_depth h_p1_line : Nat) (p0_parts : Int32) (n_p0_partStart : Nat) (p0_partStart : Nat → Int32) (n_p0_partEnd : Nat) (p0_partEnd : Nat → Int32) (p1_size : Int32) (n_p1_symbol : Nat) (p1_symbol : Nat → Int32) (n_p1_weight : Nat) (p1_weight : Nat → Int32) (n_p1_depth : Nat) (p1_depth : Nat → Int32) (n_p1_line : Nat) (p1_line : Nat → Int32) (x2 : Int32) (x3 : Int32) (r : Int32) (h : fn_X1_middle F n_p1_weight p1_weight n_p1_line p1_line x2 x3 = some r) : Ci l yX1_middle wsX1_middle ({ frames := 0, cells := 0, slots := 0, locals := 0 } : Room) D vwCl [(cI, .int), (cZ, .boolean)] [.ref h_p0, .ref h_p1, .int x2, .int x3] (W_X1_X3 cI cZ h_p0 h_p0_partStart h_p0_partEnd h_p1 h_p1_symbol h_p1_weight h_p1_depth h_p1_line p0_parts n_p0_partStart p0_partStart n_p0_partEnd p0_partEnd p1_size n_p1_symbol p1_symbol n_p1_weight p1_weight n_p1_depth p1_depth n_p1_line p1_line) r (fun w => w = (W_X1_X3 cI cZ h_p0 h_p0_partStart h_p0_partEnd h_p1 h_p1_symbol h_p1_weight h_p1_depth h_p1_line p0_parts n_p0_partStart p0_partStart n_p0_partEnd p0_partEnd p1_size n_p1_symbol p1_symbol n_p1_weight p1_weight n_p1_depth p1_depth n_p1_line p1_line)) 0 0 :=
  Ci.ofi (by decide) rfl (Nat.le_of_ble_eq_true rfl) (fun p e s m args below meth c Q A S hK hA hname hend => w_X1_middle_0 S hK hA hend rfl x2 x3 h)
end

/-! ===== PrefixSmith$Parting.deepen(LPrefixSmith$Leaves;II)V ===== -/
theorem i_X7_deepen_X3 : ∀ w ∈ u_ws RX3 TX3 5, w ∈ wsX7_deepen := by decide +kernel
section
variable {p : Program} {l : Launch} {e : Env} {s : State} {m : MethodId} {args : Array Value} {below : List Frame} {meth : Method} {c : Code} {Q : State → Prop} {D : va_G} {A : Nat → Prop} {cI cZ : ClassId}
noncomputable def bf_X7_deepen_2 (F : Nat) (n_p0_depth : Nat) (n_p0_line : Nat) (p0_line : Nat → Int32) (rec2 : Int32 → Int32 → (Nat → Int32) → Option ((Nat → Int32))) (x2 : Int32) (x3 : Int32) (p0_depth : Nat → Int32) : Option ((Nat → Int32)) :=
  (if x2 ≤ x3 then some (p0_depth) else (if x3 < 0 ∨ n_p0_line ≤ (x3).toNatClampNeg then none else (if (p0_line (x3).toNatClampNeg) < 0 ∨ n_p0_depth ≤ ((p0_line (x3).toNatClampNeg)).toNatClampNeg then none else (if (p0_line (x3).toNatClampNeg) < 0 ∨ n_p0_depth ≤ ((p0_line (x3).toNatClampNeg)).toNatClampNeg then none else rec2 x2 (x3 + (1 : Int32)) (upd p0_depth ((p0_line (x3).toNatClampNeg)).toNatClampNeg ((p0_depth ((p0_line (x3).toNatClampNeg)).toNatClampNeg) + (1 : Int32)))))))
set_option maxRecDepth 100000 in
set_option maxHeartbeats 4000000 in
theorem w_X7_deepen_2 (S : CallFix p m c cX7_deepen 4 s args wsX7_deepen RX7) (hK : K_ D vwCl [(cI, .int), (cZ, .boolean)] s) (hA : ∀ q, s.heap.size ≤ q → A q) {F : Nat} {p0_size : Int32} {n_p0_symbol : Nat} {p0_symbol : Nat → Int32} {n_p0_weight : Nat} {p0_weight : Nat → Int32} {n_p0_depth : Nat} {n_p0_line : Nat} {p0_line : Nat → Int32} {h_p0 h_p0_symbol h_p0_weight h_p0_depth h_p0_line : Nat} {r : (Nat → Int32)} {Wp : va_W → Prop} (hend : ∀ (w1 : va_W) (pc : Nat) (lv : List (Nat × Value)), Wp w1 → decode cX7_deepen pc = .ok (.return_, 1) → X_ p l e ({ frames := 0, cells := 0, slots := 0, locals := 0 } : Room) s m args below meth c Q D vwCl A 4 0 0 w1 lv pc []) (hWp : Wp (W_X3 cI cZ h_p0 h_p0_symbol h_p0_weight h_p0_depth h_p0_line p0_size n_p0_symbol p0_symbol n_p0_weight p0_weight n_p0_depth r n_p0_line p0_line)) {rec2 : Int32 → Int32 → (Nat → Int32) → Option ((Nat → Int32))} (hrec2 : ∀ (x2 : Int32) (x3 : Int32) (p0_depth : Nat → Int32), rec2 x2 x3 p0_depth = some r → X_ p l e ({ frames := 0, cells := 0, slots := 0, locals := 0 } : Room) s m args below meth c Q D vwCl A 4 0 0 (W_X3 cI cZ h_p0 h_p0_symbol h_p0_weight h_p0_depth h_p0_line p0_size n_p0_symbol p0_symbol n_p0_weight p0_weight n_p0_depth p0_depth n_p0_line p0_line) [(0, .ref h_p0), (2, .int x2), (3, .int x3)] 2 []) : ∀ (x2 : Int32) (x3 : Int32) (p0_depth : Nat → Int32), bf_X7_deepen_2 F n_p0_depth n_p0_line p0_line rec2 x2 x3 p0_depth = some r → X_ p l e ({ frames := 0, cells := 0, slots := 0, locals := 0 } : Room) s m args below meth c Q D vwCl A 4 0 0 (W_X3 cI cZ h_p0 h_p0_symbol h_p0_weight h_p0_depth h_p0_line p0_size n_p0_symbol p0_symbol n_p0_weight p0_weight n_p0_depth p0_depth n_p0_line p0_line) [(0, .ref h_p0), (2, .int x2), (3, .int x3)] 2 [] := by
  intro x2 x3 p0_depth h
  unfold bf_X7_deepen_2 at h
  refine x_iload_n S dX7_deepen_2 rfl 2 rfl ?_
  refine x_iload_n S dX7_deepen_3 rfl 1 rfl ?_
  refine x_icmp_ge S 28 dX7_deepen_4 (by decide) h (fun h => ?_) (fun h => ?_)
  · obtain rfl := Option.some.inj h
    exact hend _ _ _ hWp dX7_deepen_28
  · refine x_aload_n S dX7_deepen_7 rfl 0 rfl ?_
    refine x_getN S hK i_X7_deepen_X3 0 rfl rfl 2 (by decide) nf_X7_16 rfl rfl dX7_deepen_8 ?_
    refine x_aload_n S dX7_deepen_11 rfl 0 rfl ?_
    refine x_getN S hK i_X7_deepen_X3 0 rfl rfl 3 (by decide) nf_X7_46 rfl rfl dX7_deepen_12 ?_
    refine x_iload_n S dX7_deepen_15 rfl 2 rfl ?_
    refine x_iald S hK 4 0 rfl rfl dX7_deepen_16 h (fun h => ?_)
    refine x_dup2 S dX7_deepen_17 rfl rfl ?_
    refine x_iald S hK 3 0 rfl rfl dX7_deepen_18 h (fun h => ?_)
    refine x_iconst (v := 1) S dX7_deepen_19 (by decide) ?_
    refine x_iadd S dX7_deepen_20 ?_
    refine x_iast S hK 3 0 rfl rfl dX7_deepen_21 h rfl (fun h => ?_)
    refine x_iinc (v := x3 + (1 : Int32)) (lv' := [(3, .int (x3 + (1 : Int32))), (0, .ref h_p0), (2, .int x2)]) S dX7_deepen_22 2 rfl rfl (by decide) rfl ?_
    refine x_goto S 2 dX7_deepen_25 (by decide) ?_
    refine x_lv [1, 2, 0] (by rfl) ?_
    exact hrec2 x2 (x3 + (1 : Int32)) (upd p0_depth ((p0_line (x3).toNatClampNeg)).toNatClampNeg ((p0_depth ((p0_line (x3).toNatClampNeg)).toNatClampNeg) + (1 : Int32))) h
noncomputable def lf_X7_deepen_2 (F : Nat) (n_p0_depth : Nat) (n_p0_line : Nat) (p0_line : Nat → Int32)  (k : Nat) (x2 : Int32) (x3 : Int32) (p0_depth : Nat → Int32) : Option ((Nat → Int32)) :=
  lp (fun (rec : Int32 × Int32 × (Nat → Int32) → Option ((Nat → Int32))) (z : Int32 × Int32 × (Nat → Int32)) => bf_X7_deepen_2 F n_p0_depth n_p0_line p0_line (fun x2 x3 p0_depth => rec (x2, x3, p0_depth)) z.1 z.2.1 z.2.2) k (x2, x3, p0_depth)
set_option maxRecDepth 100000 in
set_option maxHeartbeats 4000000 in
theorem wl_X7_deepen_2 (S : CallFix p m c cX7_deepen 4 s args wsX7_deepen RX7) (hK : K_ D vwCl [(cI, .int), (cZ, .boolean)] s) (hA : ∀ q, s.heap.size ≤ q → A q) {F : Nat} {p0_size : Int32} {n_p0_symbol : Nat} {p0_symbol : Nat → Int32} {n_p0_weight : Nat} {p0_weight : Nat → Int32} {n_p0_depth : Nat} {n_p0_line : Nat} {p0_line : Nat → Int32} {h_p0 h_p0_symbol h_p0_weight h_p0_depth h_p0_line : Nat} {r : (Nat → Int32)} {Wp : va_W → Prop} (hend : ∀ (w1 : va_W) (pc : Nat) (lv : List (Nat × Value)), Wp w1 → decode cX7_deepen pc = .ok (.return_, 1) → X_ p l e ({ frames := 0, cells := 0, slots := 0, locals := 0 } : Room) s m args below meth c Q D vwCl A 4 0 0 w1 lv pc []) (hWp : Wp (W_X3 cI cZ h_p0 h_p0_symbol h_p0_weight h_p0_depth h_p0_line p0_size n_p0_symbol p0_symbol n_p0_weight p0_weight n_p0_depth r n_p0_line p0_line))   (k : Nat) : ∀ (x2 : Int32) (x3 : Int32) (p0_depth : Nat → Int32), lf_X7_deepen_2 F n_p0_depth n_p0_line p0_line k x2 x3 p0_depth = some r → X_ p l e ({ frames := 0, cells := 0, slots := 0, locals := 0 } : Room) s m args below meth c Q D vwCl A 4 0 0 (W_X3 cI cZ h_p0 h_p0_symbol h_p0_weight h_p0_depth h_p0_line p0_size n_p0_symbol p0_symbol n_p0_weight p0_weight n_p0_depth p0_depth n_p0_line p0_line) [(0, .ref h_p0), (2, .int x2), (3, .int x3)] 2 [] := by
  intro x2 x3 p0_depth h
  exact lp_W (P := fun z => X_ p l e ({ frames := 0, cells := 0, slots := 0, locals := 0 } : Room) s m args below meth c Q D vwCl A 4 0 0 (W_X3 cI cZ h_p0 h_p0_symbol h_p0_weight h_p0_depth h_p0_line p0_size n_p0_symbol p0_symbol n_p0_weight p0_weight n_p0_depth z.2.2 n_p0_line p0_line) [(0, .ref h_p0), (2, .int z.1), (3, .int z.2.1)] 2 []) (fun rec ih z hz => w_X7_deepen_2 S hK hA hend hWp (fun x2 x3 p0_depth hh => ih (x2, x3, p0_depth) hh)  z.1 z.2.1 z.2.2 hz) k (x2, x3, p0_depth) h 
noncomputable def bf_X7_deepen_0 (F : Nat) (n_p0_depth : Nat) (n_p0_line : Nat) (p0_line : Nat → Int32)  (x1 : Int32) (x2 : Int32) (p0_depth : Nat → Int32) : Option ((Nat → Int32)) :=
  lf_X7_deepen_2 F n_p0_depth n_p0_line p0_line F x2 x1 p0_depth
set_option maxRecDepth 100000 in
set_option maxHeartbeats 4000000 in
theorem w_X7_deepen_0 (S : CallFix p m c cX7_deepen 4 s args wsX7_deepen RX7) (hK : K_ D vwCl [(cI, .int), (cZ, .boolean)] s) (hA : ∀ q, s.heap.size ≤ q → A q) {F : Nat} {p0_size : Int32} {n_p0_symbol : Nat} {p0_symbol : Nat → Int32} {n_p0_weight : Nat} {p0_weight : Nat → Int32} {n_p0_depth : Nat} {n_p0_line : Nat} {p0_line : Nat → Int32} {h_p0 h_p0_symbol h_p0_weight h_p0_depth h_p0_line : Nat} {r : (Nat → Int32)} {Wp : va_W → Prop} (hend : ∀ (w1 : va_W) (pc : Nat) (lv : List (Nat × Value)), Wp w1 → decode cX7_deepen pc = .ok (.return_, 1) → X_ p l e ({ frames := 0, cells := 0, slots := 0, locals := 0 } : Room) s m args below meth c Q D vwCl A 4 0 0 w1 lv pc []) (hWp : Wp (W_X3 cI cZ h_p0 h_p0_symbol h_p0_weight h_p0_depth h_p0_line p0_size n_p0_symbol p0_symbol n_p0_weight p0_weight n_p0_depth r n_p0_line p0_line))   : ∀ (x1 : Int32) (x2 : Int32) (p0_depth : Nat → Int32), bf_X7_deepen_0 F n_p0_depth n_p0_line p0_line x1 x2 p0_depth = some r → X_ p l e ({ frames := 0, cells := 0, slots := 0, locals := 0 } : Room) s m args below meth c Q D vwCl A 4 0 0 (W_X3 cI cZ h_p0 h_p0_symbol h_p0_weight h_p0_depth h_p0_line p0_size n_p0_symbol p0_symbol n_p0_weight p0_weight n_p0_depth p0_depth n_p0_line p0_line) [(0, .ref h_p0), (1, .int x1), (2, .int x2)] 0 [] := by
  intro x1 x2 p0_depth h
  unfold bf_X7_deepen_0 at h
  refine x_iload_n S dX7_deepen_0 rfl 1 rfl ?_
  refine x_istore_n (lv' := [(3, .int x1), (0, .ref h_p0), (1, .int x1), (2, .int x2)]) S dX7_deepen_1 rfl (by decide) rfl ?_
  refine x_lv [1, 3, 0] (by rfl) ?_
  exact wl_X7_deepen_2 S hK hA hend hWp  F x2 x1 p0_depth h
noncomputable def fn_X7_deepen (F : Nat) (n_p0_depth : Nat) (n_p0_line : Nat) (p0_line : Nat → Int32) (p0_depth : Nat → Int32) (x1 : Int32) (x2 : Int32) : Option ((Nat → Int32)) :=
  bf_X7_deepen_0 F n_p0_depth n_p0_line p0_line x1 x2 p0_depth
set_option maxRecDepth 100000 in
set_option maxHeartbeats 4000000 in
theorem c_X7_deepen (l : Launch) (D : va_G) (cI cZ : ClassId) (F : Nat) (h_p0 h_p0_symbol h_p0_weight h_p0_depth h_p0_line : Nat) (p0_size : Int32) (n_p0_symbol : Nat) (p0_symbol : Nat → Int32) (n_p0_weight : Nat) (p0_weight : Nat → Int32) (n_p0_depth : Nat) (p0_depth : Nat → Int32) (n_p0_line : Nat) (p0_line : Nat → Int32) (x1 : Int32) (x2 : Int32) (r : (Nat → Int32)) (h : fn_X7_deepen F n_p0_depth n_p0_line p0_line p0_depth x1 x2 = some r) : Cv l yX7_deepen wsX7_deepen ({ frames := 0, cells := 0, slots := 0, locals := 0 } : Room) D vwCl [(cI, .int), (cZ, .boolean)] [.ref h_p0, .int x1, .int x2] (W_X3 cI cZ h_p0 h_p0_symbol h_p0_weight h_p0_depth h_p0_line p0_size n_p0_symbol p0_symbol n_p0_weight p0_weight n_p0_depth p0_depth n_p0_line p0_line) (fun w => w = (W_X3 cI cZ h_p0 h_p0_symbol h_p0_weight h_p0_depth h_p0_line p0_size n_p0_symbol p0_symbol n_p0_weight p0_weight n_p0_depth r n_p0_line p0_line)) 0 0 :=
  Cv.ofv (by decide) rfl (Nat.le_of_ble_eq_true rfl) (fun p e s m args below meth c Q A S hK hA hname hend => w_X7_deepen_0 S hK hA hend rfl x1 x2 p0_depth h)
end

/-! ===== PrefixSmith$Parting.addPart(II)V on PrefixSmith$Halves ===== -/
abbrev W_X1 (cI cZ : ClassId) (h_p0 h_p0_partStart h_p0_partEnd : Nat) (p0_parts : Int32) (n_p0_partStart : Nat) (p0_partStart : Nat → Int32) (n_p0_partEnd : Nat) (p0_partEnd : Nat → Int32) : va_W := [(h_p0, .inr (1, [.ref h_p0_partStart, .ref h_p0_partEnd, .int p0_parts])), (h_p0_partStart, .inl (cI, n_p0_partStart, .inl p0_partStart)), (h_p0_partEnd, .inl (cI, n_p0_partEnd, .inl p0_partEnd))]
theorem i_X7_addPart_X1 : ∀ w ∈ u_ws RX1 TX1 3, w ∈ wsX7_addPart := by decide +kernel
theorem k_X7_addPart_27 : Cond.fieldLink RX7 27 "PrefixSmith$Parting" "parts" "I" ∈ wsX7_addPart := by decide +kernel
theorem k_X7_addPart_7 : Cond.fieldLink RX7 7 "PrefixSmith$Parting" "partStart" "[I" ∈ wsX7_addPart := by decide +kernel
theorem k_X7_addPart_13 : Cond.fieldLink RX7 13 "PrefixSmith$Parting" "partEnd" "[I" ∈ wsX7_addPart := by decide +kernel
section
variable {p : Program} {l : Launch} {e : Env} {s : State} {m : MethodId} {args : Array Value} {below : List Frame} {meth : Method} {c : Code} {Q : State → Prop} {D : va_G} {A : Nat → Prop} {cI cZ : ClassId}
noncomputable def bf_X7_addPart_X1_0 (F : Nat) (n_p0_partStart : Nat) (n_p0_partEnd : Nat)  (x1 : Int32) (x2 : Int32) (p0_parts : Int32) (p0_partStart : Nat → Int32) (p0_partEnd : Nat → Int32) : Option (Int32 × (Nat → Int32) × (Nat → Int32)) :=
  (if (nI n_p0_partStart) ≤ p0_parts then some (p0_parts, p0_partStart, p0_partEnd) else (if p0_parts < 0 ∨ n_p0_partStart ≤ (p0_parts).toNatClampNeg then none else (if p0_parts < 0 ∨ n_p0_partEnd ≤ (p0_parts).toNatClampNeg then none else some (p0_parts + (1 : Int32), upd p0_partStart (p0_parts).toNatClampNeg x1, upd p0_partEnd (p0_parts).toNatClampNeg x2))))
set_option maxRecDepth 100000 in
set_option maxHeartbeats 4000000 in
theorem w_X7_addPart_X1_0 (S : CallFix p m c cX7_addPart 3 s args wsX7_addPart RX7) (hK : K_ D vwCl [(cI, .int), (cZ, .boolean)] s) (hA : ∀ q, s.heap.size ≤ q → A q) {F : Nat} {n_p0_partStart : Nat} {n_p0_partEnd : Nat} {h_p0 h_p0_partStart h_p0_partEnd : Nat} {r : Int32 × (Nat → Int32) × (Nat → Int32)} {Wp : va_W → Prop} (hend : ∀ (w1 : va_W) (pc : Nat) (lv : List (Nat × Value)), Wp w1 → decode cX7_addPart pc = .ok (.return_, 1) → X_ p l e ({ frames := 0, cells := 0, slots := 0, locals := 0 } : Room) s m args below meth c Q D vwCl A 3 0 0 w1 lv pc []) (hWp : Wp (W_X1 cI cZ h_p0 h_p0_partStart h_p0_partEnd r.1 n_p0_partStart r.2.1 n_p0_partEnd r.2.2))   : ∀ (x1 : Int32) (x2 : Int32) (p0_parts : Int32) (p0_partStart : Nat → Int32) (p0_partEnd : Nat → Int32), bf_X7_addPart_X1_0 F n_p0_partStart n_p0_partEnd x1 x2 p0_parts p0_partStart p0_partEnd = some r → X_ p l e ({ frames := 0, cells := 0, slots := 0, locals := 0 } : Room) s m args below meth c Q D vwCl A 3 0 0 (W_X1 cI cZ h_p0 h_p0_partStart h_p0_partEnd p0_parts n_p0_partStart p0_partStart n_p0_partEnd p0_partEnd) [(0, .ref h_p0), (1, .int x1), (2, .int x2)] 0 [] := by
  intro x1 x2 p0_parts p0_partStart p0_partEnd h
  unfold bf_X7_addPart_X1_0 at h
  refine x_aload_n S dX7_addPart_0 rfl 0 rfl ?_
  refine x_get S hK i_X7_addPart_X1 0 rfl rfl 2 (by decide) k_X7_addPart_27 rfl rfl dX7_addPart_1 ?_
  refine x_aload_n S dX7_addPart_4 rfl 0 rfl ?_
  refine x_get S hK i_X7_addPart_X1 0 rfl rfl 0 (by decide) k_X7_addPart_7 rfl rfl dX7_addPart_5 ?_
  refine x_alen S hK 1 0 rfl rfl dX7_addPart_8 ?_
  refine x_icmp_ge S 42 dX7_addPart_9 (by decide) h (fun h => ?_) (fun h => ?_)
  · obtain rfl := Option.some.inj h
    exact hend _ _ _ hWp dX7_addPart_42
  · refine x_aload_n S dX7_addPart_12 rfl 0 rfl ?_
    refine x_get S hK i_X7_addPart_X1 0 rfl rfl 0 (by decide) k_X7_addPart_7 rfl rfl dX7_addPart_13 ?_
    refine x_aload_n S dX7_addPart_16 rfl 0 rfl ?_
    refine x_get S hK i_X7_addPart_X1 0 rfl rfl 2 (by decide) k_X7_addPart_27 rfl rfl dX7_addPart_17 ?_
    refine x_iload_n S dX7_addPart_20 rfl 1 rfl ?_
    refine x_iast S hK 1 0 rfl rfl dX7_addPart_21 h rfl (fun h => ?_)
    refine x_aload_n S dX7_addPart_22 rfl 0 rfl ?_
    refine x_get S hK i_X7_addPart_X1 0 rfl rfl 1 (by decide) k_X7_addPart_13 rfl rfl dX7_addPart_23 ?_
    refine x_aload_n S dX7_addPart_26 rfl 0 rfl ?_
    refine x_get S hK i_X7_addPart_X1 0 rfl rfl 2 (by decide) k_X7_addPart_27 rfl rfl dX7_addPart_27 ?_
    refine x_iload_n S dX7_addPart_30 rfl 2 rfl ?_
    refine x_iast S hK 2 0 rfl rfl dX7_addPart_31 h rfl (fun h => ?_)
    refine x_aload_n S dX7_addPart_32 rfl 0 rfl ?_
    refine x_dup S dX7_addPart_33 rfl ?_
    refine x_get S hK i_X7_addPart_X1 0 rfl rfl 2 (by decide) k_X7_addPart_27 rfl rfl dX7_addPart_34 ?_
    refine x_iconst (v := 1) S dX7_addPart_37 (by decide) ?_
    refine x_iadd S dX7_addPart_38 ?_
    refine x_put (ty := .int) S hK i_X7_addPart_X1 tyX1 tyX1_ok nmX1 0 rfl rfl 2 (by decide) k_X7_addPart_27 rfl rfl (by decide +kernel) rfl rfl (Nat.le_of_ble_eq_true rfl) dX7_addPart_39 rfl ?_
    obtain rfl := Option.some.inj h
    exact hend _ _ _ hWp dX7_addPart_42
noncomputable def fn_X7_addPart_X1 (F : Nat) (n_p0_partStart : Nat) (n_p0_partEnd : Nat) (p0_parts : Int32) (p0_partStart : Nat → Int32) (p0_partEnd : Nat → Int32) (x1 : Int32) (x2 : Int32) : Option (Int32 × (Nat → Int32) × (Nat → Int32)) :=
  bf_X7_addPart_X1_0 F n_p0_partStart n_p0_partEnd x1 x2 p0_parts p0_partStart p0_partEnd
set_option maxRecDepth 100000 in
set_option maxHeartbeats 4000000 in
theorem c_X7_addPart_X1 (l : Launch) (D : va_G) (cI cZ : ClassId) (F : Nat) (h_p0 h_p0_partStart h_p0_partEnd : Nat) (p0_parts : Int32) (n_p0_partStart : Nat) (p0_partStart : Nat → Int32) (n_p0_partEnd : Nat) (p0_partEnd : Nat → Int32) (x1 : Int32) (x2 : Int32) (r : Int32 × (Nat → Int32) × (Nat → Int32)) (h : fn_X7_addPart_X1 F n_p0_partStart n_p0_partEnd p0_parts p0_partStart p0_partEnd x1 x2 = some r) : Cv l yX7_addPart wsX7_addPart ({ frames := 0, cells := 0, slots := 0, locals := 0 } : Room) D vwCl [(cI, .int), (cZ, .boolean)] [.ref h_p0, .int x1, .int x2] (W_X1 cI cZ h_p0 h_p0_partStart h_p0_partEnd p0_parts n_p0_partStart p0_partStart n_p0_partEnd p0_partEnd) (fun w => w = (W_X1 cI cZ h_p0 h_p0_partStart h_p0_partEnd r.1 n_p0_partStart r.2.1 n_p0_partEnd r.2.2)) 0 0 :=
  Cv.ofv (by decide) rfl (Nat.le_of_ble_eq_true rfl) (fun p e s m args below meth c Q A S hK hA hname hend => w_X7_addPart_X1_0 S hK hA hend rfl x1 x2 p0_parts p0_partStart p0_partEnd h)
end

/-! ===== PrefixSmith$Parting.partAll(LPrefixSmith$Leaves;)V on PrefixSmith$Halves ===== -/
theorem i_X7_partAll_X3 : ∀ w ∈ u_ws RX3 TX3 5, w ∈ wsX7_partAll := by decide +kernel
theorem i_X7_partAll_X1 : ∀ w ∈ u_ws RX1 TX1 3, w ∈ wsX7_partAll := by decide +kernel
theorem k_X7_partAll_27 : Cond.fieldLink RX7 27 "PrefixSmith$Parting" "parts" "I" ∈ wsX7_partAll := by decide +kernel
theorem k_X7_partAll_7 : Cond.fieldLink RX7 7 "PrefixSmith$Parting" "partStart" "[I" ∈ wsX7_partAll := by decide +kernel
theorem k_X7_partAll_13 : Cond.fieldLink RX7 13 "PrefixSmith$Parting" "partEnd" "[I" ∈ wsX7_partAll := by decide +kernel
section
variable {p : Program} {l : Launch} {e : Env} {s : State} {m : MethodId} {args : Array Value} {below : List Frame} {meth : Method} {c : Code} {Q : State → Prop} {D : va_G} {A : Nat → Prop} {cI cZ : ClassId}
noncomputable def bf_X7_partAll_X1_24 (F : Nat) (n_p0_partStart : Nat) (n_p0_partEnd : Nat) (p1_size : Int32) (n_p1_weight : Nat) (p1_weight : Nat → Int32) (n_p1_depth : Nat) (n_p1_line : Nat) (p1_line : Nat → Int32) (rec24 : Int32 → Int32 → (Nat → Int32) → (Nat → Int32) → (Nat → Int32) → Option (Int32 × (Nat → Int32) × (Nat → Int32) × (Nat → Int32))) (x2 : Int32) (p0_parts : Int32) (p0_partStart : Nat → Int32) (p0_partEnd : Nat → Int32) (p1_depth : Nat → Int32) : Option (Int32 × (Nat → Int32) × (Nat → Int32) × (Nat → Int32)) :=
  (if ((2 : Int32) * p1_size) ≤ x2 then some (p0_parts, p0_partStart, p0_partEnd, p1_depth) else (if p0_parts ≤ 0 then some (p0_parts, p0_partStart, p0_partEnd, p1_depth) else (if (p0_parts - (1 : Int32)) < 0 ∨ n_p0_partStart ≤ ((p0_parts - (1 : Int32))).toNatClampNeg then none else (if (p0_parts - (1 : Int32)) < 0 ∨ n_p0_partEnd ≤ ((p0_parts - (1 : Int32))).toNatClampNeg then none else (if ((p0_partEnd ((p0_parts - (1 : Int32))).toNatClampNeg) - (p0_partStart ((p0_parts - (1 : Int32))).toNatClampNeg)) ≤ (1 : Int32) then rec24 (x2 + (1 : Int32)) (p0_parts - (1 : Int32)) p0_partStart p0_partEnd p1_depth else ((fn_X7_deepen F n_p1_depth n_p1_line p1_line p1_depth (p0_partStart ((p0_parts - (1 : Int32))).toNatClampNeg) (p0_partEnd ((p0_parts - (1 : Int32))).toNatClampNeg)).bind fun v84 => ((fn_X1_middle F n_p1_weight p1_weight n_p1_line p1_line (p0_partStart ((p0_parts - (1 : Int32))).toNatClampNeg) (p0_partEnd ((p0_parts - (1 : Int32))).toNatClampNeg)).bind fun v92 => ((fn_X7_addPart_X1 F n_p0_partStart n_p0_partEnd (p0_parts - (1 : Int32)) p0_partStart p0_partEnd (p0_partStart ((p0_parts - (1 : Int32))).toNatClampNeg) v92).bind fun v101 => ((fn_X7_addPart_X1 F n_p0_partStart n_p0_partEnd v101.1 v101.2.1 v101.2.2 v92 (p0_partEnd ((p0_parts - (1 : Int32))).toNatClampNeg)).bind fun v109 => rec24 (x2 + (1 : Int32)) v109.1 v109.2.1 v109.2.2 v84)))))))))
set_option maxRecDepth 100000 in
set_option maxHeartbeats 4000000 in
theorem w_X7_partAll_X1_24 (S : CallFix p m c cX7_partAll 6 s args wsX7_partAll RX7) (hK : K_ D vwCl [(cI, .int), (cZ, .boolean)] s) (hA : ∀ q, s.heap.size ≤ q → A q) {F : Nat} {n_p0_partStart : Nat} {n_p0_partEnd : Nat} {p1_size : Int32} {n_p1_symbol : Nat} {p1_symbol : Nat → Int32} {n_p1_weight : Nat} {p1_weight : Nat → Int32} {n_p1_depth : Nat} {n_p1_line : Nat} {p1_line : Nat → Int32} {h_p0 h_p1 h_p0_partStart h_p0_partEnd h_p1_symbol h_p1_weight h_p1_depth h_p1_line : Nat} {r : Int32 × (Nat → Int32) × (Nat → Int32) × (Nat → Int32)} {Wp : va_W → Prop} (hend : ∀ (w1 : va_W) (pc : Nat) (lv : List (Nat × Value)), Wp w1 → decode cX7_partAll pc = .ok (.return_, 1) → X_ p l e ({ frames := 1, cells := 0, slots := 0, locals := 26 } : Room) s m args below meth c Q D vwCl A 6 0 0 w1 lv pc []) (hWp : Wp (W_X1_X3 cI cZ h_p0 h_p0_partStart h_p0_partEnd h_p1 h_p1_symbol h_p1_weight h_p1_depth h_p1_line r.1 n_p0_partStart r.2.1 n_p0_partEnd r.2.2.1 p1_size n_p1_symbol p1_symbol n_p1_weight p1_weight n_p1_depth r.2.2.2 n_p1_line p1_line)) {rec24 : Int32 → Int32 → (Nat → Int32) → (Nat → Int32) → (Nat → Int32) → Option (Int32 × (Nat → Int32) × (Nat → Int32) × (Nat → Int32))} (hrec24 : ∀ (x2 : Int32) (p0_parts : Int32) (p0_partStart : Nat → Int32) (p0_partEnd : Nat → Int32) (p1_depth : Nat → Int32), rec24 x2 p0_parts p0_partStart p0_partEnd p1_depth = some r → X_ p l e ({ frames := 1, cells := 0, slots := 0, locals := 26 } : Room) s m args below meth c Q D vwCl A 6 0 0 (W_X1_X3 cI cZ h_p0 h_p0_partStart h_p0_partEnd h_p1 h_p1_symbol h_p1_weight h_p1_depth h_p1_line p0_parts n_p0_partStart p0_partStart n_p0_partEnd p0_partEnd p1_size n_p1_symbol p1_symbol n_p1_weight p1_weight n_p1_depth p1_depth n_p1_line p1_line) [(0, .ref h_p0), (1, .ref h_p1), (2, .int x2)] 24 []) : ∀ (x2 : Int32) (p0_parts : Int32) (p0_partStart : Nat → Int32) (p0_partEnd : Nat → Int32) (p1_depth : Nat → Int32), bf_X7_partAll_X1_24 F n_p0_partStart n_p0_partEnd p1_size n_p1_weight p1_weight n_p1_depth n_p1_line p1_line rec24 x2 p0_parts p0_partStart p0_partEnd p1_depth = some r → X_ p l e ({ frames := 1, cells := 0, slots := 0, locals := 26 } : Room) s m args below meth c Q D vwCl A 6 0 0 (W_X1_X3 cI cZ h_p0 h_p0_partStart h_p0_partEnd h_p1 h_p1_symbol h_p1_weight h_p1_depth h_p1_line p0_parts n_p0_partStart p0_partStart n_p0_partEnd p0_partEnd p1_size n_p1_symbol p1_symbol n_p1_weight p1_weight n_p1_depth p1_depth n_p1_line p1_line) [(0, .ref h_p0), (1, .ref h_p1), (2, .int x2)] 24 [] := by
  intro x2 p0_parts p0_partStart p0_partEnd p1_depth h
  unfold bf_X7_partAll_X1_24 at h
  refine x_iload_n S dX7_partAll_24 rfl 2 rfl ?_
  refine x_iconst (v := 2) S dX7_partAll_25 (by decide) ?_
  refine x_aload_n S dX7_partAll_26 rfl 1 rfl ?_
  refine x_getN S hK i_X7_partAll_X3 3 rfl rfl 4 (by decide) nf_X7_31 rfl rfl dX7_partAll_27 ?_
  refine x_imul S dX7_partAll_30 ?_
  refine x_icmp_ge S 118 dX7_partAll_31 (by decide) h (fun h => ?_) (fun h => ?_)
  · obtain rfl := Option.some.inj h
    exact hend _ _ _ hWp dX7_partAll_118
  · refine x_aload_n S dX7_partAll_34 rfl 0 rfl ?_
    refine x_get S hK i_X7_partAll_X1 0 rfl rfl 2 (by decide) k_X7_partAll_27 rfl rfl dX7_partAll_35 ?_
    refine x_if_le S 118 dX7_partAll_38 (by decide) h (fun h => ?_) (fun h => ?_)
    · obtain rfl := Option.some.inj h
      exact hend _ _ _ hWp dX7_partAll_118
    · refine x_aload_n S dX7_partAll_41 rfl 0 rfl ?_
      refine x_dup S dX7_partAll_42 rfl ?_
      refine x_get S hK i_X7_partAll_X1 0 rfl rfl 2 (by decide) k_X7_partAll_27 rfl rfl dX7_partAll_43 ?_
      refine x_iconst (v := 1) S dX7_partAll_46 (by decide) ?_
      refine x_isub S dX7_partAll_47 ?_
      refine x_put (ty := .int) S hK i_X7_partAll_X1 tyX1 tyX1_ok nmX1 0 rfl rfl 2 (by decide) k_X7_partAll_27 rfl rfl (by decide +kernel) rfl rfl (Nat.le_of_ble_eq_true rfl) dX7_partAll_48 rfl ?_
      refine x_aload_n S dX7_partAll_51 rfl 0 rfl ?_
      refine x_get S hK i_X7_partAll_X1 0 rfl rfl 0 (by decide) k_X7_partAll_7 rfl rfl dX7_partAll_52 ?_
      refine x_aload_n S dX7_partAll_55 rfl 0 rfl ?_
      refine x_get S hK i_X7_partAll_X1 0 rfl rfl 2 (by decide) k_X7_partAll_27 rfl rfl dX7_partAll_56 ?_
      refine x_iald S hK 1 0 rfl rfl dX7_partAll_59 h (fun h => ?_)
      refine x_istore_n (lv' := [(3, .int (p0_partStart ((p0_parts - (1 : Int32))).toNatClampNeg)), (0, .ref h_p0), (1, .ref h_p1), (2, .int x2)]) S dX7_partAll_60 rfl (by decide) rfl ?_
      refine x_aload_n S dX7_partAll_61 rfl 1 rfl ?_
      refine x_get S hK i_X7_partAll_X1 0 rfl rfl 1 (by decide) k_X7_partAll_13 rfl rfl dX7_partAll_62 ?_
      refine x_aload_n S dX7_partAll_65 rfl 1 rfl ?_
      refine x_get S hK i_X7_partAll_X1 0 rfl rfl 2 (by decide) k_X7_partAll_27 rfl rfl dX7_partAll_66 ?_
      refine x_iald S hK 2 0 rfl rfl dX7_partAll_69 h (fun h => ?_)
      refine x_istore (lv' := [(4, .int (p0_partEnd ((p0_parts - (1 : Int32))).toNatClampNeg)), (3, .int (p0_partStart ((p0_parts - (1 : Int32))).toNatClampNeg)), (0, .ref h_p0), (1, .ref h_p1), (2, .int x2)]) S dX7_partAll_70 (by decide) rfl ?_
      refine x_iload S dX7_partAll_72 0 rfl ?_
      refine x_iload_n S dX7_partAll_74 rfl 1 rfl ?_
      refine x_isub S dX7_partAll_75 ?_
      refine x_iconst (v := 1) S dX7_partAll_76 (by decide) ?_
      refine x_icmp_le S 112 dX7_partAll_77 (by decide) h (fun h => ?_) (fun h => ?_)
      · refine x_iinc (v := x2 + (1 : Int32)) (lv' := [(2, .int (x2 + (1 : Int32))), (4, .int (p0_partEnd ((p0_parts - (1 : Int32))).toNatClampNeg)), (3, .int (p0_partStart ((p0_parts - (1 : Int32))).toNatClampNeg)), (0, .ref h_p0), (1, .ref h_p1)]) S dX7_partAll_112 4 rfl rfl (by decide) rfl ?_
        refine x_goto S 24 dX7_partAll_115 (by decide) ?_
        refine x_lv [3, 4, 0] (by rfl) ?_
        exact hrec24 (x2 + (1 : Int32)) (p0_parts - (1 : Int32)) p0_partStart p0_partEnd p1_depth h
      · refine x_aload_n S dX7_partAll_80 rfl 3 rfl ?_
        refine x_iload_n S dX7_partAll_81 rfl 1 rfl ?_
        refine x_iload S dX7_partAll_82 0 rfl ?_
        obtain ⟨v84, h84, h⟩ := gbind h
        refine x_callSv S hK hA (c_X7_deepen l D cI cZ F h_p1 h_p1_symbol h_p1_weight h_p1_depth h_p1_line p1_size n_p1_symbol p1_symbol n_p1_weight p1_weight n_p1_depth p1_depth n_p1_line p1_line (p0_partStart ((p0_parts - (1 : Int32))).toNatClampNeg) (p0_partEnd ((p0_parts - (1 : Int32))).toNatClampNeg) v84 h84) (va_cwS 3 S.2.2.2.2 gX7_partAll_X7_deepen rfl rfl rfl (by decide +kernel) ⟨(Nat.le_of_ble_eq_true rfl), (Nat.le_of_ble_eq_true rfl)⟩) [3, 4, 5, 6, 7] [0, 1, 2] rfl (by decide) rfl (by decide) (by decide) rfl (Nat.le_of_ble_eq_true rfl) rfl dX7_partAll_84 ⟨(Nat.le_of_ble_eq_true rfl), (Nat.le_of_ble_eq_true rfl)⟩ (fun w1 hw1 => ?_)
        subst hw1
        refine x_ws (ws' := (W_X1_X3 cI cZ h_p0 h_p0_partStart h_p0_partEnd h_p1 h_p1_symbol h_p1_weight h_p1_depth h_p1_line (p0_parts - (1 : Int32)) n_p0_partStart p0_partStart n_p0_partEnd p0_partEnd p1_size n_p1_symbol p1_symbol n_p1_weight p1_weight n_p1_depth v84 n_p1_line p1_line)) [0, 1, 2, 3, 4, 5, 6, 7] (by decide) (by rfl) ?_
        refine x_aload_n S dX7_partAll_87 rfl 2 rfl ?_
        refine x_aload_n S dX7_partAll_88 rfl 3 rfl ?_
        refine x_iload_n S dX7_partAll_89 rfl 1 rfl ?_
        refine x_iload S dX7_partAll_90 0 rfl ?_
        obtain ⟨v92, h92, h⟩ := gbind h
        refine x_callUi S hK hA (c_X1_middle l D cI cZ F h_p0 h_p0_partStart h_p0_partEnd h_p1 h_p1_symbol h_p1_weight h_p1_depth h_p1_line (p0_parts - (1 : Int32)) n_p0_partStart p0_partStart n_p0_partEnd p0_partEnd p1_size n_p1_symbol p1_symbol n_p1_weight p1_weight n_p1_depth v84 n_p1_line p1_line (p0_partStart ((p0_parts - (1 : Int32))).toNatClampNeg) (p0_partEnd ((p0_parts - (1 : Int32))).toNatClampNeg) v92 h92) (va_cwA 3 S.2.2.2.2 gX7_partAll_X1_middle_u42X1 rfl rfl rfl hK.2.2.2 (by decide +kernel) ⟨(Nat.le_of_ble_eq_true rfl), (Nat.le_of_ble_eq_true rfl)⟩) [0, 1, 2, 3, 4, 5, 6, 7] [] rfl (by decide) rfl (by decide) (by decide) 0 1 rfl rfl rfl (Nat.le_of_ble_eq_true rfl) rfl dX7_partAll_92 ⟨(Nat.le_of_ble_eq_true rfl), (Nat.le_of_ble_eq_true rfl)⟩ (fun w1 hw1 => ?_)
        subst hw1
        refine x_ws (ws' := (W_X1_X3 cI cZ h_p0 h_p0_partStart h_p0_partEnd h_p1 h_p1_symbol h_p1_weight h_p1_depth h_p1_line (p0_parts - (1 : Int32)) n_p0_partStart p0_partStart n_p0_partEnd p0_partEnd p1_size n_p1_symbol p1_symbol n_p1_weight p1_weight n_p1_depth v84 n_p1_line p1_line)) [0, 1, 2, 3, 4, 5, 6, 7] (by decide) (by rfl) ?_
        refine x_istore (lv' := [(5, .int v92), (4, .int (p0_partEnd ((p0_parts - (1 : Int32))).toNatClampNeg)), (3, .int (p0_partStart ((p0_parts - (1 : Int32))).toNatClampNeg)), (0, .ref h_p0), (1, .ref h_p1), (2, .int x2)]) S dX7_partAll_95 (by decide) rfl ?_
        refine x_aload_n S dX7_partAll_97 rfl 3 rfl ?_
        refine x_iload_n S dX7_partAll_98 rfl 2 rfl ?_
        refine x_iload S dX7_partAll_99 0 rfl ?_
        obtain ⟨v101, h101, h⟩ := gbind h
        refine x_callUv S hK hA (c_X7_addPart_X1 l D cI cZ F h_p0 h_p0_partStart h_p0_partEnd (p0_parts - (1 : Int32)) n_p0_partStart p0_partStart n_p0_partEnd p0_partEnd (p0_partStart ((p0_parts - (1 : Int32))).toNatClampNeg) v92 v101 h101) (va_cwU 2 S.2.2.2.2 gX7_partAll_X7_addPart_u34X1 rfl rfl rfl rfl (by decide +kernel) ⟨(Nat.le_of_ble_eq_true rfl), (Nat.le_of_ble_eq_true rfl)⟩) [0, 1, 2] [3, 4, 5, 6, 7] rfl (by decide) rfl (by decide) (by decide) 0 1 rfl rfl rfl (Nat.le_of_ble_eq_true rfl) rfl dX7_partAll_101 ⟨(Nat.le_of_ble_eq_true rfl), (Nat.le_of_ble_eq_true rfl)⟩ (fun w1 hw1 => ?_)
        subst hw1
        refine x_ws (ws' := (W_X1_X3 cI cZ h_p0 h_p0_partStart h_p0_partEnd h_p1 h_p1_symbol h_p1_weight h_p1_depth h_p1_line v101.1 n_p0_partStart v101.2.1 n_p0_partEnd v101.2.2 p1_size n_p1_symbol p1_symbol n_p1_weight p1_weight n_p1_depth v84 n_p1_line p1_line)) [5, 6, 7, 0, 1, 2, 3, 4] (by decide) (by rfl) ?_
        refine x_aload_n S dX7_partAll_104 rfl 3 rfl ?_
        refine x_iload S dX7_partAll_105 0 rfl ?_
        refine x_iload S dX7_partAll_107 1 rfl ?_
        obtain ⟨v109, h109, h⟩ := gbind h
        refine x_callUv S hK hA (c_X7_addPart_X1 l D cI cZ F h_p0 h_p0_partStart h_p0_partEnd v101.1 n_p0_partStart v101.2.1 n_p0_partEnd v101.2.2 v92 (p0_partEnd ((p0_parts - (1 : Int32))).toNatClampNeg) v109 h109) (va_cwU 2 S.2.2.2.2 gX7_partAll_X7_addPart_u34X1 rfl rfl rfl rfl (by decide +kernel) ⟨(Nat.le_of_ble_eq_true rfl), (Nat.le_of_ble_eq_true rfl)⟩) [0, 1, 2] [3, 4, 5, 6, 7] rfl (by decide) rfl (by decide) (by decide) 0 1 rfl rfl rfl (Nat.le_of_ble_eq_true rfl) rfl dX7_partAll_109 ⟨(Nat.le_of_ble_eq_true rfl), (Nat.le_of_ble_eq_true rfl)⟩ (fun w1 hw1 => ?_)
        subst hw1
        refine x_ws (ws' := (W_X1_X3 cI cZ h_p0 h_p0_partStart h_p0_partEnd h_p1 h_p1_symbol h_p1_weight h_p1_depth h_p1_line v109.1 n_p0_partStart v109.2.1 n_p0_partEnd v109.2.2 p1_size n_p1_symbol p1_symbol n_p1_weight p1_weight n_p1_depth v84 n_p1_line p1_line)) [5, 6, 7, 0, 1, 2, 3, 4] (by decide) (by rfl) ?_
        refine x_iinc (v := x2 + (1 : Int32)) (lv' := [(2, .int (x2 + (1 : Int32))), (5, .int v92), (4, .int (p0_partEnd ((p0_parts - (1 : Int32))).toNatClampNeg)), (3, .int (p0_partStart ((p0_parts - (1 : Int32))).toNatClampNeg)), (0, .ref h_p0), (1, .ref h_p1)]) S dX7_partAll_112 5 rfl rfl (by decide) rfl ?_
        refine x_goto S 24 dX7_partAll_115 (by decide) ?_
        refine x_lv [4, 5, 0] (by rfl) ?_
        exact hrec24 (x2 + (1 : Int32)) v109.1 v109.2.1 v109.2.2 v84 h
noncomputable def lf_X7_partAll_X1_24 (F : Nat) (n_p0_partStart : Nat) (n_p0_partEnd : Nat) (p1_size : Int32) (n_p1_weight : Nat) (p1_weight : Nat → Int32) (n_p1_depth : Nat) (n_p1_line : Nat) (p1_line : Nat → Int32)  (k : Nat) (x2 : Int32) (p0_parts : Int32) (p0_partStart : Nat → Int32) (p0_partEnd : Nat → Int32) (p1_depth : Nat → Int32) : Option (Int32 × (Nat → Int32) × (Nat → Int32) × (Nat → Int32)) :=
  lp (fun (rec : Int32 × Int32 × (Nat → Int32) × (Nat → Int32) × (Nat → Int32) → Option (Int32 × (Nat → Int32) × (Nat → Int32) × (Nat → Int32))) (z : Int32 × Int32 × (Nat → Int32) × (Nat → Int32) × (Nat → Int32)) => bf_X7_partAll_X1_24 F n_p0_partStart n_p0_partEnd p1_size n_p1_weight p1_weight n_p1_depth n_p1_line p1_line (fun x2 p0_parts p0_partStart p0_partEnd p1_depth => rec (x2, p0_parts, p0_partStart, p0_partEnd, p1_depth)) z.1 z.2.1 z.2.2.1 z.2.2.2.1 z.2.2.2.2) k (x2, p0_parts, p0_partStart, p0_partEnd, p1_depth)
set_option maxRecDepth 100000 in
set_option maxHeartbeats 4000000 in
theorem wl_X7_partAll_X1_24 (S : CallFix p m c cX7_partAll 6 s args wsX7_partAll RX7) (hK : K_ D vwCl [(cI, .int), (cZ, .boolean)] s) (hA : ∀ q, s.heap.size ≤ q → A q) {F : Nat} {n_p0_partStart : Nat} {n_p0_partEnd : Nat} {p1_size : Int32} {n_p1_symbol : Nat} {p1_symbol : Nat → Int32} {n_p1_weight : Nat} {p1_weight : Nat → Int32} {n_p1_depth : Nat} {n_p1_line : Nat} {p1_line : Nat → Int32} {h_p0 h_p1 h_p0_partStart h_p0_partEnd h_p1_symbol h_p1_weight h_p1_depth h_p1_line : Nat} {r : Int32 × (Nat → Int32) × (Nat → Int32) × (Nat → Int32)} {Wp : va_W → Prop} (hend : ∀ (w1 : va_W) (pc : Nat) (lv : List (Nat × Value)), Wp w1 → decode cX7_partAll pc = .ok (.return_, 1) → X_ p l e ({ frames := 1, cells := 0, slots := 0, locals := 26 } : Room) s m args below meth c Q D vwCl A 6 0 0 w1 lv pc []) (hWp : Wp (W_X1_X3 cI cZ h_p0 h_p0_partStart h_p0_partEnd h_p1 h_p1_symbol h_p1_weight h_p1_depth h_p1_line r.1 n_p0_partStart r.2.1 n_p0_partEnd r.2.2.1 p1_size n_p1_symbol p1_symbol n_p1_weight p1_weight n_p1_depth r.2.2.2 n_p1_line p1_line))   (k : Nat) : ∀ (x2 : Int32) (p0_parts : Int32) (p0_partStart : Nat → Int32) (p0_partEnd : Nat → Int32) (p1_depth : Nat → Int32), lf_X7_partAll_X1_24 F n_p0_partStart n_p0_partEnd p1_size n_p1_weight p1_weight n_p1_depth n_p1_line p1_line k x2 p0_parts p0_partStart p0_partEnd p1_depth = some r → X_ p l e ({ frames := 1, cells := 0, slots := 0, locals := 26 } : Room) s m args below meth c Q D vwCl A 6 0 0 (W_X1_X3 cI cZ h_p0 h_p0_partStart h_p0_partEnd h_p1 h_p1_symbol h_p1_weight h_p1_depth h_p1_line p0_parts n_p0_partStart p0_partStart n_p0_partEnd p0_partEnd p1_size n_p1_symbol p1_symbol n_p1_weight p1_weight n_p1_depth p1_depth n_p1_line p1_line) [(0, .ref h_p0), (1, .ref h_p1), (2, .int x2)] 24 [] := by
  intro x2 p0_parts p0_partStart p0_partEnd p1_depth h
  exact lp_W (P := fun z => X_ p l e ({ frames := 1, cells := 0, slots := 0, locals := 26 } : Room) s m args below meth c Q D vwCl A 6 0 0 (W_X1_X3 cI cZ h_p0 h_p0_partStart h_p0_partEnd h_p1 h_p1_symbol h_p1_weight h_p1_depth h_p1_line z.2.1 n_p0_partStart z.2.2.1 n_p0_partEnd z.2.2.2.1 p1_size n_p1_symbol p1_symbol n_p1_weight p1_weight n_p1_depth z.2.2.2.2 n_p1_line p1_line) [(0, .ref h_p0), (1, .ref h_p1), (2, .int z.1)] 24 []) (fun rec ih z hz => w_X7_partAll_X1_24 S hK hA hend hWp (fun x2 p0_parts p0_partStart p0_partEnd p1_depth hh => ih (x2, p0_parts, p0_partStart, p0_partEnd, p1_depth) hh)  z.1 z.2.1 z.2.2.1 z.2.2.2.1 z.2.2.2.2 hz) k (x2, p0_parts, p0_partStart, p0_partEnd, p1_depth) h 
noncomputable def bf_X7_partAll_X1_0 (F : Nat) (n_p0_partStart : Nat) (n_p0_partEnd : Nat) (p1_size : Int32) (n_p1_weight : Nat) (p1_weight : Nat → Int32) (n_p1_depth : Nat) (n_p1_line : Nat) (p1_line : Nat → Int32)  (p0_parts : Int32) (p0_partStart : Nat → Int32) (p0_partEnd : Nat → Int32) (p1_depth : Nat → Int32) : Option (Int32 × (Nat → Int32) × (Nat → Int32) × (Nat → Int32)) :=
  ((fn_J7_fill_53178 F n_p1_depth p1_depth (0 : Int32)).bind fun v5 => ((fn_X7_addPart_X1 F n_p0_partStart n_p0_partEnd (0 : Int32) p0_partStart p0_partEnd (0 : Int32) p1_size).bind fun v19 => lf_X7_partAll_X1_24 F n_p0_partStart n_p0_partEnd p1_size n_p1_weight p1_weight n_p1_depth n_p1_line p1_line F (0 : Int32) v19.1 v19.2.1 v19.2.2 v5))
set_option maxRecDepth 100000 in
set_option maxHeartbeats 4000000 in
theorem w_X7_partAll_X1_0 (S : CallFix p m c cX7_partAll 6 s args wsX7_partAll RX7) (hK : K_ D vwCl [(cI, .int), (cZ, .boolean)] s) (hA : ∀ q, s.heap.size ≤ q → A q) {F : Nat} {n_p0_partStart : Nat} {n_p0_partEnd : Nat} {p1_size : Int32} {n_p1_symbol : Nat} {p1_symbol : Nat → Int32} {n_p1_weight : Nat} {p1_weight : Nat → Int32} {n_p1_depth : Nat} {n_p1_line : Nat} {p1_line : Nat → Int32} {h_p0 h_p1 h_p0_partStart h_p0_partEnd h_p1_symbol h_p1_weight h_p1_depth h_p1_line : Nat} {r : Int32 × (Nat → Int32) × (Nat → Int32) × (Nat → Int32)} {Wp : va_W → Prop} (hend : ∀ (w1 : va_W) (pc : Nat) (lv : List (Nat × Value)), Wp w1 → decode cX7_partAll pc = .ok (.return_, 1) → X_ p l e ({ frames := 1, cells := 0, slots := 0, locals := 26 } : Room) s m args below meth c Q D vwCl A 6 0 0 w1 lv pc []) (hWp : Wp (W_X1_X3 cI cZ h_p0 h_p0_partStart h_p0_partEnd h_p1 h_p1_symbol h_p1_weight h_p1_depth h_p1_line r.1 n_p0_partStart r.2.1 n_p0_partEnd r.2.2.1 p1_size n_p1_symbol p1_symbol n_p1_weight p1_weight n_p1_depth r.2.2.2 n_p1_line p1_line))   : ∀ (p0_parts : Int32) (p0_partStart : Nat → Int32) (p0_partEnd : Nat → Int32) (p1_depth : Nat → Int32), bf_X7_partAll_X1_0 F n_p0_partStart n_p0_partEnd p1_size n_p1_weight p1_weight n_p1_depth n_p1_line p1_line p0_parts p0_partStart p0_partEnd p1_depth = some r → X_ p l e ({ frames := 1, cells := 0, slots := 0, locals := 26 } : Room) s m args below meth c Q D vwCl A 6 0 0 (W_X1_X3 cI cZ h_p0 h_p0_partStart h_p0_partEnd h_p1 h_p1_symbol h_p1_weight h_p1_depth h_p1_line p0_parts n_p0_partStart p0_partStart n_p0_partEnd p0_partEnd p1_size n_p1_symbol p1_symbol n_p1_weight p1_weight n_p1_depth p1_depth n_p1_line p1_line) [(0, .ref h_p0), (1, .ref h_p1)] 0 [] := by
  intro p0_parts p0_partStart p0_partEnd p1_depth h
  unfold bf_X7_partAll_X1_0 at h
  refine x_aload_n S dX7_partAll_0 rfl 1 rfl ?_
  refine x_getN S hK i_X7_partAll_X3 3 rfl rfl 2 (by decide) nf_X7_16 rfl rfl dX7_partAll_1 ?_
  refine x_iconst (v := 0) S dX7_partAll_4 (by decide) ?_
  obtain ⟨v5, h5, h⟩ := gbind h
  refine x_callSv S hK hA (c_J7_fill_53178 l D cI cZ F h_p1_depth n_p1_depth p1_depth (0 : Int32) v5 h5) (va_cwS 2 S.2.2.2.2 gX7_partAll_J7_fill_53178 rfl rfl rfl (by decide +kernel) ⟨(Nat.le_of_ble_eq_true rfl), (Nat.le_of_ble_eq_true rfl)⟩) [6] [0, 1, 2, 3, 4, 5, 7] rfl (by decide) rfl (by decide) (by decide) rfl (Nat.le_of_ble_eq_true rfl) rfl dX7_partAll_5 ⟨(Nat.le_of_ble_eq_true rfl), (Nat.le_of_ble_eq_true rfl)⟩ (fun w1 hw1 => ?_)
  subst hw1
  refine x_ws (ws' := (W_X1_X3 cI cZ h_p0 h_p0_partStart h_p0_partEnd h_p1 h_p1_symbol h_p1_weight h_p1_depth h_p1_line p0_parts n_p0_partStart p0_partStart n_p0_partEnd p0_partEnd p1_size n_p1_symbol p1_symbol n_p1_weight p1_weight n_p1_depth v5 n_p1_line p1_line)) [0, 1, 2, 3, 4, 5, 7, 6] (by decide) (by rfl) ?_
  refine x_aload_n S dX7_partAll_8 rfl 0 rfl ?_
  refine x_iconst (v := 0) S dX7_partAll_9 (by decide) ?_
  refine x_put (ty := .int) S hK i_X7_partAll_X1 tyX1 tyX1_ok nmX1 0 rfl rfl 2 (by decide) k_X7_partAll_27 rfl rfl (by decide +kernel) rfl rfl (Nat.le_of_ble_eq_true rfl) dX7_partAll_10 rfl ?_
  refine x_aload_n S dX7_partAll_13 rfl 0 rfl ?_
  refine x_iconst (v := 0) S dX7_partAll_14 (by decide) ?_
  refine x_aload_n S dX7_partAll_15 rfl 1 rfl ?_
  refine x_getN S hK i_X7_partAll_X3 3 rfl rfl 4 (by decide) nf_X7_31 rfl rfl dX7_partAll_16 ?_
  obtain ⟨v19, h19, h⟩ := gbind h
  refine x_callUv S hK hA (c_X7_addPart_X1 l D cI cZ F h_p0 h_p0_partStart h_p0_partEnd (0 : Int32) n_p0_partStart p0_partStart n_p0_partEnd p0_partEnd (0 : Int32) p1_size v19 h19) (va_cwU 2 S.2.2.2.2 gX7_partAll_X7_addPart_u34X1 rfl rfl rfl rfl (by decide +kernel) ⟨(Nat.le_of_ble_eq_true rfl), (Nat.le_of_ble_eq_true rfl)⟩) [0, 1, 2] [3, 4, 5, 6, 7] rfl (by decide) rfl (by decide) (by decide) 0 1 rfl rfl rfl (Nat.le_of_ble_eq_true rfl) rfl dX7_partAll_19 ⟨(Nat.le_of_ble_eq_true rfl), (Nat.le_of_ble_eq_true rfl)⟩ (fun w1 hw1 => ?_)
  subst hw1
  refine x_ws (ws' := (W_X1_X3 cI cZ h_p0 h_p0_partStart h_p0_partEnd h_p1 h_p1_symbol h_p1_weight h_p1_depth h_p1_line v19.1 n_p0_partStart v19.2.1 n_p0_partEnd v19.2.2 p1_size n_p1_symbol p1_symbol n_p1_weight p1_weight n_p1_depth v5 n_p1_line p1_line)) [5, 6, 7, 0, 1, 2, 3, 4] (by decide) (by rfl) ?_
  refine x_iconst (v := 0) S dX7_partAll_22 (by decide) ?_
  refine x_istore_n (lv' := [(2, .int (0 : Int32)), (0, .ref h_p0), (1, .ref h_p1)]) S dX7_partAll_23 rfl (by decide) rfl ?_
  refine x_lv [1, 2, 0] (by rfl) ?_
  exact wl_X7_partAll_X1_24 S hK hA hend hWp  F (0 : Int32) v19.1 v19.2.1 v19.2.2 v5 h
noncomputable def fn_X7_partAll_X1 (F : Nat) (n_p0_partStart : Nat) (n_p0_partEnd : Nat) (p1_size : Int32) (n_p1_weight : Nat) (p1_weight : Nat → Int32) (n_p1_depth : Nat) (n_p1_line : Nat) (p1_line : Nat → Int32) (p0_parts : Int32) (p0_partStart : Nat → Int32) (p0_partEnd : Nat → Int32) (p1_depth : Nat → Int32)  : Option (Int32 × (Nat → Int32) × (Nat → Int32) × (Nat → Int32)) :=
  bf_X7_partAll_X1_0 F n_p0_partStart n_p0_partEnd p1_size n_p1_weight p1_weight n_p1_depth n_p1_line p1_line p0_parts p0_partStart p0_partEnd p1_depth
set_option maxRecDepth 100000 in
set_option maxHeartbeats 4000000 in
theorem c_X7_partAll_X1 (l : Launch) (D : va_G) (cI cZ : ClassId) (F : Nat) (h_p0 h_p0_partStart h_p0_partEnd h_p1 h_p1_symbol h_p1_weight h_p1_depth h_p1_line : Nat) (p0_parts : Int32) (n_p0_partStart : Nat) (p0_partStart : Nat → Int32) (n_p0_partEnd : Nat) (p0_partEnd : Nat → Int32) (p1_size : Int32) (n_p1_symbol : Nat) (p1_symbol : Nat → Int32) (n_p1_weight : Nat) (p1_weight : Nat → Int32) (n_p1_depth : Nat) (p1_depth : Nat → Int32) (n_p1_line : Nat) (p1_line : Nat → Int32)  (r : Int32 × (Nat → Int32) × (Nat → Int32) × (Nat → Int32)) (h : fn_X7_partAll_X1 F n_p0_partStart n_p0_partEnd p1_size n_p1_weight p1_weight n_p1_depth n_p1_line p1_line p0_parts p0_partStart p0_partEnd p1_depth = some r) : Cv l yX7_partAll wsX7_partAll ({ frames := 1, cells := 0, slots := 0, locals := 26 } : Room) D vwCl [(cI, .int), (cZ, .boolean)] [.ref h_p0, .ref h_p1] (W_X1_X3 cI cZ h_p0 h_p0_partStart h_p0_partEnd h_p1 h_p1_symbol h_p1_weight h_p1_depth h_p1_line p0_parts n_p0_partStart p0_partStart n_p0_partEnd p0_partEnd p1_size n_p1_symbol p1_symbol n_p1_weight p1_weight n_p1_depth p1_depth n_p1_line p1_line) (fun w => w = (W_X1_X3 cI cZ h_p0 h_p0_partStart h_p0_partEnd h_p1 h_p1_symbol h_p1_weight h_p1_depth h_p1_line r.1 n_p0_partStart r.2.1 n_p0_partEnd r.2.2.1 p1_size n_p1_symbol p1_symbol n_p1_weight p1_weight n_p1_depth r.2.2.2 n_p1_line p1_line)) 0 0 :=
  Cv.ofv (by decide) rfl (Nat.le_of_ble_eq_true rfl) (fun p e s m args below meth c Q A S hK hA hname hend => w_X7_partAll_X1_0 S hK hA hend rfl p0_parts p0_partStart p0_partEnd p1_depth h)
end

/-! ===== PrefixSmith$Halves.measure(LPrefixSmith$Leaves;)V ===== -/
section
variable {p : Program} {l : Launch} {e : Env} {s : State} {m : MethodId} {args : Array Value} {below : List Frame} {meth : Method} {c : Code} {Q : State → Prop} {D : va_G} {A : Nat → Prop} {cI cZ : ClassId}
noncomputable def bf_X1_measure_0 (F : Nat) (n_p0_partStart : Nat) (n_p0_partEnd : Nat) (p1_size : Int32) (n_p1_weight : Nat) (p1_weight : Nat → Int32) (n_p1_depth : Nat) (n_p1_line : Nat)  (p0_parts : Int32) (p0_partStart : Nat → Int32) (p0_partEnd : Nat → Int32) (p1_depth : Nat → Int32) (p1_line : Nat → Int32) : Option (Int32 × (Nat → Int32) × (Nat → Int32) × (Nat → Int32) × (Nat → Int32)) :=
  ((fn_X3_lineUpFalling F p1_size n_p1_weight p1_weight n_p1_line p1_line).bind fun v1 => ((fn_X7_partAll_X1 F n_p0_partStart n_p0_partEnd p1_size n_p1_weight p1_weight n_p1_depth n_p1_line v1 p0_parts p0_partStart p0_partEnd p1_depth).bind fun v6 => some (v6.1, v6.2.1, v6.2.2.1, v6.2.2.2, v1)))
set_option maxRecDepth 100000 in
set_option maxHeartbeats 4000000 in
theorem w_X1_measure_0 (S : CallFix p m c cX1_measure 2 s args wsX1_measure RX1) (hK : K_ D vwCl [(cI, .int), (cZ, .boolean)] s) (hA : ∀ q, s.heap.size ≤ q → A q) {F : Nat} {n_p0_partStart : Nat} {n_p0_partEnd : Nat} {p1_size : Int32} {n_p1_symbol : Nat} {p1_symbol : Nat → Int32} {n_p1_weight : Nat} {p1_weight : Nat → Int32} {n_p1_depth : Nat} {n_p1_line : Nat} {h_p0 h_p1 h_p0_partStart h_p0_partEnd h_p1_symbol h_p1_weight h_p1_depth h_p1_line : Nat} {r : Int32 × (Nat → Int32) × (Nat → Int32) × (Nat → Int32) × (Nat → Int32)} {Wp : va_W → Prop} (hend : ∀ (w1 : va_W) (pc : Nat) (lv : List (Nat × Value)), Wp w1 → decode cX1_measure pc = .ok (.return_, 1) → X_ p l e ({ frames := 2, cells := 0, slots := 0, locals := 51 } : Room) s m args below meth c Q D vwCl A 2 0 0 w1 lv pc []) (hWp : Wp (W_X1_X3 cI cZ h_p0 h_p0_partStart h_p0_partEnd h_p1 h_p1_symbol h_p1_weight h_p1_depth h_p1_line r.1 n_p0_partStart r.2.1 n_p0_partEnd r.2.2.1 p1_size n_p1_symbol p1_symbol n_p1_weight p1_weight n_p1_depth r.2.2.2.1 n_p1_line r.2.2.2.2))   : ∀ (p0_parts : Int32) (p0_partStart : Nat → Int32) (p0_partEnd : Nat → Int32) (p1_depth : Nat → Int32) (p1_line : Nat → Int32), bf_X1_measure_0 F n_p0_partStart n_p0_partEnd p1_size n_p1_weight p1_weight n_p1_depth n_p1_line p0_parts p0_partStart p0_partEnd p1_depth p1_line = some r → X_ p l e ({ frames := 2, cells := 0, slots := 0, locals := 51 } : Room) s m args below meth c Q D vwCl A 2 0 0 (W_X1_X3 cI cZ h_p0 h_p0_partStart h_p0_partEnd h_p1 h_p1_symbol h_p1_weight h_p1_depth h_p1_line p0_parts n_p0_partStart p0_partStart n_p0_partEnd p0_partEnd p1_size n_p1_symbol p1_symbol n_p1_weight p1_weight n_p1_depth p1_depth n_p1_line p1_line) [(0, .ref h_p0), (1, .ref h_p1)] 0 [] := by
  intro p0_parts p0_partStart p0_partEnd p1_depth p1_line h
  unfold bf_X1_measure_0 at h
  refine x_aload_n S dX1_measure_0 rfl 1 rfl ?_
  obtain ⟨v1, h1, h⟩ := gbind h
  refine x_callVv S hK hA (c_X3_lineUpFalling l D cI cZ F h_p1 h_p1_symbol h_p1_weight h_p1_depth h_p1_line p1_size n_p1_symbol p1_symbol n_p1_weight p1_weight n_p1_depth p1_depth n_p1_line p1_line  v1 h1) (cwV 0 S.2.2.2.2 gX1_measure_X3_lineUpFalling rfl rfl rfl (by decide +kernel) ⟨(Nat.le_of_ble_eq_true rfl), (Nat.le_of_ble_eq_true rfl)⟩) [3, 4, 5, 6, 7] [0, 1, 2] rfl (by decide) rfl (by decide) (by decide) 0 3 rfl rfl rfl (Nat.le_of_ble_eq_true rfl) rfl dX1_measure_1 ⟨(Nat.le_of_ble_eq_true rfl), (Nat.le_of_ble_eq_true rfl)⟩ (fun w1 hw1 => ?_)
  subst hw1
  refine x_ws (ws' := (W_X1_X3 cI cZ h_p0 h_p0_partStart h_p0_partEnd h_p1 h_p1_symbol h_p1_weight h_p1_depth h_p1_line p0_parts n_p0_partStart p0_partStart n_p0_partEnd p0_partEnd p1_size n_p1_symbol p1_symbol n_p1_weight p1_weight n_p1_depth p1_depth n_p1_line v1)) [0, 1, 2, 3, 4, 5, 6, 7] (by decide) (by rfl) ?_
  refine x_aload_n S dX1_measure_4 rfl 0 rfl ?_
  refine x_aload_n S dX1_measure_5 rfl 1 rfl ?_
  obtain ⟨v6, h6, h⟩ := gbind h
  refine x_callUv S hK hA (c_X7_partAll_X1 l D cI cZ F h_p0 h_p0_partStart h_p0_partEnd h_p1 h_p1_symbol h_p1_weight h_p1_depth h_p1_line p0_parts n_p0_partStart p0_partStart n_p0_partEnd p0_partEnd p1_size n_p1_symbol p1_symbol n_p1_weight p1_weight n_p1_depth p1_depth n_p1_line v1  v6 h6) (va_cwU 1 S.2.2.2.2 gX1_measure_X7_partAll_u13X1 rfl rfl rfl rfl (by decide +kernel) ⟨(Nat.le_of_ble_eq_true rfl), (Nat.le_of_ble_eq_true rfl)⟩) [0, 1, 2, 3, 4, 5, 6, 7] [] rfl (by decide) rfl (by decide) (by decide) 0 1 rfl rfl rfl (Nat.le_of_ble_eq_true rfl) rfl dX1_measure_6 ⟨(Nat.le_of_ble_eq_true rfl), (Nat.le_of_ble_eq_true rfl)⟩ (fun w1 hw1 => ?_)
  subst hw1
  refine x_ws (ws' := (W_X1_X3 cI cZ h_p0 h_p0_partStart h_p0_partEnd h_p1 h_p1_symbol h_p1_weight h_p1_depth h_p1_line v6.1 n_p0_partStart v6.2.1 n_p0_partEnd v6.2.2.1 p1_size n_p1_symbol p1_symbol n_p1_weight p1_weight n_p1_depth v6.2.2.2 n_p1_line v1)) [0, 1, 2, 3, 4, 5, 6, 7] (by decide) (by rfl) ?_
  obtain rfl := Option.some.inj h
  exact hend _ _ _ hWp dX1_measure_9
noncomputable def fn_X1_measure (F : Nat) (n_p0_partStart : Nat) (n_p0_partEnd : Nat) (p1_size : Int32) (n_p1_weight : Nat) (p1_weight : Nat → Int32) (n_p1_depth : Nat) (n_p1_line : Nat) (p0_parts : Int32) (p0_partStart : Nat → Int32) (p0_partEnd : Nat → Int32) (p1_depth : Nat → Int32) (p1_line : Nat → Int32)  : Option (Int32 × (Nat → Int32) × (Nat → Int32) × (Nat → Int32) × (Nat → Int32)) :=
  bf_X1_measure_0 F n_p0_partStart n_p0_partEnd p1_size n_p1_weight p1_weight n_p1_depth n_p1_line p0_parts p0_partStart p0_partEnd p1_depth p1_line
set_option maxRecDepth 100000 in
set_option maxHeartbeats 4000000 in
theorem c_X1_measure (l : Launch) (D : va_G) (cI cZ : ClassId) (F : Nat) (h_p0 h_p0_partStart h_p0_partEnd h_p1 h_p1_symbol h_p1_weight h_p1_depth h_p1_line : Nat) (p0_parts : Int32) (n_p0_partStart : Nat) (p0_partStart : Nat → Int32) (n_p0_partEnd : Nat) (p0_partEnd : Nat → Int32) (p1_size : Int32) (n_p1_symbol : Nat) (p1_symbol : Nat → Int32) (n_p1_weight : Nat) (p1_weight : Nat → Int32) (n_p1_depth : Nat) (p1_depth : Nat → Int32) (n_p1_line : Nat) (p1_line : Nat → Int32)  (r : Int32 × (Nat → Int32) × (Nat → Int32) × (Nat → Int32) × (Nat → Int32)) (h : fn_X1_measure F n_p0_partStart n_p0_partEnd p1_size n_p1_weight p1_weight n_p1_depth n_p1_line p0_parts p0_partStart p0_partEnd p1_depth p1_line = some r) : Cv l yX1_measure wsX1_measure ({ frames := 2, cells := 0, slots := 0, locals := 51 } : Room) D vwCl [(cI, .int), (cZ, .boolean)] [.ref h_p0, .ref h_p1] (W_X1_X3 cI cZ h_p0 h_p0_partStart h_p0_partEnd h_p1 h_p1_symbol h_p1_weight h_p1_depth h_p1_line p0_parts n_p0_partStart p0_partStart n_p0_partEnd p0_partEnd p1_size n_p1_symbol p1_symbol n_p1_weight p1_weight n_p1_depth p1_depth n_p1_line p1_line) (fun w => w = (W_X1_X3 cI cZ h_p0 h_p0_partStart h_p0_partEnd h_p1 h_p1_symbol h_p1_weight h_p1_depth h_p1_line r.1 n_p0_partStart r.2.1 n_p0_partEnd r.2.2.1 p1_size n_p1_symbol p1_symbol n_p1_weight p1_weight n_p1_depth r.2.2.2.1 n_p1_line r.2.2.2.2)) 0 0 :=
  Cv.ofv (by decide) rfl (Nat.le_of_ble_eq_true rfl) (fun p e s m args below meth c Q A S hK hA hname hend => w_X1_measure_0 S hK hA hend rfl p0_parts p0_partStart p0_partEnd p1_depth p1_line h)
end
