/-! ===== PrefixSmith$Row.<init>()V ===== -/
theorem k_X9_init_3 : Cond.methodLink RX9 3 Lib.objectInit ∈ wsX9_init := by decide +kernel
theorem koi_X9_init : Cond.instanceMethod Lib.objectInit ∈ wsX9_init := by decide +kernel
theorem koc_X9_init : Cond.code Lib.objectInit ⟨#[0xb1]⟩ 1 none ∈ wsX9_init := by decide +kernel
theorem ka_X9_init_int : Cond.arrayClass .int ∈ wsX9_init := by decide +kernel
theorem i_X9_init_X9 : ∀ w ∈ u_ws RX9 TX9 2, w ∈ wsX9_init := by decide +kernel
theorem k_X9_init_9 : Cond.fieldLink RX9 9 "PrefixSmith$Row" "items" "[I" ∈ wsX9_init := by decide +kernel
section
variable {p : Program} {l : Launch} {e : Env} {s : State} {m : MethodId} {args : Array Value} {below : List Frame} {meth : Method} {c : Code} {Q : State → Prop} {D : va_G} {A : Nat → Prop} {cI cZ : ClassId}
noncomputable def bf_X9_init_0 (F : Nat)    : Option (Unit) :=
  (if (600 : Int32) < 0 ∨ 600 < ((600 : Int32)).toNatClampNeg then none else some ())
set_option maxRecDepth 100000 in
set_option maxHeartbeats 4000000 in
theorem w_X9_init_0 (S : CallFix p m c cX9_init 1 s args wsX9_init RX9) (hK : K_ D vwCl [(cI, .int), (cZ, .boolean)] s) (hA : ∀ q, s.heap.size ≤ q → A q) {F : Nat}   {h_p0 : Nat} {r : Unit} {Wp : va_W → Prop} (hend : ∀ (w1 : va_W) (pc : Nat) (lv : List (Nat × Value)), Wp w1 → decode cX9_init pc = .ok (.return_, 1) → X_ p l e ({ frames := 1, cells := 1, slots := 600, locals := 20 } : Room) s m args below meth c Q D vwCl A 1 1 600 w1 lv pc []) (hWp : ∀ (h_p0_items : Nat), Wp [(h_p0, .inr (8, [.ref h_p0_items, .int (0 : Int32)])), (h_p0_items, .inl (cI, ((600 : Int32)).toNatClampNeg, .inl (fun _ => 0)))]) (hname : meth.name = "<init>")   : bf_X9_init_0 F  = some r → X_ p l e ({ frames := 1, cells := 1, slots := 600, locals := 20 } : Room) s m args below meth c Q D vwCl A 1 0 0 [(h_p0, .inr (8, [.null, .int (0 : Int32)]))] [(0, .ref h_p0)] 0 [] := by
  intro h
  unfold bf_X9_init_0 at h
  refine x_aload_n S dX9_init_0 rfl 0 rfl ?_
  refine x_obj S k_X9_init_3 koi_X9_init koc_X9_init (Nat.le_of_ble_eq_true rfl) (Nat.le_of_ble_eq_true rfl) dX9_init_1 ?_
  refine x_aload_n S dX9_init_4 rfl 0 rfl ?_
  refine x_sipush (v := 600) S dX9_init_5 (by decide) ?_
  refine x_newI S hK hA 0 rfl ka_X9_init_int 600 h (by decide) (Nat.le_of_ble_eq_true rfl) (Nat.le_of_ble_eq_true rfl) dX9_init_8 (fun h q8 => ?_)
  refine x_we (ws' := [(h_p0, .inr (8, [.null, .int (0 : Int32)])), (q8, .inl (cI, ((600 : Int32)).toNatClampNeg, .inl (fun _ => 0)))]) rfl ?_
  refine x_wd (k1 := 1) (n1 := 600) (Nat.le_refl _) (Nat.le_refl _) ?_
  refine x_putF (ty := (.array .int)) S hK i_X9_init_X9 tyX9 tyX9_ok nmX9 0 rfl rfl 0 (by decide) k_X9_init_9 rfl rfl hname rfl (by decide +kernel) rfl rfl (Nat.le_of_ble_eq_true rfl) dX9_init_10 rfl ?_
  obtain rfl := Option.some.inj h
  exact hend _ _ _ (hWp q8) dX9_init_13
noncomputable def fn_X9_init (F : Nat)   : Option (Unit) :=
  bf_X9_init_0 F 
set_option maxRecDepth 100000 in
set_option maxHeartbeats 4000000 in
theorem c_X9_init (l : Launch) (D : va_G) (cI cZ : ClassId) (F : Nat) (h_p0 : Nat)   (r : Unit) (h : fn_X9_init F  = some r) : Cv l yX9_init wsX9_init ({ frames := 1, cells := 1, slots := 600, locals := 20 } : Room) D vwCl [(cI, .int), (cZ, .boolean)] [.ref h_p0] [(h_p0, .inr (8, [.null, .int (0 : Int32)]))] (fun w => ∃ h_p0_items : Nat, w = [(h_p0, .inr (8, [.ref h_p0_items, .int (0 : Int32)])), (h_p0_items, .inl (cI, ((600 : Int32)).toNatClampNeg, .inl (fun _ => 0)))]) 1 600 :=
  Cv.ofv (by decide) rfl (Nat.le_of_ble_eq_true rfl) (fun p e s m args below meth c Q A S hK hA hname hend => w_X9_init_0 S hK hA hend (fun h_p0_items => ⟨h_p0_items, rfl⟩) hname  h)
end

/-! ===== PrefixSmith$BitRow.<init>(I)V ===== -/
theorem k_X0_init_3 : Cond.methodLink RX0 3 Lib.objectInit ∈ wsX0_init := by decide +kernel
theorem koi_X0_init : Cond.instanceMethod Lib.objectInit ∈ wsX0_init := by decide +kernel
theorem koc_X0_init : Cond.code Lib.objectInit ⟨#[0xb1]⟩ 1 none ∈ wsX0_init := by decide +kernel
theorem i_X0_init_X0 : ∀ w ∈ u_ws RX0 TX0 4, w ∈ wsX0_init := by decide +kernel
theorem k_X0_init_9 : Cond.fieldLink RX0 9 "PrefixSmith$BitRow" "room" "I" ∈ wsX0_init := by decide +kernel
theorem ka_X0_init_int : Cond.arrayClass .int ∈ wsX0_init := by decide +kernel
theorem k_X0_init_15 : Cond.fieldLink RX0 15 "PrefixSmith$BitRow" "words" "[I" ∈ wsX0_init := by decide +kernel
section
variable {p : Program} {l : Launch} {e : Env} {s : State} {m : MethodId} {args : Array Value} {below : List Frame} {meth : Method} {c : Code} {Q : State → Prop} {D : va_G} {A : Nat → Prop} {cI cZ : ClassId}
noncomputable def bf_X0_init_0 (F : Nat) (x1 : Int32)   : Option (Unit) :=
  (if (32 : Int32) = 0 then none else (if ((x1 + (31 : Int32)) / (32 : Int32)) < 0 ∨ 188 < (((x1 + (31 : Int32)) / (32 : Int32))).toNatClampNeg then none else some ()))
set_option maxRecDepth 100000 in
set_option maxHeartbeats 4000000 in
theorem w_X0_init_0 (S : CallFix p m c cX0_init 2 s args wsX0_init RX0) (hK : K_ D vwCl [(cI, .int), (cZ, .boolean)] s) (hA : ∀ q, s.heap.size ≤ q → A q) {F : Nat}  {x1 : Int32} {h_p0 : Nat} {r : Unit} {Wp : va_W → Prop} (hend : ∀ (w1 : va_W) (pc : Nat) (lv : List (Nat × Value)), Wp w1 → decode cX0_init pc = .ok (.return_, 1) → X_ p l e ({ frames := 1, cells := 1, slots := 188, locals := 20 } : Room) s m args below meth c Q D vwCl A 2 1 188 w1 lv pc []) (hWp : ∀ (h_p0_words : Nat), Wp [(h_p0, .inr (0, [.int x1, .ref h_p0_words, .int (0 : Int32), .int (0 : Int32)])), (h_p0_words, .inl (cI, (((x1 + (31 : Int32)) / (32 : Int32))).toNatClampNeg, .inl (fun _ => 0)))]) (hname : meth.name = "<init>")   : bf_X0_init_0 F x1 = some r → X_ p l e ({ frames := 1, cells := 1, slots := 188, locals := 20 } : Room) s m args below meth c Q D vwCl A 2 0 0 [(h_p0, .inr (0, [.int (0 : Int32), .null, .int (0 : Int32), .int (0 : Int32)]))] [(0, .ref h_p0), (1, .int x1)] 0 [] := by
  intro h
  unfold bf_X0_init_0 at h
  refine x_aload_n S dX0_init_0 rfl 0 rfl ?_
  refine x_obj S k_X0_init_3 koi_X0_init koc_X0_init (Nat.le_of_ble_eq_true rfl) (Nat.le_of_ble_eq_true rfl) dX0_init_1 ?_
  refine x_aload_n S dX0_init_4 rfl 0 rfl ?_
  refine x_iload_n S dX0_init_5 rfl 1 rfl ?_
  refine x_putF (ty := .int) S hK i_X0_init_X0 tyX0 tyX0_ok nmX0 0 rfl rfl 0 (by decide) k_X0_init_9 rfl rfl hname rfl (by decide +kernel) rfl rfl (Nat.le_of_ble_eq_true rfl) dX0_init_6 rfl ?_
  refine x_aload_n S dX0_init_9 rfl 0 rfl ?_
  refine x_iload_n S dX0_init_10 rfl 1 rfl ?_
  refine x_bipush (v := 31) S dX0_init_11 (by decide) ?_
  refine x_iadd S dX0_init_13 ?_
  refine x_bipush (v := 32) S dX0_init_14 (by decide) ?_
  refine x_idiv S dX0_init_16 h (fun h => ?_)
  refine x_newI S hK hA 0 rfl ka_X0_init_int 188 h (by decide) (Nat.le_of_ble_eq_true rfl) (Nat.le_of_ble_eq_true rfl) dX0_init_17 (fun h q17 => ?_)
  refine x_we (ws' := [(h_p0, .inr (0, [.int x1, .null, .int (0 : Int32), .int (0 : Int32)])), (q17, .inl (cI, (((x1 + (31 : Int32)) / (32 : Int32))).toNatClampNeg, .inl (fun _ => 0)))]) rfl ?_
  refine x_wd (k1 := 1) (n1 := 188) (Nat.le_refl _) (Nat.le_refl _) ?_
  refine x_putF (ty := (.array .int)) S hK i_X0_init_X0 tyX0 tyX0_ok nmX0 0 rfl rfl 1 (by decide) k_X0_init_15 rfl rfl hname rfl (by decide +kernel) rfl rfl (Nat.le_of_ble_eq_true rfl) dX0_init_19 rfl ?_
  obtain rfl := Option.some.inj h
  exact hend _ _ _ (hWp q17) dX0_init_22
noncomputable def fn_X0_init (F : Nat) (x1 : Int32)  : Option (Unit) :=
  bf_X0_init_0 F x1
set_option maxRecDepth 100000 in
set_option maxHeartbeats 4000000 in
theorem c_X0_init (l : Launch) (D : va_G) (cI cZ : ClassId) (F : Nat) (h_p0 : Nat)  (x1 : Int32) (r : Unit) (h : fn_X0_init F x1 = some r) : Cv l yX0_init wsX0_init ({ frames := 1, cells := 1, slots := 188, locals := 20 } : Room) D vwCl [(cI, .int), (cZ, .boolean)] [.ref h_p0, .int x1] [(h_p0, .inr (0, [.int (0 : Int32), .null, .int (0 : Int32), .int (0 : Int32)]))] (fun w => ∃ h_p0_words : Nat, w = [(h_p0, .inr (0, [.int x1, .ref h_p0_words, .int (0 : Int32), .int (0 : Int32)])), (h_p0_words, .inl (cI, (((x1 + (31 : Int32)) / (32 : Int32))).toNatClampNeg, .inl (fun _ => 0)))]) 1 188 :=
  Cv.ofv (by decide) rfl (Nat.le_of_ble_eq_true rfl) (fun p e s m args below meth c Q A S hK hA hname hend => w_X0_init_0 S hK hA hend (fun h_p0_words => ⟨h_p0_words, rfl⟩) hname  h)
end

/-! ===== PrefixSmith$Leaves.<init>(I)V ===== -/
theorem k_X3_init_1 : Cond.methodLink RX3 1 Lib.objectInit ∈ wsX3_init := by decide +kernel
theorem koi_X3_init : Cond.instanceMethod Lib.objectInit ∈ wsX3_init := by decide +kernel
theorem koc_X3_init : Cond.code Lib.objectInit ⟨#[0xb1]⟩ 1 none ∈ wsX3_init := by decide +kernel
theorem ka_X3_init_int : Cond.arrayClass .int ∈ wsX3_init := by decide +kernel
theorem i_X3_init_X3 : ∀ w ∈ u_ws RX3 TX3 5, w ∈ wsX3_init := by decide +kernel
theorem k_X3_init_7 : Cond.fieldLink RX3 7 "PrefixSmith$Leaves" "symbol" "[I" ∈ wsX3_init := by decide +kernel
theorem k_X3_init_13 : Cond.fieldLink RX3 13 "PrefixSmith$Leaves" "weight" "[I" ∈ wsX3_init := by decide +kernel
theorem k_X3_init_16 : Cond.fieldLink RX3 16 "PrefixSmith$Leaves" "depth" "[I" ∈ wsX3_init := by decide +kernel
theorem k_X3_init_19 : Cond.fieldLink RX3 19 "PrefixSmith$Leaves" "line" "[I" ∈ wsX3_init := by decide +kernel
section
variable {p : Program} {l : Launch} {e : Env} {s : State} {m : MethodId} {args : Array Value} {below : List Frame} {meth : Method} {c : Code} {Q : State → Prop} {D : va_G} {A : Nat → Prop} {cI cZ : ClassId}
noncomputable def bf_X3_init_0 (F : Nat) (x1 : Int32)   : Option (Unit) :=
  (if x1 < 0 ∨ 96 < (x1).toNatClampNeg then none else (if x1 < 0 ∨ 96 < (x1).toNatClampNeg then none else (if x1 < 0 ∨ 96 < (x1).toNatClampNeg then none else (if x1 < 0 ∨ 96 < (x1).toNatClampNeg then none else some ()))))
set_option maxRecDepth 100000 in
set_option maxHeartbeats 4000000 in
theorem w_X3_init_0 (S : CallFix p m c cX3_init 2 s args wsX3_init RX3) (hK : K_ D vwCl [(cI, .int), (cZ, .boolean)] s) (hA : ∀ q, s.heap.size ≤ q → A q) {F : Nat}  {x1 : Int32} {h_p0 : Nat} {r : Unit} {Wp : va_W → Prop} (hend : ∀ (w1 : va_W) (pc : Nat) (lv : List (Nat × Value)), Wp w1 → decode cX3_init pc = .ok (.return_, 1) → X_ p l e ({ frames := 1, cells := 4, slots := 384, locals := 20 } : Room) s m args below meth c Q D vwCl A 2 4 384 w1 lv pc []) (hWp : ∀ (h_p0_symbol h_p0_weight h_p0_depth h_p0_line : Nat), Wp [(h_p0, .inr (3, [.ref h_p0_symbol, .ref h_p0_weight, .ref h_p0_depth, .ref h_p0_line, .int (0 : Int32)])), (h_p0_symbol, .inl (cI, (x1).toNatClampNeg, .inl (fun _ => 0))), (h_p0_weight, .inl (cI, (x1).toNatClampNeg, .inl (fun _ => 0))), (h_p0_depth, .inl (cI, (x1).toNatClampNeg, .inl (fun _ => 0))), (h_p0_line, .inl (cI, (x1).toNatClampNeg, .inl (fun _ => 0)))]) (hname : meth.name = "<init>")   : bf_X3_init_0 F x1 = some r → X_ p l e ({ frames := 1, cells := 4, slots := 384, locals := 20 } : Room) s m args below meth c Q D vwCl A 2 0 0 [(h_p0, .inr (3, [.null, .null, .null, .null, .int (0 : Int32)]))] [(0, .ref h_p0), (1, .int x1)] 0 [] := by
  intro h
  unfold bf_X3_init_0 at h
  refine x_aload_n S dX3_init_0 rfl 0 rfl ?_
  refine x_obj S k_X3_init_1 koi_X3_init koc_X3_init (Nat.le_of_ble_eq_true rfl) (Nat.le_of_ble_eq_true rfl) dX3_init_1 ?_
  refine x_aload_n S dX3_init_4 rfl 0 rfl ?_
  refine x_iload_n S dX3_init_5 rfl 1 rfl ?_
  refine x_newI S hK hA 0 rfl ka_X3_init_int 96 h (by decide) (Nat.le_of_ble_eq_true rfl) (Nat.le_of_ble_eq_true rfl) dX3_init_6 (fun h q6 => ?_)
  refine x_we (ws' := [(h_p0, .inr (3, [.null, .null, .null, .null, .int (0 : Int32)])), (q6, .inl (cI, (x1).toNatClampNeg, .inl (fun _ => 0)))]) rfl ?_
  refine x_wd (k1 := 1) (n1 := 96) (Nat.le_refl _) (Nat.le_refl _) ?_
  refine x_putF (ty := (.array .int)) S hK i_X3_init_X3 tyX3 tyX3_ok nmX3 0 rfl rfl 0 (by decide) k_X3_init_7 rfl rfl hname rfl (by decide +kernel) rfl rfl (Nat.le_of_ble_eq_true rfl) dX3_init_8 rfl ?_
  refine x_aload_n S dX3_init_11 rfl 0 rfl ?_
  refine x_iload_n S dX3_init_12 rfl 1 rfl ?_
  refine x_newI S hK hA 0 rfl ka_X3_init_int 96 h (by decide) (Nat.le_of_ble_eq_true rfl) (Nat.le_of_ble_eq_true rfl) dX3_init_13 (fun h q13 => ?_)
  refine x_we (ws' := [(h_p0, .inr (3, [.ref q6, .null, .null, .null, .int (0 : Int32)])), (q6, .inl (cI, (x1).toNatClampNeg, .inl (fun _ => 0))), (q13, .inl (cI, (x1).toNatClampNeg, .inl (fun _ => 0)))]) rfl ?_
  refine x_wd (k1 := 2) (n1 := 192) (Nat.le_refl _) (Nat.le_refl _) ?_
  refine x_putF (ty := (.array .int)) S hK i_X3_init_X3 tyX3 tyX3_ok nmX3 0 rfl rfl 1 (by decide) k_X3_init_13 rfl rfl hname rfl (by decide +kernel) rfl rfl (Nat.le_of_ble_eq_true rfl) dX3_init_15 rfl ?_
  refine x_aload_n S dX3_init_18 rfl 0 rfl ?_
  refine x_iload_n S dX3_init_19 rfl 1 rfl ?_
  refine x_newI S hK hA 0 rfl ka_X3_init_int 96 h (by decide) (Nat.le_of_ble_eq_true rfl) (Nat.le_of_ble_eq_true rfl) dX3_init_20 (fun h q20 => ?_)
  refine x_we (ws' := [(h_p0, .inr (3, [.ref q6, .ref q13, .null, .null, .int (0 : Int32)])), (q6, .inl (cI, (x1).toNatClampNeg, .inl (fun _ => 0))), (q13, .inl (cI, (x1).toNatClampNeg, .inl (fun _ => 0))), (q20, .inl (cI, (x1).toNatClampNeg, .inl (fun _ => 0)))]) rfl ?_
  refine x_wd (k1 := 3) (n1 := 288) (Nat.le_refl _) (Nat.le_refl _) ?_
  refine x_putF (ty := (.array .int)) S hK i_X3_init_X3 tyX3 tyX3_ok nmX3 0 rfl rfl 2 (by decide) k_X3_init_16 rfl rfl hname rfl (by decide +kernel) rfl rfl (Nat.le_of_ble_eq_true rfl) dX3_init_22 rfl ?_
  refine x_aload_n S dX3_init_25 rfl 0 rfl ?_
  refine x_iload_n S dX3_init_26 rfl 1 rfl ?_
  refine x_newI S hK hA 0 rfl ka_X3_init_int 96 h (by decide) (Nat.le_of_ble_eq_true rfl) (Nat.le_of_ble_eq_true rfl) dX3_init_27 (fun h q27 => ?_)
  refine x_we (ws' := [(h_p0, .inr (3, [.ref q6, .ref q13, .ref q20, .null, .int (0 : Int32)])), (q6, .inl (cI, (x1).toNatClampNeg, .inl (fun _ => 0))), (q13, .inl (cI, (x1).toNatClampNeg, .inl (fun _ => 0))), (q20, .inl (cI, (x1).toNatClampNeg, .inl (fun _ => 0))), (q27, .inl (cI, (x1).toNatClampNeg, .inl (fun _ => 0)))]) rfl ?_
  refine x_wd (k1 := 4) (n1 := 384) (Nat.le_refl _) (Nat.le_refl _) ?_
  refine x_putF (ty := (.array .int)) S hK i_X3_init_X3 tyX3 tyX3_ok nmX3 0 rfl rfl 3 (by decide) k_X3_init_19 rfl rfl hname rfl (by decide +kernel) rfl rfl (Nat.le_of_ble_eq_true rfl) dX3_init_29 rfl ?_
  obtain rfl := Option.some.inj h
  exact hend _ _ _ (hWp q6 q13 q20 q27) dX3_init_32
noncomputable def fn_X3_init (F : Nat) (x1 : Int32)  : Option (Unit) :=
  bf_X3_init_0 F x1
set_option maxRecDepth 100000 in
set_option maxHeartbeats 4000000 in
theorem c_X3_init (l : Launch) (D : va_G) (cI cZ : ClassId) (F : Nat) (h_p0 : Nat)  (x1 : Int32) (r : Unit) (h : fn_X3_init F x1 = some r) : Cv l yX3_init wsX3_init ({ frames := 1, cells := 4, slots := 384, locals := 20 } : Room) D vwCl [(cI, .int), (cZ, .boolean)] [.ref h_p0, .int x1] [(h_p0, .inr (3, [.null, .null, .null, .null, .int (0 : Int32)]))] (fun w => ∃ h_p0_symbol h_p0_weight h_p0_depth h_p0_line : Nat, w = [(h_p0, .inr (3, [.ref h_p0_symbol, .ref h_p0_weight, .ref h_p0_depth, .ref h_p0_line, .int (0 : Int32)])), (h_p0_symbol, .inl (cI, (x1).toNatClampNeg, .inl (fun _ => 0))), (h_p0_weight, .inl (cI, (x1).toNatClampNeg, .inl (fun _ => 0))), (h_p0_depth, .inl (cI, (x1).toNatClampNeg, .inl (fun _ => 0))), (h_p0_line, .inl (cI, (x1).toNatClampNeg, .inl (fun _ => 0)))]) 4 384 :=
  Cv.ofv (by decide) rfl (Nat.le_of_ble_eq_true rfl) (fun p e s m args below meth c Q A S hK hA hname hend => w_X3_init_0 S hK hA hend (fun h_p0_symbol h_p0_weight h_p0_depth h_p0_line => ⟨h_p0_symbol, h_p0_weight, h_p0_depth, h_p0_line, rfl⟩) hname  h)
end

/-! ===== PrefixSmith$Merging.<init>(I)V ===== -/
theorem k_X4_init_1 : Cond.methodLink RX4 1 Lib.objectInit ∈ wsX4_init := by decide +kernel
theorem koi_X4_init : Cond.instanceMethod Lib.objectInit ∈ wsX4_init := by decide +kernel
theorem koc_X4_init : Cond.code Lib.objectInit ⟨#[0xb1]⟩ 1 none ∈ wsX4_init := by decide +kernel
theorem ka_X4_init_int : Cond.arrayClass .int ∈ wsX4_init := by decide +kernel
theorem i_X4_init_X4 : ∀ w ∈ u_ws RX4 TX4 7, w ∈ wsX4_init := by decide +kernel
theorem k_X4_init_7 : Cond.fieldLink RX4 7 "PrefixSmith$Merging" "weight" "[I" ∈ wsX4_init := by decide +kernel
theorem k_X4_init_13 : Cond.fieldLink RX4 13 "PrefixSmith$Merging" "above" "[I" ∈ wsX4_init := by decide +kernel
theorem k_X4_init_16 : Cond.fieldLink RX4 16 "PrefixSmith$Merging" "depth" "[I" ∈ wsX4_init := by decide +kernel
theorem k_X4_init_19 : Cond.fieldLink RX4 19 "PrefixSmith$Merging" "open" "[I" ∈ wsX4_init := by decide +kernel
section
variable {p : Program} {l : Launch} {e : Env} {s : State} {m : MethodId} {args : Array Value} {below : List Frame} {meth : Method} {c : Code} {Q : State → Prop} {D : va_G} {A : Nat → Prop} {cI cZ : ClassId}
noncomputable def bf_X4_init_0 (F : Nat) (x1 : Int32)   : Option (Unit) :=
  (if ((2 : Int32) * x1) < 0 ∨ 192 < (((2 : Int32) * x1)).toNatClampNeg then none else (if ((2 : Int32) * x1) < 0 ∨ 192 < (((2 : Int32) * x1)).toNatClampNeg then none else (if ((2 : Int32) * x1) < 0 ∨ 192 < (((2 : Int32) * x1)).toNatClampNeg then none else (if x1 < 0 ∨ 96 < (x1).toNatClampNeg then none else some ()))))
set_option maxRecDepth 100000 in
set_option maxHeartbeats 4000000 in
theorem w_X4_init_0 (S : CallFix p m c cX4_init 2 s args wsX4_init RX4) (hK : K_ D vwCl [(cI, .int), (cZ, .boolean)] s) (hA : ∀ q, s.heap.size ≤ q → A q) {F : Nat}  {x1 : Int32} {h_p0 : Nat} {r : Unit} {Wp : va_W → Prop} (hend : ∀ (w1 : va_W) (pc : Nat) (lv : List (Nat × Value)), Wp w1 → decode cX4_init pc = .ok (.return_, 1) → X_ p l e ({ frames := 1, cells := 4, slots := 672, locals := 20 } : Room) s m args below meth c Q D vwCl A 2 4 672 w1 lv pc []) (hWp : ∀ (h_p0_weight h_p0_above h_p0_depth h_p0_open : Nat), Wp [(h_p0, .inr (4, [.ref h_p0_weight, .ref h_p0_above, .ref h_p0_depth, .ref h_p0_open, .int (0 : Int32), .int (0 : Int32), .int (0 : Int32)])), (h_p0_weight, .inl (cI, (((2 : Int32) * x1)).toNatClampNeg, .inl (fun _ => 0))), (h_p0_above, .inl (cI, (((2 : Int32) * x1)).toNatClampNeg, .inl (fun _ => 0))), (h_p0_depth, .inl (cI, (((2 : Int32) * x1)).toNatClampNeg, .inl (fun _ => 0))), (h_p0_open, .inl (cI, (x1).toNatClampNeg, .inl (fun _ => 0)))]) (hname : meth.name = "<init>")   : bf_X4_init_0 F x1 = some r → X_ p l e ({ frames := 1, cells := 4, slots := 672, locals := 20 } : Room) s m args below meth c Q D vwCl A 2 0 0 [(h_p0, .inr (4, [.null, .null, .null, .null, .int (0 : Int32), .int (0 : Int32), .int (0 : Int32)]))] [(0, .ref h_p0), (1, .int x1)] 0 [] := by
  intro h
  unfold bf_X4_init_0 at h
  refine x_aload_n S dX4_init_0 rfl 0 rfl ?_
  refine x_obj S k_X4_init_1 koi_X4_init koc_X4_init (Nat.le_of_ble_eq_true rfl) (Nat.le_of_ble_eq_true rfl) dX4_init_1 ?_
  refine x_aload_n S dX4_init_4 rfl 0 rfl ?_
  refine x_iconst (v := 2) S dX4_init_5 (by decide) ?_
  refine x_iload_n S dX4_init_6 rfl 1 rfl ?_
  refine x_imul S dX4_init_7 ?_
  refine x_newI S hK hA 0 rfl ka_X4_init_int 192 h (by decide) (Nat.le_of_ble_eq_true rfl) (Nat.le_of_ble_eq_true rfl) dX4_init_8 (fun h q8 => ?_)
  refine x_we (ws' := [(h_p0, .inr (4, [.null, .null, .null, .null, .int (0 : Int32), .int (0 : Int32), .int (0 : Int32)])), (q8, .inl (cI, (((2 : Int32) * x1)).toNatClampNeg, .inl (fun _ => 0)))]) rfl ?_
  refine x_wd (k1 := 1) (n1 := 192) (Nat.le_refl _) (Nat.le_refl _) ?_
  refine x_putF (ty := (.array .int)) S hK i_X4_init_X4 tyX4 tyX4_ok nmX4 0 rfl rfl 0 (by decide) k_X4_init_7 rfl rfl hname rfl (by decide +kernel) rfl rfl (Nat.le_of_ble_eq_true rfl) dX4_init_10 rfl ?_
  refine x_aload_n S dX4_init_13 rfl 0 rfl ?_
  refine x_iconst (v := 2) S dX4_init_14 (by decide) ?_
  refine x_iload_n S dX4_init_15 rfl 1 rfl ?_
  refine x_imul S dX4_init_16 ?_
  refine x_newI S hK hA 0 rfl ka_X4_init_int 192 h (by decide) (Nat.le_of_ble_eq_true rfl) (Nat.le_of_ble_eq_true rfl) dX4_init_17 (fun h q17 => ?_)
  refine x_we (ws' := [(h_p0, .inr (4, [.ref q8, .null, .null, .null, .int (0 : Int32), .int (0 : Int32), .int (0 : Int32)])), (q8, .inl (cI, (((2 : Int32) * x1)).toNatClampNeg, .inl (fun _ => 0))), (q17, .inl (cI, (((2 : Int32) * x1)).toNatClampNeg, .inl (fun _ => 0)))]) rfl ?_
  refine x_wd (k1 := 2) (n1 := 384) (Nat.le_refl _) (Nat.le_refl _) ?_
  refine x_putF (ty := (.array .int)) S hK i_X4_init_X4 tyX4 tyX4_ok nmX4 0 rfl rfl 1 (by decide) k_X4_init_13 rfl rfl hname rfl (by decide +kernel) rfl rfl (Nat.le_of_ble_eq_true rfl) dX4_init_19 rfl ?_
  refine x_aload_n S dX4_init_22 rfl 0 rfl ?_
  refine x_iconst (v := 2) S dX4_init_23 (by decide) ?_
  refine x_iload_n S dX4_init_24 rfl 1 rfl ?_
  refine x_imul S dX4_init_25 ?_
  refine x_newI S hK hA 0 rfl ka_X4_init_int 192 h (by decide) (Nat.le_of_ble_eq_true rfl) (Nat.le_of_ble_eq_true rfl) dX4_init_26 (fun h q26 => ?_)
  refine x_we (ws' := [(h_p0, .inr (4, [.ref q8, .ref q17, .null, .null, .int (0 : Int32), .int (0 : Int32), .int (0 : Int32)])), (q8, .inl (cI, (((2 : Int32) * x1)).toNatClampNeg, .inl (fun _ => 0))), (q17, .inl (cI, (((2 : Int32) * x1)).toNatClampNeg, .inl (fun _ => 0))), (q26, .inl (cI, (((2 : Int32) * x1)).toNatClampNeg, .inl (fun _ => 0)))]) rfl ?_
  refine x_wd (k1 := 3) (n1 := 576) (Nat.le_refl _) (Nat.le_refl _) ?_
  refine x_putF (ty := (.array .int)) S hK i_X4_init_X4 tyX4 tyX4_ok nmX4 0 rfl rfl 2 (by decide) k_X4_init_16 rfl rfl hname rfl (by decide +kernel) rfl rfl (Nat.le_of_ble_eq_true rfl) dX4_init_28 rfl ?_
  refine x_aload_n S dX4_init_31 rfl 0 rfl ?_
  refine x_iload_n S dX4_init_32 rfl 1 rfl ?_
  refine x_newI S hK hA 0 rfl ka_X4_init_int 96 h (by decide) (Nat.le_of_ble_eq_true rfl) (Nat.le_of_ble_eq_true rfl) dX4_init_33 (fun h q33 => ?_)
  refine x_we (ws' := [(h_p0, .inr (4, [.ref q8, .ref q17, .ref q26, .null, .int (0 : Int32), .int (0 : Int32), .int (0 : Int32)])), (q8, .inl (cI, (((2 : Int32) * x1)).toNatClampNeg, .inl (fun _ => 0))), (q17, .inl (cI, (((2 : Int32) * x1)).toNatClampNeg, .inl (fun _ => 0))), (q26, .inl (cI, (((2 : Int32) * x1)).toNatClampNeg, .inl (fun _ => 0))), (q33, .inl (cI, (x1).toNatClampNeg, .inl (fun _ => 0)))]) rfl ?_
  refine x_wd (k1 := 4) (n1 := 672) (Nat.le_refl _) (Nat.le_refl _) ?_
  refine x_putF (ty := (.array .int)) S hK i_X4_init_X4 tyX4 tyX4_ok nmX4 0 rfl rfl 3 (by decide) k_X4_init_19 rfl rfl hname rfl (by decide +kernel) rfl rfl (Nat.le_of_ble_eq_true rfl) dX4_init_35 rfl ?_
  obtain rfl := Option.some.inj h
  exact hend _ _ _ (hWp q8 q17 q26 q33) dX4_init_38
noncomputable def fn_X4_init (F : Nat) (x1 : Int32)  : Option (Unit) :=
  bf_X4_init_0 F x1
set_option maxRecDepth 100000 in
set_option maxHeartbeats 4000000 in
theorem c_X4_init (l : Launch) (D : va_G) (cI cZ : ClassId) (F : Nat) (h_p0 : Nat)  (x1 : Int32) (r : Unit) (h : fn_X4_init F x1 = some r) : Cv l yX4_init wsX4_init ({ frames := 1, cells := 4, slots := 672, locals := 20 } : Room) D vwCl [(cI, .int), (cZ, .boolean)] [.ref h_p0, .int x1] [(h_p0, .inr (4, [.null, .null, .null, .null, .int (0 : Int32), .int (0 : Int32), .int (0 : Int32)]))] (fun w => ∃ h_p0_weight h_p0_above h_p0_depth h_p0_open : Nat, w = [(h_p0, .inr (4, [.ref h_p0_weight, .ref h_p0_above, .ref h_p0_depth, .ref h_p0_open, .int (0 : Int32), .int (0 : Int32), .int (0 : Int32)])), (h_p0_weight, .inl (cI, (((2 : Int32) * x1)).toNatClampNeg, .inl (fun _ => 0))), (h_p0_above, .inl (cI, (((2 : Int32) * x1)).toNatClampNeg, .inl (fun _ => 0))), (h_p0_depth, .inl (cI, (((2 : Int32) * x1)).toNatClampNeg, .inl (fun _ => 0))), (h_p0_open, .inl (cI, (x1).toNatClampNeg, .inl (fun _ => 0)))]) 4 672 :=
  Cv.ofv (by decide) rfl (Nat.le_of_ble_eq_true rfl) (fun p e s m args below meth c Q A S hK hA hname hend => w_X4_init_0 S hK hA hend (fun h_p0_weight h_p0_above h_p0_depth h_p0_open => ⟨h_p0_weight, h_p0_above, h_p0_depth, h_p0_open, rfl⟩) hname  h)
end

/-! ===== PrefixSmith$Table.<init>(II)V ===== -/
theorem k_X10_init_3 : Cond.methodLink RX10 3 Lib.objectInit ∈ wsX10_init := by decide +kernel
theorem koi_X10_init : Cond.instanceMethod Lib.objectInit ∈ wsX10_init := by decide +kernel
theorem koc_X10_init : Cond.code Lib.objectInit ⟨#[0xb1]⟩ 1 none ∈ wsX10_init := by decide +kernel
theorem i_X10_init_X10 : ∀ w ∈ u_ws RX10 TX10 9, w ∈ wsX10_init := by decide +kernel
theorem k_X10_init_9 : Cond.fieldLink RX10 9 "PrefixSmith$Table" "symbols" "I" ∈ wsX10_init := by decide +kernel
theorem k_X10_init_15 : Cond.fieldLink RX10 15 "PrefixSmith$Table" "most" "I" ∈ wsX10_init := by decide +kernel
theorem ka_X10_init_int : Cond.arrayClass .int ∈ wsX10_init := by decide +kernel
theorem k_X10_init_18 : Cond.fieldLink RX10 18 "PrefixSmith$Table" "lengths" "[I" ∈ wsX10_init := by decide +kernel
theorem k_X10_init_22 : Cond.fieldLink RX10 22 "PrefixSmith$Table" "codes" "[I" ∈ wsX10_init := by decide +kernel
theorem k_X10_init_25 : Cond.fieldLink RX10 25 "PrefixSmith$Table" "below" "[I" ∈ wsX10_init := by decide +kernel
section
variable {p : Program} {l : Launch} {e : Env} {s : State} {m : MethodId} {args : Array Value} {below : List Frame} {meth : Method} {c : Code} {Q : State → Prop} {D : va_G} {A : Nat → Prop} {cI cZ : ClassId}
noncomputable def bf_X10_init_0 (F : Nat) (x1 : Int32) (x2 : Int32)   : Option (Unit) :=
  (if x1 < 0 ∨ 96 < (x1).toNatClampNeg then none else (if x1 < 0 ∨ 96 < (x1).toNatClampNeg then none else (if ((2 : Int32) * (x1 + x2)) < 0 ∨ 240 < (((2 : Int32) * (x1 + x2))).toNatClampNeg then none else some ())))
set_option maxRecDepth 100000 in
set_option maxHeartbeats 4000000 in
theorem w_X10_init_0 (S : CallFix p m c cX10_init 3 s args wsX10_init RX10) (hK : K_ D vwCl [(cI, .int), (cZ, .boolean)] s) (hA : ∀ q, s.heap.size ≤ q → A q) {F : Nat}  {x1 : Int32} {x2 : Int32} {h_p0 : Nat} {r : Unit} {Wp : va_W → Prop} (hend : ∀ (w1 : va_W) (pc : Nat) (lv : List (Nat × Value)), Wp w1 → decode cX10_init pc = .ok (.return_, 1) → X_ p l e ({ frames := 1, cells := 3, slots := 432, locals := 20 } : Room) s m args below meth c Q D vwCl A 3 3 432 w1 lv pc []) (hWp : ∀ (h_p0_lengths h_p0_codes h_p0_below : Nat), Wp [(h_p0, .inr (9, [.int x1, .int x2, .ref h_p0_lengths, .ref h_p0_codes, .ref h_p0_below, .int (0 : Int32), .int (0 : Int32), .int (0 : Int32), .int (0 : Int32)])), (h_p0_lengths, .inl (cI, (x1).toNatClampNeg, .inl (fun _ => 0))), (h_p0_codes, .inl (cI, (x1).toNatClampNeg, .inl (fun _ => 0))), (h_p0_below, .inl (cI, (((2 : Int32) * (x1 + x2))).toNatClampNeg, .inl (fun _ => 0)))]) (hname : meth.name = "<init>")   : bf_X10_init_0 F x1 x2 = some r → X_ p l e ({ frames := 1, cells := 3, slots := 432, locals := 20 } : Room) s m args below meth c Q D vwCl A 3 0 0 [(h_p0, .inr (9, [.int (0 : Int32), .int (0 : Int32), .null, .null, .null, .int (0 : Int32), .int (0 : Int32), .int (0 : Int32), .int (0 : Int32)]))] [(0, .ref h_p0), (1, .int x1), (2, .int x2)] 0 [] := by
  intro h
  unfold bf_X10_init_0 at h
  refine x_aload_n S dX10_init_0 rfl 0 rfl ?_
  refine x_obj S k_X10_init_3 koi_X10_init koc_X10_init (Nat.le_of_ble_eq_true rfl) (Nat.le_of_ble_eq_true rfl) dX10_init_1 ?_
  refine x_aload_n S dX10_init_4 rfl 0 rfl ?_
  refine x_iload_n S dX10_init_5 rfl 1 rfl ?_
  refine x_putF (ty := .int) S hK i_X10_init_X10 tyX10 tyX10_ok nmX10 0 rfl rfl 0 (by decide) k_X10_init_9 rfl rfl hname rfl (by decide +kernel) rfl rfl (Nat.le_of_ble_eq_true rfl) dX10_init_6 rfl ?_
  refine x_aload_n S dX10_init_9 rfl 0 rfl ?_
  refine x_iload_n S dX10_init_10 rfl 2 rfl ?_
  refine x_putF (ty := .int) S hK i_X10_init_X10 tyX10 tyX10_ok nmX10 0 rfl rfl 1 (by decide) k_X10_init_15 rfl rfl hname rfl (by decide +kernel) rfl rfl (Nat.le_of_ble_eq_true rfl) dX10_init_11 rfl ?_
  refine x_aload_n S dX10_init_14 rfl 0 rfl ?_
  refine x_iload_n S dX10_init_15 rfl 1 rfl ?_
  refine x_newI S hK hA 0 rfl ka_X10_init_int 96 h (by decide) (Nat.le_of_ble_eq_true rfl) (Nat.le_of_ble_eq_true rfl) dX10_init_16 (fun h q16 => ?_)
  refine x_we (ws' := [(h_p0, .inr (9, [.int x1, .int x2, .null, .null, .null, .int (0 : Int32), .int (0 : Int32), .int (0 : Int32), .int (0 : Int32)])), (q16, .inl (cI, (x1).toNatClampNeg, .inl (fun _ => 0)))]) rfl ?_
  refine x_wd (k1 := 1) (n1 := 96) (Nat.le_refl _) (Nat.le_refl _) ?_
  refine x_putF (ty := (.array .int)) S hK i_X10_init_X10 tyX10 tyX10_ok nmX10 0 rfl rfl 2 (by decide) k_X10_init_18 rfl rfl hname rfl (by decide +kernel) rfl rfl (Nat.le_of_ble_eq_true rfl) dX10_init_18 rfl ?_
  refine x_aload_n S dX10_init_21 rfl 0 rfl ?_
  refine x_iload_n S dX10_init_22 rfl 1 rfl ?_
  refine x_newI S hK hA 0 rfl ka_X10_init_int 96 h (by decide) (Nat.le_of_ble_eq_true rfl) (Nat.le_of_ble_eq_true rfl) dX10_init_23 (fun h q23 => ?_)
  refine x_we (ws' := [(h_p0, .inr (9, [.int x1, .int x2, .ref q16, .null, .null, .int (0 : Int32), .int (0 : Int32), .int (0 : Int32), .int (0 : Int32)])), (q16, .inl (cI, (x1).toNatClampNeg, .inl (fun _ => 0))), (q23, .inl (cI, (x1).toNatClampNeg, .inl (fun _ => 0)))]) rfl ?_
  refine x_wd (k1 := 2) (n1 := 192) (Nat.le_refl _) (Nat.le_refl _) ?_
  refine x_putF (ty := (.array .int)) S hK i_X10_init_X10 tyX10 tyX10_ok nmX10 0 rfl rfl 3 (by decide) k_X10_init_22 rfl rfl hname rfl (by decide +kernel) rfl rfl (Nat.le_of_ble_eq_true rfl) dX10_init_25 rfl ?_
  refine x_aload_n S dX10_init_28 rfl 0 rfl ?_
  refine x_iconst (v := 2) S dX10_init_29 (by decide) ?_
  refine x_iload_n S dX10_init_30 rfl 1 rfl ?_
  refine x_iload_n S dX10_init_31 rfl 2 rfl ?_
  refine x_iadd S dX10_init_32 ?_
  refine x_imul S dX10_init_33 ?_
  refine x_newI S hK hA 0 rfl ka_X10_init_int 240 h (by decide) (Nat.le_of_ble_eq_true rfl) (Nat.le_of_ble_eq_true rfl) dX10_init_34 (fun h q34 => ?_)
  refine x_we (ws' := [(h_p0, .inr (9, [.int x1, .int x2, .ref q16, .ref q23, .null, .int (0 : Int32), .int (0 : Int32), .int (0 : Int32), .int (0 : Int32)])), (q16, .inl (cI, (x1).toNatClampNeg, .inl (fun _ => 0))), (q23, .inl (cI, (x1).toNatClampNeg, .inl (fun _ => 0))), (q34, .inl (cI, (((2 : Int32) * (x1 + x2))).toNatClampNeg, .inl (fun _ => 0)))]) rfl ?_
  refine x_wd (k1 := 3) (n1 := 432) (Nat.le_refl _) (Nat.le_refl _) ?_
  refine x_putF (ty := (.array .int)) S hK i_X10_init_X10 tyX10 tyX10_ok nmX10 0 rfl rfl 4 (by decide) k_X10_init_25 rfl rfl hname rfl (by decide +kernel) rfl rfl (Nat.le_of_ble_eq_true rfl) dX10_init_36 rfl ?_
  obtain rfl := Option.some.inj h
  exact hend _ _ _ (hWp q16 q23 q34) dX10_init_39
noncomputable def fn_X10_init (F : Nat) (x1 : Int32) (x2 : Int32)  : Option (Unit) :=
  bf_X10_init_0 F x1 x2
set_option maxRecDepth 100000 in
set_option maxHeartbeats 4000000 in
theorem c_X10_init (l : Launch) (D : va_G) (cI cZ : ClassId) (F : Nat) (h_p0 : Nat)  (x1 : Int32) (x2 : Int32) (r : Unit) (h : fn_X10_init F x1 x2 = some r) : Cv l yX10_init wsX10_init ({ frames := 1, cells := 3, slots := 432, locals := 20 } : Room) D vwCl [(cI, .int), (cZ, .boolean)] [.ref h_p0, .int x1, .int x2] [(h_p0, .inr (9, [.int (0 : Int32), .int (0 : Int32), .null, .null, .null, .int (0 : Int32), .int (0 : Int32), .int (0 : Int32), .int (0 : Int32)]))] (fun w => ∃ h_p0_lengths h_p0_codes h_p0_below : Nat, w = [(h_p0, .inr (9, [.int x1, .int x2, .ref h_p0_lengths, .ref h_p0_codes, .ref h_p0_below, .int (0 : Int32), .int (0 : Int32), .int (0 : Int32), .int (0 : Int32)])), (h_p0_lengths, .inl (cI, (x1).toNatClampNeg, .inl (fun _ => 0))), (h_p0_codes, .inl (cI, (x1).toNatClampNeg, .inl (fun _ => 0))), (h_p0_below, .inl (cI, (((2 : Int32) * (x1 + x2))).toNatClampNeg, .inl (fun _ => 0)))]) 3 432 :=
  Cv.ofv (by decide) rfl (Nat.le_of_ble_eq_true rfl) (fun p e s m args below meth c Q A S hK hA hname hend => w_X10_init_0 S hK hA hend (fun h_p0_lengths h_p0_codes h_p0_below => ⟨h_p0_lengths, h_p0_codes, h_p0_below, rfl⟩) hname  h)
end

/-! ===== PrefixSmith$Parting.<init>(I)V on PrefixSmith$Halves ===== -/
theorem k_X7_init_1 : Cond.methodLink RX7 1 Lib.objectInit ∈ wsX7_init := by decide +kernel
theorem koi_X7_init : Cond.instanceMethod Lib.objectInit ∈ wsX7_init := by decide +kernel
theorem koc_X7_init : Cond.code Lib.objectInit ⟨#[0xb1]⟩ 1 none ∈ wsX7_init := by decide +kernel
theorem ka_X7_init_int : Cond.arrayClass .int ∈ wsX7_init := by decide +kernel
theorem i_X7_init_X1 : ∀ w ∈ u_ws RX1 TX1 3, w ∈ wsX7_init := by decide +kernel
theorem k_X7_init_7 : Cond.fieldLink RX7 7 "PrefixSmith$Parting" "partStart" "[I" ∈ wsX7_init := by decide +kernel
theorem k_X7_init_13 : Cond.fieldLink RX7 13 "PrefixSmith$Parting" "partEnd" "[I" ∈ wsX7_init := by decide +kernel
section
variable {p : Program} {l : Launch} {e : Env} {s : State} {m : MethodId} {args : Array Value} {below : List Frame} {meth : Method} {c : Code} {Q : State → Prop} {D : va_G} {A : Nat → Prop} {cI cZ : ClassId}
noncomputable def bf_X7_init_X1_0 (F : Nat) (x1 : Int32)   : Option (Unit) :=
  (if x1 < 0 ∨ 96 < (x1).toNatClampNeg then none else (if x1 < 0 ∨ 96 < (x1).toNatClampNeg then none else some ()))
set_option maxRecDepth 100000 in
set_option maxHeartbeats 4000000 in
theorem w_X7_init_X1_0 (S : CallFix p m c cX7_init 2 s args wsX7_init RX7) (hK : K_ D vwCl [(cI, .int), (cZ, .boolean)] s) (hA : ∀ q, s.heap.size ≤ q → A q) {F : Nat}  {x1 : Int32} {h_p0 : Nat} {r : Unit} {Wp : va_W → Prop} (hend : ∀ (w1 : va_W) (pc : Nat) (lv : List (Nat × Value)), Wp w1 → decode cX7_init pc = .ok (.return_, 1) → X_ p l e ({ frames := 1, cells := 2, slots := 192, locals := 20 } : Room) s m args below meth c Q D vwCl A 2 2 192 w1 lv pc []) (hWp : ∀ (h_p0_partStart h_p0_partEnd : Nat), Wp [(h_p0, .inr (1, [.ref h_p0_partStart, .ref h_p0_partEnd, .int (0 : Int32)])), (h_p0_partStart, .inl (cI, (x1).toNatClampNeg, .inl (fun _ => 0))), (h_p0_partEnd, .inl (cI, (x1).toNatClampNeg, .inl (fun _ => 0)))]) (hname : meth.name = "<init>")   : bf_X7_init_X1_0 F x1 = some r → X_ p l e ({ frames := 1, cells := 2, slots := 192, locals := 20 } : Room) s m args below meth c Q D vwCl A 2 0 0 [(h_p0, .inr (1, [.null, .null, .int (0 : Int32)]))] [(0, .ref h_p0), (1, .int x1)] 0 [] := by
  intro h
  unfold bf_X7_init_X1_0 at h
  refine x_aload_n S dX7_init_0 rfl 0 rfl ?_
  refine x_obj S k_X7_init_1 koi_X7_init koc_X7_init (Nat.le_of_ble_eq_true rfl) (Nat.le_of_ble_eq_true rfl) dX7_init_1 ?_
  refine x_aload_n S dX7_init_4 rfl 0 rfl ?_
  refine x_iload_n S dX7_init_5 rfl 1 rfl ?_
  refine x_newI S hK hA 0 rfl ka_X7_init_int 96 h (by decide) (Nat.le_of_ble_eq_true rfl) (Nat.le_of_ble_eq_true rfl) dX7_init_6 (fun h q6 => ?_)
  refine x_we (ws' := [(h_p0, .inr (1, [.null, .null, .int (0 : Int32)])), (q6, .inl (cI, (x1).toNatClampNeg, .inl (fun _ => 0)))]) rfl ?_
  refine x_wd (k1 := 1) (n1 := 96) (Nat.le_refl _) (Nat.le_refl _) ?_
  refine x_putF (ty := (.array .int)) S hK i_X7_init_X1 tyX1 tyX1_ok nmX1 0 rfl rfl 0 (by decide) k_X7_init_7 rfl rfl hname rfl (by decide +kernel) rfl rfl (Nat.le_of_ble_eq_true rfl) dX7_init_8 rfl ?_
  refine x_aload_n S dX7_init_11 rfl 0 rfl ?_
  refine x_iload_n S dX7_init_12 rfl 1 rfl ?_
  refine x_newI S hK hA 0 rfl ka_X7_init_int 96 h (by decide) (Nat.le_of_ble_eq_true rfl) (Nat.le_of_ble_eq_true rfl) dX7_init_13 (fun h q13 => ?_)
  refine x_we (ws' := [(h_p0, .inr (1, [.ref q6, .null, .int (0 : Int32)])), (q6, .inl (cI, (x1).toNatClampNeg, .inl (fun _ => 0))), (q13, .inl (cI, (x1).toNatClampNeg, .inl (fun _ => 0)))]) rfl ?_
  refine x_wd (k1 := 2) (n1 := 192) (Nat.le_refl _) (Nat.le_refl _) ?_
  refine x_putF (ty := (.array .int)) S hK i_X7_init_X1 tyX1 tyX1_ok nmX1 0 rfl rfl 1 (by decide) k_X7_init_13 rfl rfl hname rfl (by decide +kernel) rfl rfl (Nat.le_of_ble_eq_true rfl) dX7_init_15 rfl ?_
  obtain rfl := Option.some.inj h
  exact hend _ _ _ (hWp q6 q13) dX7_init_18
noncomputable def fn_X7_init_X1 (F : Nat) (x1 : Int32)  : Option (Unit) :=
  bf_X7_init_X1_0 F x1
set_option maxRecDepth 100000 in
set_option maxHeartbeats 4000000 in
theorem c_X7_init_X1 (l : Launch) (D : va_G) (cI cZ : ClassId) (F : Nat) (h_p0 : Nat)  (x1 : Int32) (r : Unit) (h : fn_X7_init_X1 F x1 = some r) : Cv l yX7_init wsX7_init ({ frames := 1, cells := 2, slots := 192, locals := 20 } : Room) D vwCl [(cI, .int), (cZ, .boolean)] [.ref h_p0, .int x1] [(h_p0, .inr (1, [.null, .null, .int (0 : Int32)]))] (fun w => ∃ h_p0_partStart h_p0_partEnd : Nat, w = [(h_p0, .inr (1, [.ref h_p0_partStart, .ref h_p0_partEnd, .int (0 : Int32)])), (h_p0_partStart, .inl (cI, (x1).toNatClampNeg, .inl (fun _ => 0))), (h_p0_partEnd, .inl (cI, (x1).toNatClampNeg, .inl (fun _ => 0)))]) 2 192 :=
  Cv.ofv (by decide) rfl (Nat.le_of_ble_eq_true rfl) (fun p e s m args below meth c Q A S hK hA hname hend => w_X7_init_X1_0 S hK hA hend (fun h_p0_partStart h_p0_partEnd => ⟨h_p0_partStart, h_p0_partEnd, rfl⟩) hname  h)
end

/-! ===== PrefixSmith$Halves.<init>(I)V ===== -/
theorem kini_X1_init_X7 : Cond.initialized RX7 ∈ wsX1_init := by decide +kernel
theorem kim_X1_init_X7_init : Cond.instanceMethod yX7_init ∈ wsX1_init := by decide +kernel
theorem k_X1_init_1 : Cond.methodLink RX1 1 yX7_init ∈ wsX1_init := by decide +kernel
section
variable {p : Program} {l : Launch} {e : Env} {s : State} {m : MethodId} {args : Array Value} {below : List Frame} {meth : Method} {c : Code} {Q : State → Prop} {D : va_G} {A : Nat → Prop} {cI cZ : ClassId}
noncomputable def bf_X1_init_0 (F : Nat) (x1 : Int32)   : Option (Unit) :=
  ((fn_X7_init_X1 F x1).bind fun v2 => some ())
set_option maxRecDepth 100000 in
set_option maxHeartbeats 4000000 in
theorem w_X1_init_0 (S : CallFix p m c cX1_init 2 s args wsX1_init RX1) (hK : K_ D vwCl [(cI, .int), (cZ, .boolean)] s) (hA : ∀ q, s.heap.size ≤ q → A q) {F : Nat}  {x1 : Int32} {h_p0 : Nat} {r : Unit} {Wp : va_W → Prop} (hend : ∀ (w1 : va_W) (pc : Nat) (lv : List (Nat × Value)), Wp w1 → decode cX1_init pc = .ok (.return_, 1) → X_ p l e ({ frames := 2, cells := 2, slots := 192, locals := 41 } : Room) s m args below meth c Q D vwCl A 2 2 192 w1 lv pc []) (hWp : ∀ (h_p0_partStart h_p0_partEnd : Nat), Wp [(h_p0, .inr (1, [.ref h_p0_partStart, .ref h_p0_partEnd, .int (0 : Int32)])), (h_p0_partStart, .inl (cI, (x1).toNatClampNeg, .inl (fun _ => 0))), (h_p0_partEnd, .inl (cI, (x1).toNatClampNeg, .inl (fun _ => 0)))]) (hname : meth.name = "<init>")   : bf_X1_init_0 F x1 = some r → X_ p l e ({ frames := 2, cells := 2, slots := 192, locals := 41 } : Room) s m args below meth c Q D vwCl A 2 0 0 [(h_p0, .inr (1, [.null, .null, .int (0 : Int32)]))] [(0, .ref h_p0), (1, .int x1)] 0 [] := by
  intro h
  unfold bf_X1_init_0 at h
  refine x_aload_n S dX1_init_0 rfl 0 rfl ?_
  refine x_iload_n S dX1_init_1 rfl 1 rfl ?_
  obtain ⟨v2, h2, h⟩ := gbind h
  refine x_callI S hK hA (c_X7_init_X1 l D cI cZ F h_p0 x1 v2 h2) (cwI 1 S.2.2.2.2 gX1_init_X7_init rfl rfl rfl (S.2.2.2.2 _ kini_X1_init_X7) (S.2.2.2.2 _ k_X1_init_1) (S.2.2.2.2 _ kim_X1_init_X7_init) rfl (by decide +kernel) ⟨(Nat.le_of_ble_eq_true rfl), (Nat.le_of_ble_eq_true rfl)⟩) [0] [] rfl (by decide) rfl (by decide) (by decide) rfl (Nat.le_of_ble_eq_true rfl) rfl dX1_init_2 ⟨(Nat.le_of_ble_eq_true rfl), (Nat.le_of_ble_eq_true rfl)⟩ (fun w1 hw1 => ?_)
  obtain ⟨q2_p0_partStart, q2_p0_partEnd, rfl⟩ := hw1
  refine x_we (ws' := [(h_p0, .inr (1, [.ref q2_p0_partStart, .ref q2_p0_partEnd, .int (0 : Int32)])), (q2_p0_partStart, .inl (cI, (x1).toNatClampNeg, .inl (fun _ => 0))), (q2_p0_partEnd, .inl (cI, (x1).toNatClampNeg, .inl (fun _ => 0)))]) rfl ?_
  refine x_wd (k1 := 2) (n1 := 192) (Nat.le_refl _) (Nat.le_refl _) ?_
  obtain rfl := Option.some.inj h
  exact hend _ _ _ (hWp q2_p0_partStart q2_p0_partEnd) dX1_init_5
noncomputable def fn_X1_init (F : Nat) (x1 : Int32)  : Option (Unit) :=
  bf_X1_init_0 F x1
set_option maxRecDepth 100000 in
set_option maxHeartbeats 4000000 in
theorem c_X1_init (l : Launch) (D : va_G) (cI cZ : ClassId) (F : Nat) (h_p0 : Nat)  (x1 : Int32) (r : Unit) (h : fn_X1_init F x1 = some r) : Cv l yX1_init wsX1_init ({ frames := 2, cells := 2, slots := 192, locals := 41 } : Room) D vwCl [(cI, .int), (cZ, .boolean)] [.ref h_p0, .int x1] [(h_p0, .inr (1, [.null, .null, .int (0 : Int32)]))] (fun w => ∃ h_p0_partStart h_p0_partEnd : Nat, w = [(h_p0, .inr (1, [.ref h_p0_partStart, .ref h_p0_partEnd, .int (0 : Int32)])), (h_p0_partStart, .inl (cI, (x1).toNatClampNeg, .inl (fun _ => 0))), (h_p0_partEnd, .inl (cI, (x1).toNatClampNeg, .inl (fun _ => 0)))]) 2 192 :=
  Cv.ofv (by decide) rfl (Nat.le_of_ble_eq_true rfl) (fun p e s m args below meth c Q A S hK hA hname hend => w_X1_init_0 S hK hA hend (fun h_p0_partStart h_p0_partEnd => ⟨h_p0_partStart, h_p0_partEnd, rfl⟩) hname  h)
end

/-! ===== PrefixSmith$Parting.<init>(I)V on PrefixSmith$Ordered ===== -/
theorem i_X7_init_X5 : ∀ w ∈ u_ws RX5 TX5 5, w ∈ wsX7_init := by decide +kernel
section
variable {p : Program} {l : Launch} {e : Env} {s : State} {m : MethodId} {args : Array Value} {below : List Frame} {meth : Method} {c : Code} {Q : State → Prop} {D : va_G} {A : Nat → Prop} {cI cZ : ClassId}
noncomputable def bf_X7_init_X5_0 (F : Nat) (x1 : Int32)   : Option (Unit) :=
  (if x1 < 0 ∨ 96 < (x1).toNatClampNeg then none else (if x1 < 0 ∨ 96 < (x1).toNatClampNeg then none else some ()))
set_option maxRecDepth 100000 in
set_option maxHeartbeats 4000000 in
theorem w_X7_init_X5_0 (S : CallFix p m c cX7_init 2 s args wsX7_init RX7) (hK : K_ D vwCl [(cI, .int), (cZ, .boolean)] s) (hA : ∀ q, s.heap.size ≤ q → A q) {F : Nat}  {x1 : Int32} {h_p0 : Nat} {r : Unit} {Wp : va_W → Prop} (hend : ∀ (w1 : va_W) (pc : Nat) (lv : List (Nat × Value)), Wp w1 → decode cX7_init pc = .ok (.return_, 1) → X_ p l e ({ frames := 1, cells := 2, slots := 192, locals := 20 } : Room) s m args below meth c Q D vwCl A 2 2 192 w1 lv pc []) (hWp : ∀ (h_p0_partStart h_p0_partEnd : Nat), Wp [(h_p0, .inr (5, [.ref h_p0_partStart, .ref h_p0_partEnd, .int (0 : Int32), .null, .null])), (h_p0_partStart, .inl (cI, (x1).toNatClampNeg, .inl (fun _ => 0))), (h_p0_partEnd, .inl (cI, (x1).toNatClampNeg, .inl (fun _ => 0)))]) (hname : meth.name = "<init>")   : bf_X7_init_X5_0 F x1 = some r → X_ p l e ({ frames := 1, cells := 2, slots := 192, locals := 20 } : Room) s m args below meth c Q D vwCl A 2 0 0 [(h_p0, .inr (5, [.null, .null, .int (0 : Int32), .null, .null]))] [(0, .ref h_p0), (1, .int x1)] 0 [] := by
  intro h
  unfold bf_X7_init_X5_0 at h
  refine x_aload_n S dX7_init_0 rfl 0 rfl ?_
  refine x_obj S k_X7_init_1 koi_X7_init koc_X7_init (Nat.le_of_ble_eq_true rfl) (Nat.le_of_ble_eq_true rfl) dX7_init_1 ?_
  refine x_aload_n S dX7_init_4 rfl 0 rfl ?_
  refine x_iload_n S dX7_init_5 rfl 1 rfl ?_
  refine x_newI S hK hA 0 rfl ka_X7_init_int 96 h (by decide) (Nat.le_of_ble_eq_true rfl) (Nat.le_of_ble_eq_true rfl) dX7_init_6 (fun h q6 => ?_)
  refine x_we (ws' := [(h_p0, .inr (5, [.null, .null, .int (0 : Int32), .null, .null])), (q6, .inl (cI, (x1).toNatClampNeg, .inl (fun _ => 0)))]) rfl ?_
  refine x_wd (k1 := 1) (n1 := 96) (Nat.le_refl _) (Nat.le_refl _) ?_
  refine x_putF (ty := (.array .int)) S hK i_X7_init_X5 tyX5 tyX5_ok nmX5 0 rfl rfl 0 (by decide) k_X7_init_7 rfl rfl hname rfl (by decide +kernel) rfl rfl (Nat.le_of_ble_eq_true rfl) dX7_init_8 rfl ?_
  refine x_aload_n S dX7_init_11 rfl 0 rfl ?_
  refine x_iload_n S dX7_init_12 rfl 1 rfl ?_
  refine x_newI S hK hA 0 rfl ka_X7_init_int 96 h (by decide) (Nat.le_of_ble_eq_true rfl) (Nat.le_of_ble_eq_true rfl) dX7_init_13 (fun h q13 => ?_)
  refine x_we (ws' := [(h_p0, .inr (5, [.ref q6, .null, .int (0 : Int32), .null, .null])), (q6, .inl (cI, (x1).toNatClampNeg, .inl (fun _ => 0))), (q13, .inl (cI, (x1).toNatClampNeg, .inl (fun _ => 0)))]) rfl ?_
  refine x_wd (k1 := 2) (n1 := 192) (Nat.le_refl _) (Nat.le_refl _) ?_
  refine x_putF (ty := (.array .int)) S hK i_X7_init_X5 tyX5 tyX5_ok nmX5 0 rfl rfl 1 (by decide) k_X7_init_13 rfl rfl hname rfl (by decide +kernel) rfl rfl (Nat.le_of_ble_eq_true rfl) dX7_init_15 rfl ?_
  obtain rfl := Option.some.inj h
  exact hend _ _ _ (hWp q6 q13) dX7_init_18
noncomputable def fn_X7_init_X5 (F : Nat) (x1 : Int32)  : Option (Unit) :=
  bf_X7_init_X5_0 F x1
set_option maxRecDepth 100000 in
set_option maxHeartbeats 4000000 in
theorem c_X7_init_X5 (l : Launch) (D : va_G) (cI cZ : ClassId) (F : Nat) (h_p0 : Nat)  (x1 : Int32) (r : Unit) (h : fn_X7_init_X5 F x1 = some r) : Cv l yX7_init wsX7_init ({ frames := 1, cells := 2, slots := 192, locals := 20 } : Room) D vwCl [(cI, .int), (cZ, .boolean)] [.ref h_p0, .int x1] [(h_p0, .inr (5, [.null, .null, .int (0 : Int32), .null, .null]))] (fun w => ∃ h_p0_partStart h_p0_partEnd : Nat, w = [(h_p0, .inr (5, [.ref h_p0_partStart, .ref h_p0_partEnd, .int (0 : Int32), .null, .null])), (h_p0_partStart, .inl (cI, (x1).toNatClampNeg, .inl (fun _ => 0))), (h_p0_partEnd, .inl (cI, (x1).toNatClampNeg, .inl (fun _ => 0)))]) 2 192 :=
  Cv.ofv (by decide) rfl (Nat.le_of_ble_eq_true rfl) (fun p e s m args below meth c Q A S hK hA hname hend => w_X7_init_X5_0 S hK hA hend (fun h_p0_partStart h_p0_partEnd => ⟨h_p0_partStart, h_p0_partEnd, rfl⟩) hname  h)
end

/-! ===== PrefixSmith$Ordered.<init>(I)V ===== -/
theorem kini_X5_init_X7 : Cond.initialized RX7 ∈ wsX5_init := by decide +kernel
theorem kim_X5_init_X7_init : Cond.instanceMethod yX7_init ∈ wsX5_init := by decide +kernel
theorem k_X5_init_1 : Cond.methodLink RX5 1 yX7_init ∈ wsX5_init := by decide +kernel
theorem ka_X5_init_int : Cond.arrayClass .int ∈ wsX5_init := by decide +kernel
theorem i_X5_init_X5 : ∀ w ∈ u_ws RX5 TX5 5, w ∈ wsX5_init := by decide +kernel
theorem k_X5_init_7 : Cond.fieldLink RX5 7 "PrefixSmith$Ordered" "best" "[I" ∈ wsX5_init := by decide +kernel
theorem k_X5_init_13 : Cond.fieldLink RX5 13 "PrefixSmith$Ordered" "weightBefore" "[I" ∈ wsX5_init := by decide +kernel
section
variable {p : Program} {l : Launch} {e : Env} {s : State} {m : MethodId} {args : Array Value} {below : List Frame} {meth : Method} {c : Code} {Q : State → Prop} {D : va_G} {A : Nat → Prop} {cI cZ : ClassId}
noncomputable def bf_X5_init_0 (F : Nat) (x1 : Int32)   : Option (Unit) :=
  ((fn_X7_init_X5 F x1).bind fun v2 => (if (2 : Int32) = 0 then none else (if ((x1 * (x1 + (1 : Int32))) / (2 : Int32)) < 0 ∨ 4656 < (((x1 * (x1 + (1 : Int32))) / (2 : Int32))).toNatClampNeg then none else (if (x1 + (1 : Int32)) < 0 ∨ 97 < ((x1 + (1 : Int32))).toNatClampNeg then none else some ()))))
set_option maxRecDepth 100000 in
set_option maxHeartbeats 4000000 in
theorem w_X5_init_0 (S : CallFix p m c cX5_init 2 s args wsX5_init RX5) (hK : K_ D vwCl [(cI, .int), (cZ, .boolean)] s) (hA : ∀ q, s.heap.size ≤ q → A q) {F : Nat}  {x1 : Int32} {h_p0 : Nat} {r : Unit} {Wp : va_W → Prop} (hend : ∀ (w1 : va_W) (pc : Nat) (lv : List (Nat × Value)), Wp w1 → decode cX5_init pc = .ok (.return_, 1) → X_ p l e ({ frames := 2, cells := 4, slots := 4945, locals := 41 } : Room) s m args below meth c Q D vwCl A 2 4 4945 w1 lv pc []) (hWp : ∀ (h_p0_partStart h_p0_partEnd h_p0_best h_p0_weightBefore : Nat), Wp [(h_p0, .inr (5, [.ref h_p0_partStart, .ref h_p0_partEnd, .int (0 : Int32), .ref h_p0_best, .ref h_p0_weightBefore])), (h_p0_partStart, .inl (cI, (x1).toNatClampNeg, .inl (fun _ => 0))), (h_p0_partEnd, .inl (cI, (x1).toNatClampNeg, .inl (fun _ => 0))), (h_p0_best, .inl (cI, (((x1 * (x1 + (1 : Int32))) / (2 : Int32))).toNatClampNeg, .inl (fun _ => 0))), (h_p0_weightBefore, .inl (cI, ((x1 + (1 : Int32))).toNatClampNeg, .inl (fun _ => 0)))]) (hname : meth.name = "<init>")   : bf_X5_init_0 F x1 = some r → X_ p l e ({ frames := 2, cells := 4, slots := 4945, locals := 41 } : Room) s m args below meth c Q D vwCl A 2 0 0 [(h_p0, .inr (5, [.null, .null, .int (0 : Int32), .null, .null]))] [(0, .ref h_p0), (1, .int x1)] 0 [] := by
  intro h
  unfold bf_X5_init_0 at h
  refine x_aload_n S dX5_init_0 rfl 0 rfl ?_
  refine x_iload_n S dX5_init_1 rfl 1 rfl ?_
  obtain ⟨v2, h2, h⟩ := gbind h
  refine x_callI S hK hA (c_X7_init_X5 l D cI cZ F h_p0 x1 v2 h2) (cwI 1 S.2.2.2.2 gX5_init_X7_init rfl rfl rfl (S.2.2.2.2 _ kini_X5_init_X7) (S.2.2.2.2 _ k_X5_init_1) (S.2.2.2.2 _ kim_X5_init_X7_init) rfl (by decide +kernel) ⟨(Nat.le_of_ble_eq_true rfl), (Nat.le_of_ble_eq_true rfl)⟩) [0] [] rfl (by decide) rfl (by decide) (by decide) rfl (Nat.le_of_ble_eq_true rfl) rfl dX5_init_2 ⟨(Nat.le_of_ble_eq_true rfl), (Nat.le_of_ble_eq_true rfl)⟩ (fun w1 hw1 => ?_)
  obtain ⟨q2_p0_partStart, q2_p0_partEnd, rfl⟩ := hw1
  refine x_we (ws' := [(h_p0, .inr (5, [.ref q2_p0_partStart, .ref q2_p0_partEnd, .int (0 : Int32), .null, .null])), (q2_p0_partStart, .inl (cI, (x1).toNatClampNeg, .inl (fun _ => 0))), (q2_p0_partEnd, .inl (cI, (x1).toNatClampNeg, .inl (fun _ => 0)))]) rfl ?_
  refine x_wd (k1 := 2) (n1 := 192) (Nat.le_refl _) (Nat.le_refl _) ?_
  refine x_aload_n S dX5_init_5 rfl 0 rfl ?_
  refine x_iload_n S dX5_init_6 rfl 1 rfl ?_
  refine x_iload_n S dX5_init_7 rfl 1 rfl ?_
  refine x_iconst (v := 1) S dX5_init_8 (by decide) ?_
  refine x_iadd S dX5_init_9 ?_
  refine x_imul S dX5_init_10 ?_
  refine x_iconst (v := 2) S dX5_init_11 (by decide) ?_
  refine x_idiv S dX5_init_12 h (fun h => ?_)
  refine x_newI S hK hA 0 rfl ka_X5_init_int 4656 h (by decide) (Nat.le_of_ble_eq_true rfl) (Nat.le_of_ble_eq_true rfl) dX5_init_13 (fun h q13 => ?_)
  refine x_we (ws' := [(h_p0, .inr (5, [.ref q2_p0_partStart, .ref q2_p0_partEnd, .int (0 : Int32), .null, .null])), (q2_p0_partStart, .inl (cI, (x1).toNatClampNeg, .inl (fun _ => 0))), (q2_p0_partEnd, .inl (cI, (x1).toNatClampNeg, .inl (fun _ => 0))), (q13, .inl (cI, (((x1 * (x1 + (1 : Int32))) / (2 : Int32))).toNatClampNeg, .inl (fun _ => 0)))]) rfl ?_
  refine x_wd (k1 := 3) (n1 := 4848) (Nat.le_refl _) (Nat.le_refl _) ?_
  refine x_putF (ty := (.array .int)) S hK i_X5_init_X5 tyX5 tyX5_ok nmX5 0 rfl rfl 3 (by decide) k_X5_init_7 rfl rfl hname rfl (by decide +kernel) rfl rfl (Nat.le_of_ble_eq_true rfl) dX5_init_15 rfl ?_
  refine x_aload_n S dX5_init_18 rfl 0 rfl ?_
  refine x_iload_n S dX5_init_19 rfl 1 rfl ?_
  refine x_iconst (v := 1) S dX5_init_20 (by decide) ?_
  refine x_iadd S dX5_init_21 ?_
  refine x_newI S hK hA 0 rfl ka_X5_init_int 97 h (by decide) (Nat.le_of_ble_eq_true rfl) (Nat.le_of_ble_eq_true rfl) dX5_init_22 (fun h q22 => ?_)
  refine x_we (ws' := [(h_p0, .inr (5, [.ref q2_p0_partStart, .ref q2_p0_partEnd, .int (0 : Int32), .ref q13, .null])), (q2_p0_partStart, .inl (cI, (x1).toNatClampNeg, .inl (fun _ => 0))), (q2_p0_partEnd, .inl (cI, (x1).toNatClampNeg, .inl (fun _ => 0))), (q13, .inl (cI, (((x1 * (x1 + (1 : Int32))) / (2 : Int32))).toNatClampNeg, .inl (fun _ => 0))), (q22, .inl (cI, ((x1 + (1 : Int32))).toNatClampNeg, .inl (fun _ => 0)))]) rfl ?_
  refine x_wd (k1 := 4) (n1 := 4945) (Nat.le_refl _) (Nat.le_refl _) ?_
  refine x_putF (ty := (.array .int)) S hK i_X5_init_X5 tyX5 tyX5_ok nmX5 0 rfl rfl 4 (by decide) k_X5_init_13 rfl rfl hname rfl (by decide +kernel) rfl rfl (Nat.le_of_ble_eq_true rfl) dX5_init_24 rfl ?_
  obtain rfl := Option.some.inj h
  exact hend _ _ _ (hWp q2_p0_partStart q2_p0_partEnd q13 q22) dX5_init_27
noncomputable def fn_X5_init (F : Nat) (x1 : Int32)  : Option (Unit) :=
  bf_X5_init_0 F x1
set_option maxRecDepth 100000 in
set_option maxHeartbeats 4000000 in
theorem c_X5_init (l : Launch) (D : va_G) (cI cZ : ClassId) (F : Nat) (h_p0 : Nat)  (x1 : Int32) (r : Unit) (h : fn_X5_init F x1 = some r) : Cv l yX5_init wsX5_init ({ frames := 2, cells := 4, slots := 4945, locals := 41 } : Room) D vwCl [(cI, .int), (cZ, .boolean)] [.ref h_p0, .int x1] [(h_p0, .inr (5, [.null, .null, .int (0 : Int32), .null, .null]))] (fun w => ∃ h_p0_partStart h_p0_partEnd h_p0_best h_p0_weightBefore : Nat, w = [(h_p0, .inr (5, [.ref h_p0_partStart, .ref h_p0_partEnd, .int (0 : Int32), .ref h_p0_best, .ref h_p0_weightBefore])), (h_p0_partStart, .inl (cI, (x1).toNatClampNeg, .inl (fun _ => 0))), (h_p0_partEnd, .inl (cI, (x1).toNatClampNeg, .inl (fun _ => 0))), (h_p0_best, .inl (cI, (((x1 * (x1 + (1 : Int32))) / (2 : Int32))).toNatClampNeg, .inl (fun _ => 0))), (h_p0_weightBefore, .inl (cI, ((x1 + (1 : Int32))).toNatClampNeg, .inl (fun _ => 0)))]) 4 4945 :=
  Cv.ofv (by decide) rfl (Nat.le_of_ble_eq_true rfl) (fun p e s m args below meth c Q A S hK hA hname hend => w_X5_init_0 S hK hA hend (fun h_p0_partStart h_p0_partEnd h_p0_best h_p0_weightBefore => ⟨h_p0_partStart, h_p0_partEnd, h_p0_best, h_p0_weightBefore, rfl⟩) hname  h)
end

/-! ===== PrefixSmith$Packages.<init>(II)V ===== -/
theorem k_X6_init_1 : Cond.methodLink RX6 1 Lib.objectInit ∈ wsX6_init := by decide +kernel
theorem koi_X6_init : Cond.instanceMethod Lib.objectInit ∈ wsX6_init := by decide +kernel
theorem koc_X6_init : Cond.code Lib.objectInit ⟨#[0xb1]⟩ 1 none ∈ wsX6_init := by decide +kernel
theorem i_X6_init_X6 : ∀ w ∈ u_ws RX6 TX6 5, w ∈ wsX6_init := by decide +kernel
theorem k_X6_init_7 : Cond.fieldLink RX6 7 "PrefixSmith$Packages" "lists" "I" ∈ wsX6_init := by decide +kernel
theorem k_X6_init_13 : Cond.fieldLink RX6 13 "PrefixSmith$Packages" "listRoom" "I" ∈ wsX6_init := by decide +kernel
theorem ka_X6_init_int : Cond.arrayClass .int ∈ wsX6_init := by decide +kernel
theorem k_X6_init_16 : Cond.fieldLink RX6 16 "PrefixSmith$Packages" "weights" "[I" ∈ wsX6_init := by decide +kernel
theorem k_X6_init_20 : Cond.fieldLink RX6 20 "PrefixSmith$Packages" "weightsBefore" "[I" ∈ wsX6_init := by decide +kernel
theorem i_X6_init_X0 : ∀ w ∈ u_ws RX0 TX0 4, w ∈ wsX6_init := by decide +kernel
theorem kcl_X6_init_23 : Cond.classLink RX6 23 RX0 ∈ wsX6_init := by decide +kernel
theorem kin_X6_init_X0 : Cond.instantiable RX0 4 ∈ wsX6_init := by decide +kernel
theorem kini_X6_init_X0 : Cond.initialized RX0 ∈ wsX6_init := by decide +kernel
theorem kim_X6_init_X0_init : Cond.instanceMethod yX0_init ∈ wsX6_init := by decide +kernel
theorem k_X6_init_25 : Cond.methodLink RX6 25 yX0_init ∈ wsX6_init := by decide +kernel
theorem k_X6_init_28 : Cond.fieldLink RX6 28 "PrefixSmith$Packages" "marks" "LPrefixSmith$BitRow;" ∈ wsX6_init := by decide +kernel
section
variable {p : Program} {l : Launch} {e : Env} {s : State} {m : MethodId} {args : Array Value} {below : List Frame} {meth : Method} {c : Code} {Q : State → Prop} {D : va_G} {A : Nat → Prop} {cI cZ : ClassId}
noncomputable def bf_X6_init_0 (F : Nat) (x1 : Int32) (x2 : Int32)   : Option (Unit) :=
  (if ((2 : Int32) * x1) < 0 ∨ 192 < (((2 : Int32) * x1)).toNatClampNeg then none else (if ((2 : Int32) * x1) < 0 ∨ 192 < (((2 : Int32) * x1)).toNatClampNeg then none else ((fn_X0_init F (x2 * ((2 : Int32) * x1))).bind fun v50 => some ())))
set_option maxRecDepth 100000 in
set_option maxHeartbeats 4000000 in
theorem w_X6_init_0 (S : CallFix p m c cX6_init 3 s args wsX6_init RX6) (hK : K_ D vwCl [(cI, .int), (cZ, .boolean)] s) (hA : ∀ q, s.heap.size ≤ q → A q) {F : Nat}  {x1 : Int32} {x2 : Int32} {h_p0 : Nat} {r : Unit} {Wp : va_W → Prop} (hend : ∀ (w1 : va_W) (pc : Nat) (lv : List (Nat × Value)), Wp w1 → decode cX6_init pc = .ok (.return_, 1) → X_ p l e ({ frames := 2, cells := 4, slots := 576, locals := 41 } : Room) s m args below meth c Q D vwCl A 3 4 576 w1 lv pc []) (hWp : ∀ (h_p0_weights h_p0_weightsBefore h_p0_marks h_p0_marks_words : Nat), Wp [(h_p0, .inr (6, [.int x2, .int ((2 : Int32) * x1), .ref h_p0_weights, .ref h_p0_weightsBefore, .ref h_p0_marks])), (h_p0_weights, .inl (cI, (((2 : Int32) * x1)).toNatClampNeg, .inl (fun _ => 0))), (h_p0_weightsBefore, .inl (cI, (((2 : Int32) * x1)).toNatClampNeg, .inl (fun _ => 0))), (h_p0_marks, .inr (0, [.int (x2 * ((2 : Int32) * x1)), .ref h_p0_marks_words, .int (0 : Int32), .int (0 : Int32)])), (h_p0_marks_words, .inl (cI, ((((x2 * ((2 : Int32) * x1)) + (31 : Int32)) / (32 : Int32))).toNatClampNeg, .inl (fun _ => 0)))]) (hname : meth.name = "<init>")   : bf_X6_init_0 F x1 x2 = some r → X_ p l e ({ frames := 2, cells := 4, slots := 576, locals := 41 } : Room) s m args below meth c Q D vwCl A 3 0 0 [(h_p0, .inr (6, [.int (0 : Int32), .int (0 : Int32), .null, .null, .null]))] [(0, .ref h_p0), (1, .int x1), (2, .int x2)] 0 [] := by
  intro h
  unfold bf_X6_init_0 at h
  refine x_aload_n S dX6_init_0 rfl 0 rfl ?_
  refine x_obj S k_X6_init_1 koi_X6_init koc_X6_init (Nat.le_of_ble_eq_true rfl) (Nat.le_of_ble_eq_true rfl) dX6_init_1 ?_
  refine x_aload_n S dX6_init_4 rfl 0 rfl ?_
  refine x_iload_n S dX6_init_5 rfl 2 rfl ?_
  refine x_putF (ty := .int) S hK i_X6_init_X6 tyX6 tyX6_ok nmX6 0 rfl rfl 0 (by decide) k_X6_init_7 rfl rfl hname rfl (by decide +kernel) rfl rfl (Nat.le_of_ble_eq_true rfl) dX6_init_6 rfl ?_
  refine x_aload_n S dX6_init_9 rfl 0 rfl ?_
  refine x_iconst (v := 2) S dX6_init_10 (by decide) ?_
  refine x_iload_n S dX6_init_11 rfl 1 rfl ?_
  refine x_imul S dX6_init_12 ?_
  refine x_putF (ty := .int) S hK i_X6_init_X6 tyX6 tyX6_ok nmX6 0 rfl rfl 1 (by decide) k_X6_init_13 rfl rfl hname rfl (by decide +kernel) rfl rfl (Nat.le_of_ble_eq_true rfl) dX6_init_13 rfl ?_
  refine x_aload_n S dX6_init_16 rfl 0 rfl ?_
  refine x_aload_n S dX6_init_17 rfl 0 rfl ?_
  refine x_get S hK i_X6_init_X6 0 rfl rfl 1 (by decide) k_X6_init_13 rfl rfl dX6_init_18 ?_
  refine x_newI S hK hA 0 rfl ka_X6_init_int 192 h (by decide) (Nat.le_of_ble_eq_true rfl) (Nat.le_of_ble_eq_true rfl) dX6_init_21 (fun h q21 => ?_)
  refine x_we (ws' := [(h_p0, .inr (6, [.int x2, .int ((2 : Int32) * x1), .null, .null, .null])), (q21, .inl (cI, (((2 : Int32) * x1)).toNatClampNeg, .inl (fun _ => 0)))]) rfl ?_
  refine x_wd (k1 := 1) (n1 := 192) (Nat.le_refl _) (Nat.le_refl _) ?_
  refine x_put (ty := (.array .int)) S hK i_X6_init_X6 tyX6 tyX6_ok nmX6 0 rfl rfl 2 (by decide) k_X6_init_16 rfl rfl (by decide +kernel) rfl rfl (Nat.le_of_ble_eq_true rfl) dX6_init_23 rfl ?_
  refine x_aload_n S dX6_init_26 rfl 0 rfl ?_
  refine x_aload_n S dX6_init_27 rfl 0 rfl ?_
  refine x_get S hK i_X6_init_X6 0 rfl rfl 1 (by decide) k_X6_init_13 rfl rfl dX6_init_28 ?_
  refine x_newI S hK hA 0 rfl ka_X6_init_int 192 h (by decide) (Nat.le_of_ble_eq_true rfl) (Nat.le_of_ble_eq_true rfl) dX6_init_31 (fun h q31 => ?_)
  refine x_we (ws' := [(h_p0, .inr (6, [.int x2, .int ((2 : Int32) * x1), .ref q21, .null, .null])), (q21, .inl (cI, (((2 : Int32) * x1)).toNatClampNeg, .inl (fun _ => 0))), (q31, .inl (cI, (((2 : Int32) * x1)).toNatClampNeg, .inl (fun _ => 0)))]) rfl ?_
  refine x_wd (k1 := 2) (n1 := 384) (Nat.le_refl _) (Nat.le_refl _) ?_
  refine x_put (ty := (.array .int)) S hK i_X6_init_X6 tyX6 tyX6_ok nmX6 0 rfl rfl 3 (by decide) k_X6_init_20 rfl rfl (by decide +kernel) rfl rfl (Nat.le_of_ble_eq_true rfl) dX6_init_33 rfl ?_
  refine x_aload_n S dX6_init_36 rfl 0 rfl ?_
  refine x_new (ci := 0) (fs := [.int 0, .null, .int 0, .int 0]) S hK hA i_X6_init_X0 tyX0 tyX0_ok kcl_X6_init_23 kin_X6_init_X0 kini_X6_init_X0 rfl (fun j hj => by rcases (show j = 0 ∨ j = 1 ∨ j = 2 ∨ j = 3 by omega) with rfl | rfl | rfl | rfl <;> rfl) (Nat.le_of_ble_eq_true rfl) (Nat.le_of_ble_eq_true rfl) dX6_init_37 (fun q37 => ?_)
  refine x_we (ws' := [(h_p0, .inr (6, [.int x2, .int ((2 : Int32) * x1), .ref q21, .ref q31, .null])), (q21, .inl (cI, (((2 : Int32) * x1)).toNatClampNeg, .inl (fun _ => 0))), (q31, .inl (cI, (((2 : Int32) * x1)).toNatClampNeg, .inl (fun _ => 0))), (q37, .inr (0, [.int (0 : Int32), .null, .int (0 : Int32), .int (0 : Int32)]))]) rfl ?_
  refine x_wd (k1 := 3) (n1 := 388) (Nat.le_refl _) (Nat.le_refl _) ?_
  refine x_dup S dX6_init_40 rfl ?_
  refine x_aload_n S dX6_init_41 rfl 0 rfl ?_
  refine x_get S hK i_X6_init_X6 0 rfl rfl 0 (by decide) k_X6_init_7 rfl rfl dX6_init_42 ?_
  refine x_aload_n S dX6_init_45 rfl 0 rfl ?_
  refine x_get S hK i_X6_init_X6 0 rfl rfl 1 (by decide) k_X6_init_13 rfl rfl dX6_init_46 ?_
  refine x_imul S dX6_init_49 ?_
  obtain ⟨v50, h50, h⟩ := gbind h
  refine x_callI S hK hA (c_X0_init l D cI cZ F q37 (x2 * ((2 : Int32) * x1)) v50 h50) (cwI 1 S.2.2.2.2 gX6_init_X0_init rfl rfl rfl (S.2.2.2.2 _ kini_X6_init_X0) (S.2.2.2.2 _ k_X6_init_25) (S.2.2.2.2 _ kim_X6_init_X0_init) rfl (by decide +kernel) ⟨(Nat.le_of_ble_eq_true rfl), (Nat.le_of_ble_eq_true rfl)⟩) [3] [0, 1, 2] rfl (by decide) rfl (by decide) (by decide) rfl (Nat.le_of_ble_eq_true rfl) rfl dX6_init_50 ⟨(Nat.le_of_ble_eq_true rfl), (Nat.le_of_ble_eq_true rfl)⟩ (fun w1 hw1 => ?_)
  obtain ⟨q50_p0_words, rfl⟩ := hw1
  refine x_we (ws' := [(h_p0, .inr (6, [.int x2, .int ((2 : Int32) * x1), .ref q21, .ref q31, .null])), (q21, .inl (cI, (((2 : Int32) * x1)).toNatClampNeg, .inl (fun _ => 0))), (q31, .inl (cI, (((2 : Int32) * x1)).toNatClampNeg, .inl (fun _ => 0))), (q37, .inr (0, [.int (x2 * ((2 : Int32) * x1)), .ref q50_p0_words, .int (0 : Int32), .int (0 : Int32)])), (q50_p0_words, .inl (cI, ((((x2 * ((2 : Int32) * x1)) + (31 : Int32)) / (32 : Int32))).toNatClampNeg, .inl (fun _ => 0)))]) rfl ?_
  refine x_wd (k1 := 4) (n1 := 576) (Nat.le_refl _) (Nat.le_refl _) ?_
  refine x_putF (ty := (.object "PrefixSmith$BitRow")) S hK i_X6_init_X6 tyX6 tyX6_ok nmX6 0 rfl rfl 4 (by decide) k_X6_init_28 rfl rfl hname rfl (by decide +kernel) rfl rfl (Nat.le_of_ble_eq_true rfl) dX6_init_53 rfl ?_
  obtain rfl := Option.some.inj h
  exact hend _ _ _ (hWp q21 q31 q37 q50_p0_words) dX6_init_56
noncomputable def fn_X6_init (F : Nat) (x1 : Int32) (x2 : Int32)  : Option (Unit) :=
  bf_X6_init_0 F x1 x2
set_option maxRecDepth 100000 in
set_option maxHeartbeats 4000000 in
theorem c_X6_init (l : Launch) (D : va_G) (cI cZ : ClassId) (F : Nat) (h_p0 : Nat)  (x1 : Int32) (x2 : Int32) (r : Unit) (h : fn_X6_init F x1 x2 = some r) : Cv l yX6_init wsX6_init ({ frames := 2, cells := 4, slots := 576, locals := 41 } : Room) D vwCl [(cI, .int), (cZ, .boolean)] [.ref h_p0, .int x1, .int x2] [(h_p0, .inr (6, [.int (0 : Int32), .int (0 : Int32), .null, .null, .null]))] (fun w => ∃ h_p0_weights h_p0_weightsBefore h_p0_marks h_p0_marks_words : Nat, w = [(h_p0, .inr (6, [.int x2, .int ((2 : Int32) * x1), .ref h_p0_weights, .ref h_p0_weightsBefore, .ref h_p0_marks])), (h_p0_weights, .inl (cI, (((2 : Int32) * x1)).toNatClampNeg, .inl (fun _ => 0))), (h_p0_weightsBefore, .inl (cI, (((2 : Int32) * x1)).toNatClampNeg, .inl (fun _ => 0))), (h_p0_marks, .inr (0, [.int (x2 * ((2 : Int32) * x1)), .ref h_p0_marks_words, .int (0 : Int32), .int (0 : Int32)])), (h_p0_marks_words, .inl (cI, ((((x2 * ((2 : Int32) * x1)) + (31 : Int32)) / (32 : Int32))).toNatClampNeg, .inl (fun _ => 0)))]) 4 576 :=
  Cv.ofv (by decide) rfl (Nat.le_of_ble_eq_true rfl) (fun p e s m args below meth c Q A S hK hA hname hend => w_X6_init_0 S hK hA hend (fun h_p0_weights h_p0_weightsBefore h_p0_marks h_p0_marks_words => ⟨h_p0_weights, h_p0_weightsBefore, h_p0_marks, h_p0_marks_words, rfl⟩) hname  h)
end

/-! ===== PrefixSmith$Reader.<init>()V ===== -/
theorem k_X8_init_3 : Cond.methodLink RX8 3 Lib.objectInit ∈ wsX8_init := by decide +kernel
theorem koi_X8_init : Cond.instanceMethod Lib.objectInit ∈ wsX8_init := by decide +kernel
theorem koc_X8_init : Cond.code Lib.objectInit ⟨#[0xb1]⟩ 1 none ∈ wsX8_init := by decide +kernel
theorem i_X8_init_X8 : ∀ w ∈ u_ws RX8 TX8 2, w ∈ wsX8_init := by decide +kernel
theorem k_X8_init_9 : Cond.fieldLink RX8 9 "PrefixSmith$Reader" "place" "I" ∈ wsX8_init := by decide +kernel
section
variable {p : Program} {l : Launch} {e : Env} {s : State} {m : MethodId} {args : Array Value} {below : List Frame} {meth : Method} {c : Code} {Q : State → Prop} {D : va_G} {A : Nat → Prop} {cI cZ : ClassId}
noncomputable def bf_X8_init_0 (F : Nat)    : Option (Unit) :=
  some ()
set_option maxRecDepth 100000 in
set_option maxHeartbeats 4000000 in
theorem w_X8_init_0 (S : CallFix p m c cX8_init 1 s args wsX8_init RX8) (hK : K_ D vwCl [(cI, .int), (cZ, .boolean)] s) (hA : ∀ q, s.heap.size ≤ q → A q) {F : Nat}   {h_p0 : Nat} {r : Unit} {Wp : va_W → Prop} (hend : ∀ (w1 : va_W) (pc : Nat) (lv : List (Nat × Value)), Wp w1 → decode cX8_init pc = .ok (.return_, 1) → X_ p l e ({ frames := 1, cells := 0, slots := 0, locals := 20 } : Room) s m args below meth c Q D vwCl A 1 0 0 w1 lv pc []) (hWp : Wp [(h_p0, .inr (7, [.int (0 : Int32), .int (-1 : Int32)]))]) (hname : meth.name = "<init>")   : bf_X8_init_0 F  = some r → X_ p l e ({ frames := 1, cells := 0, slots := 0, locals := 20 } : Room) s m args below meth c Q D vwCl A 1 0 0 [(h_p0, .inr (7, [.int (0 : Int32), .int (0 : Int32)]))] [(0, .ref h_p0)] 0 [] := by
  intro h
  unfold bf_X8_init_0 at h
  refine x_aload_n S dX8_init_0 rfl 0 rfl ?_
  refine x_obj S k_X8_init_3 koi_X8_init koc_X8_init (Nat.le_of_ble_eq_true rfl) (Nat.le_of_ble_eq_true rfl) dX8_init_1 ?_
  refine x_aload_n S dX8_init_4 rfl 0 rfl ?_
  refine x_iconst (v := -1) S dX8_init_5 (by decide) ?_
  refine x_put (ty := .int) S hK i_X8_init_X8 tyX8 tyX8_ok nmX8 0 rfl rfl 1 (by decide) k_X8_init_9 rfl rfl (by decide +kernel) rfl rfl (Nat.le_of_ble_eq_true rfl) dX8_init_6 rfl ?_
  obtain rfl := Option.some.inj h
  exact hend _ _ _ hWp dX8_init_9
noncomputable def fn_X8_init (F : Nat)   : Option (Unit) :=
  bf_X8_init_0 F 
set_option maxRecDepth 100000 in
set_option maxHeartbeats 4000000 in
theorem c_X8_init (l : Launch) (D : va_G) (cI cZ : ClassId) (F : Nat) (h_p0 : Nat)   (r : Unit) (h : fn_X8_init F  = some r) : Cv l yX8_init wsX8_init ({ frames := 1, cells := 0, slots := 0, locals := 20 } : Room) D vwCl [(cI, .int), (cZ, .boolean)] [.ref h_p0] [(h_p0, .inr (7, [.int (0 : Int32), .int (0 : Int32)]))] (fun w => w = [(h_p0, .inr (7, [.int (0 : Int32), .int (-1 : Int32)]))]) 0 0 :=
  Cv.ofv (by decide) rfl (Nat.le_of_ble_eq_true rfl) (fun p e s m args below meth c Q A S hK hA hname hend => w_X8_init_0 S hK hA hend rfl hname  h)
end

/-! ===== PrefixSmith$Keys.<init>()V ===== -/
theorem k_X2_init_3 : Cond.methodLink RX2 3 Lib.objectInit ∈ wsX2_init := by decide +kernel
theorem koi_X2_init : Cond.instanceMethod Lib.objectInit ∈ wsX2_init := by decide +kernel
theorem koc_X2_init : Cond.code Lib.objectInit ⟨#[0xb1]⟩ 1 none ∈ wsX2_init := by decide +kernel
theorem ka_X2_init_int : Cond.arrayClass .int ∈ wsX2_init := by decide +kernel
theorem i_X2_init_X2 : ∀ w ∈ u_ws RX2 TX2 3, w ∈ wsX2_init := by decide +kernel
theorem k_X2_init_11 : Cond.fieldLink RX2 11 "PrefixSmith$Keys" "cameFrom" "[I" ∈ wsX2_init := by decide +kernel
theorem k_X2_init_15 : Cond.fieldLink RX2 15 "PrefixSmith$Keys" "queue" "[I" ∈ wsX2_init := by decide +kernel
theorem i_X2_init_X0 : ∀ w ∈ u_ws RX0 TX0 4, w ∈ wsX2_init := by decide +kernel
theorem kcl_X2_init_18 : Cond.classLink RX2 18 RX0 ∈ wsX2_init := by decide +kernel
theorem kin_X2_init_X0 : Cond.instantiable RX0 4 ∈ wsX2_init := by decide +kernel
theorem kini_X2_init_X0 : Cond.initialized RX0 ∈ wsX2_init := by decide +kernel
theorem kim_X2_init_X0_init : Cond.instanceMethod yX0_init ∈ wsX2_init := by decide +kernel
theorem k_X2_init_20 : Cond.methodLink RX2 20 yX0_init ∈ wsX2_init := by decide +kernel
theorem k_X2_init_23 : Cond.fieldLink RX2 23 "PrefixSmith$Keys" "found" "LPrefixSmith$BitRow;" ∈ wsX2_init := by decide +kernel
section
variable {p : Program} {l : Launch} {e : Env} {s : State} {m : MethodId} {args : Array Value} {below : List Frame} {meth : Method} {c : Code} {Q : State → Prop} {D : va_G} {A : Nat → Prop} {cI cZ : ClassId}
noncomputable def bf_X2_init_0 (F : Nat)    : Option (Unit) :=
  (if (1024 : Int32) < 0 ∨ 1024 < ((1024 : Int32)).toNatClampNeg then none else (if (1024 : Int32) < 0 ∨ 1024 < ((1024 : Int32)).toNatClampNeg then none else ((fn_X0_init F (1024 : Int32)).bind fun v30 => some ())))
set_option maxRecDepth 100000 in
set_option maxHeartbeats 4000000 in
theorem w_X2_init_0 (S : CallFix p m c cX2_init 1 s args wsX2_init RX2) (hK : K_ D vwCl [(cI, .int), (cZ, .boolean)] s) (hA : ∀ q, s.heap.size ≤ q → A q) {F : Nat}   {h_p0 : Nat} {r : Unit} {Wp : va_W → Prop} (hend : ∀ (w1 : va_W) (pc : Nat) (lv : List (Nat × Value)), Wp w1 → decode cX2_init pc = .ok (.return_, 1) → X_ p l e ({ frames := 2, cells := 4, slots := 2240, locals := 41 } : Room) s m args below meth c Q D vwCl A 1 4 2240 w1 lv pc []) (hWp : ∀ (h_p0_cameFrom h_p0_queue h_p0_found h_p0_found_words : Nat), Wp [(h_p0, .inr (2, [.ref h_p0_cameFrom, .ref h_p0_queue, .ref h_p0_found])), (h_p0_cameFrom, .inl (cI, ((1024 : Int32)).toNatClampNeg, .inl (fun _ => 0))), (h_p0_queue, .inl (cI, ((1024 : Int32)).toNatClampNeg, .inl (fun _ => 0))), (h_p0_found, .inr (0, [.int (1024 : Int32), .ref h_p0_found_words, .int (0 : Int32), .int (0 : Int32)])), (h_p0_found_words, .inl (cI, ((((1024 : Int32) + (31 : Int32)) / (32 : Int32))).toNatClampNeg, .inl (fun _ => 0)))]) (hname : meth.name = "<init>")   : bf_X2_init_0 F  = some r → X_ p l e ({ frames := 2, cells := 4, slots := 2240, locals := 41 } : Room) s m args below meth c Q D vwCl A 1 0 0 [(h_p0, .inr (2, [.null, .null, .null]))] [(0, .ref h_p0)] 0 [] := by
  intro h
  unfold bf_X2_init_0 at h
  refine x_aload_n S dX2_init_0 rfl 0 rfl ?_
  refine x_obj S k_X2_init_3 koi_X2_init koc_X2_init (Nat.le_of_ble_eq_true rfl) (Nat.le_of_ble_eq_true rfl) dX2_init_1 ?_
  refine x_aload_n S dX2_init_4 rfl 0 rfl ?_
  refine x_sipush (v := 1024) S dX2_init_5 (by decide) ?_
  refine x_newI S hK hA 0 rfl ka_X2_init_int 1024 h (by decide) (Nat.le_of_ble_eq_true rfl) (Nat.le_of_ble_eq_true rfl) dX2_init_8 (fun h q8 => ?_)
  refine x_we (ws' := [(h_p0, .inr (2, [.null, .null, .null])), (q8, .inl (cI, ((1024 : Int32)).toNatClampNeg, .inl (fun _ => 0)))]) rfl ?_
  refine x_wd (k1 := 1) (n1 := 1024) (Nat.le_refl _) (Nat.le_refl _) ?_
  refine x_putF (ty := (.array .int)) S hK i_X2_init_X2 tyX2 tyX2_ok nmX2 0 rfl rfl 0 (by decide) k_X2_init_11 rfl rfl hname rfl (by decide +kernel) rfl rfl (Nat.le_of_ble_eq_true rfl) dX2_init_10 rfl ?_
  refine x_aload_n S dX2_init_13 rfl 0 rfl ?_
  refine x_sipush (v := 1024) S dX2_init_14 (by decide) ?_
  refine x_newI S hK hA 0 rfl ka_X2_init_int 1024 h (by decide) (Nat.le_of_ble_eq_true rfl) (Nat.le_of_ble_eq_true rfl) dX2_init_17 (fun h q17 => ?_)
  refine x_we (ws' := [(h_p0, .inr (2, [.ref q8, .null, .null])), (q8, .inl (cI, ((1024 : Int32)).toNatClampNeg, .inl (fun _ => 0))), (q17, .inl (cI, ((1024 : Int32)).toNatClampNeg, .inl (fun _ => 0)))]) rfl ?_
  refine x_wd (k1 := 2) (n1 := 2048) (Nat.le_refl _) (Nat.le_refl _) ?_
  refine x_putF (ty := (.array .int)) S hK i_X2_init_X2 tyX2 tyX2_ok nmX2 0 rfl rfl 1 (by decide) k_X2_init_15 rfl rfl hname rfl (by decide +kernel) rfl rfl (Nat.le_of_ble_eq_true rfl) dX2_init_19 rfl ?_
  refine x_aload_n S dX2_init_22 rfl 0 rfl ?_
  refine x_new (ci := 0) (fs := [.int 0, .null, .int 0, .int 0]) S hK hA i_X2_init_X0 tyX0 tyX0_ok kcl_X2_init_18 kin_X2_init_X0 kini_X2_init_X0 rfl (fun j hj => by rcases (show j = 0 ∨ j = 1 ∨ j = 2 ∨ j = 3 by omega) with rfl | rfl | rfl | rfl <;> rfl) (Nat.le_of_ble_eq_true rfl) (Nat.le_of_ble_eq_true rfl) dX2_init_23 (fun q23 => ?_)
  refine x_we (ws' := [(h_p0, .inr (2, [.ref q8, .ref q17, .null])), (q8, .inl (cI, ((1024 : Int32)).toNatClampNeg, .inl (fun _ => 0))), (q17, .inl (cI, ((1024 : Int32)).toNatClampNeg, .inl (fun _ => 0))), (q23, .inr (0, [.int (0 : Int32), .null, .int (0 : Int32), .int (0 : Int32)]))]) rfl ?_
  refine x_wd (k1 := 3) (n1 := 2052) (Nat.le_refl _) (Nat.le_refl _) ?_
  refine x_dup S dX2_init_26 rfl ?_
  refine x_sipush (v := 1024) S dX2_init_27 (by decide) ?_
  obtain ⟨v30, h30, h⟩ := gbind h
  refine x_callI S hK hA (c_X0_init l D cI cZ F q23 (1024 : Int32) v30 h30) (cwI 1 S.2.2.2.2 gX2_init_X0_init rfl rfl rfl (S.2.2.2.2 _ kini_X2_init_X0) (S.2.2.2.2 _ k_X2_init_20) (S.2.2.2.2 _ kim_X2_init_X0_init) rfl (by decide +kernel) ⟨(Nat.le_of_ble_eq_true rfl), (Nat.le_of_ble_eq_true rfl)⟩) [3] [0, 1, 2] rfl (by decide) rfl (by decide) (by decide) rfl (Nat.le_of_ble_eq_true rfl) rfl dX2_init_30 ⟨(Nat.le_of_ble_eq_true rfl), (Nat.le_of_ble_eq_true rfl)⟩ (fun w1 hw1 => ?_)
  obtain ⟨q30_p0_words, rfl⟩ := hw1
  refine x_we (ws' := [(h_p0, .inr (2, [.ref q8, .ref q17, .null])), (q8, .inl (cI, ((1024 : Int32)).toNatClampNeg, .inl (fun _ => 0))), (q17, .inl (cI, ((1024 : Int32)).toNatClampNeg, .inl (fun _ => 0))), (q23, .inr (0, [.int (1024 : Int32), .ref q30_p0_words, .int (0 : Int32), .int (0 : Int32)])), (q30_p0_words, .inl (cI, ((((1024 : Int32) + (31 : Int32)) / (32 : Int32))).toNatClampNeg, .inl (fun _ => 0)))]) rfl ?_
  refine x_wd (k1 := 4) (n1 := 2240) (Nat.le_refl _) (Nat.le_refl _) ?_
  refine x_putF (ty := (.object "PrefixSmith$BitRow")) S hK i_X2_init_X2 tyX2 tyX2_ok nmX2 0 rfl rfl 2 (by decide) k_X2_init_23 rfl rfl hname rfl (by decide +kernel) rfl rfl (Nat.le_of_ble_eq_true rfl) dX2_init_33 rfl ?_
  obtain rfl := Option.some.inj h
  exact hend _ _ _ (hWp q8 q17 q23 q30_p0_words) dX2_init_36
noncomputable def fn_X2_init (F : Nat)   : Option (Unit) :=
  bf_X2_init_0 F 
set_option maxRecDepth 100000 in
set_option maxHeartbeats 4000000 in
theorem c_X2_init (l : Launch) (D : va_G) (cI cZ : ClassId) (F : Nat) (h_p0 : Nat)   (r : Unit) (h : fn_X2_init F  = some r) : Cv l yX2_init wsX2_init ({ frames := 2, cells := 4, slots := 2240, locals := 41 } : Room) D vwCl [(cI, .int), (cZ, .boolean)] [.ref h_p0] [(h_p0, .inr (2, [.null, .null, .null]))] (fun w => ∃ h_p0_cameFrom h_p0_queue h_p0_found h_p0_found_words : Nat, w = [(h_p0, .inr (2, [.ref h_p0_cameFrom, .ref h_p0_queue, .ref h_p0_found])), (h_p0_cameFrom, .inl (cI, ((1024 : Int32)).toNatClampNeg, .inl (fun _ => 0))), (h_p0_queue, .inl (cI, ((1024 : Int32)).toNatClampNeg, .inl (fun _ => 0))), (h_p0_found, .inr (0, [.int (1024 : Int32), .ref h_p0_found_words, .int (0 : Int32), .int (0 : Int32)])), (h_p0_found_words, .inl (cI, ((((1024 : Int32) + (31 : Int32)) / (32 : Int32))).toNatClampNeg, .inl (fun _ => 0)))]) 4 2240 :=
  Cv.ofv (by decide) rfl (Nat.le_of_ble_eq_true rfl) (fun p e s m args below meth c Q A S hK hA hname hend => w_X2_init_0 S hK hA hend (fun h_p0_cameFrom h_p0_queue h_p0_found h_p0_found_words => ⟨h_p0_cameFrom, h_p0_queue, h_p0_found, h_p0_found_words, rfl⟩) hname  h)
end
