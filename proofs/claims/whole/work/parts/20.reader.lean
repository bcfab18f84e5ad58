/-! ===== PrefixSmith$Reader.fail(II)I ===== -/
abbrev W_X8 (cI cZ : ClassId) (h_p0 : Nat) (p0_at : Int32) (p0_place : Int32) : va_W := [(h_p0, .inr (7, [.int p0_at, .int p0_place]))]
theorem i_X8_fail_X8 : ∀ w ∈ u_ws RX8 TX8 2, w ∈ wsX8_fail := by decide +kernel
theorem k_X8_fail_9 : Cond.fieldLink RX8 9 "PrefixSmith$Reader" "place" "I" ∈ wsX8_fail := by decide +kernel
section
variable {p : Program} {l : Launch} {e : Env} {s : State} {m : MethodId} {args : Array Value} {below : List Frame} {meth : Method} {c : Code} {Q : State → Prop} {D : va_G} {A : Nat → Prop} {cI cZ : ClassId}
noncomputable def bf_X8_fail_0 (F : Nat)   (x1 : Int32) (x2 : Int32) (p0_place : Int32) : Option (Int32 × Int32) :=
  some (x1, x2)
set_option maxRecDepth 100000 in
set_option maxHeartbeats 4000000 in
theorem w_X8_fail_0 (S : CallFix p m c cX8_fail 3 s args wsX8_fail RX8) (hK : K_ D vwCl [(cI, .int), (cZ, .boolean)] s) (hA : ∀ q, s.heap.size ≤ q → A q) {F : Nat} {p0_at : Int32} {h_p0 : Nat} {r : Int32 × Int32} {Wp : va_W → Prop} (hend : ∀ (w1 : va_W) (pc : Nat) (lv : List (Nat × Value)), Wp w1 → decode cX8_fail pc = .ok (.ireturn, 1) → X_ p l e ({ frames := 0, cells := 0, slots := 0, locals := 0 } : Room) s m args below meth c Q D vwCl A 3 0 0 w1 lv pc [.int r.1]) (hWp : Wp (W_X8 cI cZ h_p0 p0_at r.2))   : ∀ (x1 : Int32) (x2 : Int32) (p0_place : Int32), bf_X8_fail_0 F x1 x2 p0_place = some r → X_ p l e ({ frames := 0, cells := 0, slots := 0, locals := 0 } : Room) s m args below meth c Q D vwCl A 3 0 0 (W_X8 cI cZ h_p0 p0_at p0_place) [(0, .ref h_p0), (1, .int x1), (2, .int x2)] 0 [] := by
  intro x1 x2 p0_place h
  unfold bf_X8_fail_0 at h
  refine x_aload_n S dX8_fail_0 rfl 0 rfl ?_
  refine x_iload_n S dX8_fail_1 rfl 2 rfl ?_
  refine x_put (ty := .int) S hK i_X8_fail_X8 tyX8 tyX8_ok nmX8 0 rfl rfl 1 (by decide) k_X8_fail_9 rfl rfl (by decide +kernel) rfl rfl (Nat.le_of_ble_eq_true rfl) dX8_fail_2 rfl ?_
  refine x_iload_n S dX8_fail_5 rfl 1 rfl ?_
  obtain rfl := Option.some.inj h
  exact hend _ _ _ hWp dX8_fail_6
noncomputable def fn_X8_fail (F : Nat) (p0_place : Int32) (x1 : Int32) (x2 : Int32) : Option (Int32 × Int32) :=
  bf_X8_fail_0 F x1 x2 p0_place
set_option maxRecDepth 100000 in
set_option maxHeartbeats 4000000 in
theorem c_X8_fail (l : Launch) (D : va_G) (cI cZ : ClassId) (F : Nat) (h_p0 : Nat) (p0_at : Int32) (p0_place : Int32) (x1 : Int32) (x2 : Int32) (r : Int32 × Int32) (h : fn_X8_fail F p0_place x1 x2 = some r) : Ci l yX8_fail wsX8_fail ({ frames := 0, cells := 0, slots := 0, locals := 0 } : Room) D vwCl [(cI, .int), (cZ, .boolean)] [.ref h_p0, .int x1, .int x2] (W_X8 cI cZ h_p0 p0_at p0_place) r.1 (fun w => w = (W_X8 cI cZ h_p0 p0_at r.2)) 0 0 :=
  Ci.ofi (by decide) rfl (Nat.le_of_ble_eq_true rfl) (fun p e s m args below meth c Q A S hK hA hname hend => w_X8_fail_0 S hK hA hend rfl x1 x2 p0_place h)
end

/-! ===== PrefixSmith$Reader.readSymbol(LPrefixSmith$BitRow;LPrefixSmith$Table;)I ===== -/
abbrev W_X8_X0_X10 (cI cZ : ClassId) (h_p0 h_p1 h_p1_words h_p2 h_p2_lengths h_p2_codes h_p2_below : Nat) (p0_at : Int32) (p0_place : Int32) (p1_room : Int32) (p1_size : Int32) (p1_over : Int32) (n_p1_words : Nat) (p1_words : Nat → Int32) (p2_symbols : Int32) (p2_most : Int32) (p2_nodes : Int32) (p2_inOrder : Int32) (p2_loaded : Int32) (p2_full : Int32) (n_p2_lengths : Nat) (p2_lengths : Nat → Int32) (n_p2_codes : Nat) (p2_codes : Nat → Int32) (n_p2_below : Nat) (p2_below : Nat → Int32) : va_W := [(h_p0, .inr (7, [.int p0_at, .int p0_place])), (h_p1, .inr (0, [.int p1_room, .ref h_p1_words, .int p1_size, .int p1_over])), (h_p1_words, .inl (cI, n_p1_words, .inl p1_words)), (h_p2, .inr (9, [.int p2_symbols, .int p2_most, .ref h_p2_lengths, .ref h_p2_codes, .ref h_p2_below, .int p2_nodes, .int p2_inOrder, .int p2_loaded, .int p2_full])), (h_p2_lengths, .inl (cI, n_p2_lengths, .inl p2_lengths)), (h_p2_codes, .inl (cI, n_p2_codes, .inl p2_codes)), (h_p2_below, .inl (cI, n_p2_below, .inl p2_below))]
theorem i_X8_readSymbol_X8 : ∀ w ∈ u_ws RX8 TX8 2, w ∈ wsX8_readSymbol := by decide +kernel
theorem k_X8_readSymbol_15 : Cond.fieldLink RX8 15 "PrefixSmith$Reader" "at" "I" ∈ wsX8_readSymbol := by decide +kernel
theorem i_X8_readSymbol_X0 : ∀ w ∈ u_ws RX0 TX0 4, w ∈ wsX8_readSymbol := by decide +kernel
section
variable {p : Program} {l : Launch} {e : Env} {s : State} {m : MethodId} {args : Array Value} {below : List Frame} {meth : Method} {c : Code} {Q : State → Prop} {D : va_G} {A : Nat → Prop} {cI cZ : ClassId}
noncomputable def bf_X8_readSymbol_8 (F : Nat) (p1_size : Int32) (n_p1_words : Nat) (p1_words : Nat → Int32) (n_p2_below : Nat) (p2_below : Nat → Int32) (rec8 : Int32 → Int32 → Int32 → Int32 → Option (Int32 × Int32 × Int32)) (x3 : Int32) (x4 : Int32) (p0_at : Int32) (p0_place : Int32) : Option (Int32 × Int32 × Int32) :=
  (if p1_size ≤ x4 then ((fn_X8_fail F p0_place (-2 : Int32) p1_size).bind fun v78 => some (v78.1, p0_at, v78.2)) else ((fn_X0_get F p1_size n_p1_words p1_words x4).bind fun v22 => ((fn_X10_step F n_p2_below p2_below x3 v22).bind fun v25 => (if v25 = 0 then ((fn_X8_fail F p0_place (-3 : Int32) x4).bind fun v40 => some (v40.1, p0_at, v40.2)) else (if 0 ≤ v25 then rec8 v25 (x4 + (1 : Int32)) p0_at p0_place else some ((-1 : Int32) - v25, x4 + (1 : Int32), p0_place))))))
set_option maxRecDepth 100000 in
set_option maxHeartbeats 4000000 in
theorem w_X8_readSymbol_8 (S : CallFix p m c cX8_readSymbol 6 s args wsX8_readSymbol RX8) (hK : K_ D vwCl [(cI, .int), (cZ, .boolean)] s) (hA : ∀ q, s.heap.size ≤ q → A q) {F : Nat} {p1_room : Int32} {p1_size : Int32} {p1_over : Int32} {n_p1_words : Nat} {p1_words : Nat → Int32} {p2_symbols : Int32} {p2_most : Int32} {p2_nodes : Int32} {p2_inOrder : Int32} {p2_loaded : Int32} {p2_full : Int32} {n_p2_lengths : Nat} {p2_lengths : Nat → Int32} {n_p2_codes : Nat} {p2_codes : Nat → Int32} {n_p2_below : Nat} {p2_below : Nat → Int32} {h_p0 h_p1 h_p2 h_p1_words h_p2_lengths h_p2_codes h_p2_below : Nat} {r : Int32 × Int32 × Int32} {Wp : va_W → Prop} (hend : ∀ (w1 : va_W) (pc : Nat) (lv : List (Nat × Value)), Wp w1 → decode cX8_readSymbol pc = .ok (.ireturn, 1) → X_ p l e ({ frames := 1, cells := 0, slots := 0, locals := 23 } : Room) s m args below meth c Q D vwCl A 6 0 0 w1 lv pc [.int r.1]) (hWp : Wp (W_X8_X0_X10 cI cZ h_p0 h_p1 h_p1_words h_p2 h_p2_lengths h_p2_codes h_p2_below r.2.1 r.2.2 p1_room p1_size p1_over n_p1_words p1_words p2_symbols p2_most p2_nodes p2_inOrder p2_loaded p2_full n_p2_lengths p2_lengths n_p2_codes p2_codes n_p2_below p2_below)) {rec8 : Int32 → Int32 → Int32 → Int32 → Option (Int32 × Int32 × Int32)} (hrec8 : ∀ (x3 : Int32) (x4 : Int32) (p0_at : Int32) (p0_place : Int32), rec8 x3 x4 p0_at p0_place = some r → X_ p l e ({ frames := 1, cells := 0, slots := 0, locals := 23 } : Room) s m args below meth c Q D vwCl A 6 0 0 (W_X8_X0_X10 cI cZ h_p0 h_p1 h_p1_words h_p2 h_p2_lengths h_p2_codes h_p2_below p0_at p0_place p1_room p1_size p1_over n_p1_words p1_words p2_symbols p2_most p2_nodes p2_inOrder p2_loaded p2_full n_p2_lengths p2_lengths n_p2_codes p2_codes n_p2_below p2_below) [(0, .ref h_p0), (1, .ref h_p1), (2, .ref h_p2), (3, .int x3), (4, .int x4)] 8 []) : ∀ (x3 : Int32) (x4 : Int32) (p0_at : Int32) (p0_place : Int32), bf_X8_readSymbol_8 F p1_size n_p1_words p1_words n_p2_below p2_below rec8 x3 x4 p0_at p0_place = some r → X_ p l e ({ frames := 1, cells := 0, slots := 0, locals := 23 } : Room) s m args below meth c Q D vwCl A 6 0 0 (W_X8_X0_X10 cI cZ h_p0 h_p1 h_p1_words h_p2 h_p2_lengths h_p2_codes h_p2_below p0_at p0_place p1_room p1_size p1_over n_p1_words p1_words p2_symbols p2_most p2_nodes p2_inOrder p2_loaded p2_full n_p2_lengths p2_lengths n_p2_codes p2_codes n_p2_below p2_below) [(0, .ref h_p0), (1, .ref h_p1), (2, .ref h_p2), (3, .int x3), (4, .int x4)] 8 [] := by
  intro x3 x4 p0_at p0_place h
  unfold bf_X8_readSymbol_8 at h
  refine x_iload S dX8_readSymbol_8 4 rfl ?_
  refine x_aload_n S dX8_readSymbol_10 rfl 1 rfl ?_
  refine x_getN S hK i_X8_readSymbol_X0 1 rfl rfl 2 (by decide) nf_X8_23 rfl rfl dX8_readSymbol_11 ?_
  refine x_icmp_ge S 71 dX8_readSymbol_14 (by decide) h (fun h => ?_) (fun h => ?_)
  · refine x_aload_n S dX8_readSymbol_71 rfl 0 rfl ?_
    refine x_bipush (v := -2) S dX8_readSymbol_72 (by decide) ?_
    refine x_aload_n S dX8_readSymbol_74 rfl 1 rfl ?_
    refine x_getN S hK i_X8_readSymbol_X0 1 rfl rfl 2 (by decide) nf_X8_23 rfl rfl dX8_readSymbol_75 ?_
    obtain ⟨v78, h78, h⟩ := gbind h
    refine x_callVi S hK hA (c_X8_fail l D cI cZ F h_p0 p0_at p0_place (-2 : Int32) p1_size v78 h78) (cwV 2 S.2.2.2.2 gX8_readSymbol_X8_fail rfl rfl rfl (by decide +kernel) ⟨(Nat.le_of_ble_eq_true rfl), (Nat.le_of_ble_eq_true rfl)⟩) [0] [1, 2, 3, 4, 5, 6] rfl (by decide) rfl (by decide) (by decide) 0 7 rfl rfl rfl (Nat.le_of_ble_eq_true rfl) rfl dX8_readSymbol_78 ⟨(Nat.le_of_ble_eq_true rfl), (Nat.le_of_ble_eq_true rfl)⟩ (fun w1 hw1 => ?_)
    subst hw1
    refine x_ws (ws' := (W_X8_X0_X10 cI cZ h_p0 h_p1 h_p1_words h_p2 h_p2_lengths h_p2_codes h_p2_below p0_at v78.2 p1_room p1_size p1_over n_p1_words p1_words p2_symbols p2_most p2_nodes p2_inOrder p2_loaded p2_full n_p2_lengths p2_lengths n_p2_codes p2_codes n_p2_below p2_below)) [6, 0, 1, 2, 3, 4, 5] (by decide) (by rfl) ?_
    obtain rfl := Option.some.inj h
    exact hend _ _ _ hWp dX8_readSymbol_81
  · refine x_aload_n S dX8_readSymbol_17 rfl 2 rfl ?_
    refine x_iload_n S dX8_readSymbol_18 rfl 3 rfl ?_
    refine x_aload_n S dX8_readSymbol_19 rfl 1 rfl ?_
    refine x_iload S dX8_readSymbol_20 4 rfl ?_
    obtain ⟨v22, h22, h⟩ := gbind h
    refine x_callVi S hK hA (c_X0_get l D cI cZ F h_p1 h_p1_words p1_room p1_size p1_over n_p1_words p1_words x4 v22 h22) (cwV 1 S.2.2.2.2 gX8_readSymbol_X0_get rfl rfl rfl (by decide +kernel) ⟨(Nat.le_of_ble_eq_true rfl), (Nat.le_of_ble_eq_true rfl)⟩) [1, 2] [0, 3, 4, 5, 6] rfl (by decide) rfl (by decide) (by decide) 0 0 rfl rfl rfl (Nat.le_of_ble_eq_true rfl) rfl dX8_readSymbol_22 ⟨(Nat.le_of_ble_eq_true rfl), (Nat.le_of_ble_eq_true rfl)⟩ (fun w1 hw1 => ?_)
    subst hw1
    refine x_ws (ws' := (W_X8_X0_X10 cI cZ h_p0 h_p1 h_p1_words h_p2 h_p2_lengths h_p2_codes h_p2_below p0_at p0_place p1_room p1_size p1_over n_p1_words p1_words p2_symbols p2_most p2_nodes p2_inOrder p2_loaded p2_full n_p2_lengths p2_lengths n_p2_codes p2_codes n_p2_below p2_below)) [0, 5, 6, 1, 2, 3, 4] (by decide) (by rfl) ?_
    obtain ⟨v25, h25, h⟩ := gbind h
    refine x_callVi S hK hA (c_X10_step l D cI cZ F h_p2 h_p2_lengths h_p2_codes h_p2_below p2_symbols p2_most p2_nodes p2_inOrder p2_loaded p2_full n_p2_lengths p2_lengths n_p2_codes p2_codes n_p2_below p2_below x3 v22 v25 h25) (cwV 2 S.2.2.2.2 gX8_readSymbol_X10_step rfl rfl rfl (by decide +kernel) ⟨(Nat.le_of_ble_eq_true rfl), (Nat.le_of_ble_eq_true rfl)⟩) [3, 4, 5, 6] [0, 1, 2] rfl (by decide) rfl (by decide) (by decide) 0 9 rfl rfl rfl (Nat.le_of_ble_eq_true rfl) rfl dX8_readSymbol_25 ⟨(Nat.le_of_ble_eq_true rfl), (Nat.le_of_ble_eq_true rfl)⟩ (fun w1 hw1 => ?_)
    subst hw1
    refine x_ws (ws' := (W_X8_X0_X10 cI cZ h_p0 h_p1 h_p1_words h_p2 h_p2_lengths h_p2_codes h_p2_below p0_at p0_place p1_room p1_size p1_over n_p1_words p1_words p2_symbols p2_most p2_nodes p2_inOrder p2_loaded p2_full n_p2_lengths p2_lengths n_p2_codes p2_codes n_p2_below p2_below)) [0, 1, 2, 3, 4, 5, 6] (by decide) (by rfl) ?_
    refine x_istore (lv' := [(5, .int v25), (0, .ref h_p0), (1, .ref h_p1), (2, .ref h_p2), (3, .int x3), (4, .int x4)]) S dX8_readSymbol_28 (by decide) rfl ?_
    refine x_iload S dX8_readSymbol_30 0 rfl ?_
    refine x_if_ne S 44 dX8_readSymbol_32 (by decide) h (fun h => ?_) (fun h => ?_)
    · refine x_iload S dX8_readSymbol_44 0 rfl ?_
      refine x_if_ge S 62 dX8_readSymbol_46 (by decide) h (fun h => ?_) (fun h => ?_)
      · refine x_iload S dX8_readSymbol_62 0 rfl ?_
        refine x_istore_n (lv' := [(3, .int v25), (5, .int v25), (0, .ref h_p0), (1, .ref h_p1), (2, .ref h_p2), (4, .int x4)]) S dX8_readSymbol_64 rfl (by decide) rfl ?_
        refine x_iinc (v := x4 + (1 : Int32)) (lv' := [(4, .int (x4 + (1 : Int32))), (3, .int v25), (5, .int v25), (0, .ref h_p0), (1, .ref h_p1), (2, .ref h_p2)]) S dX8_readSymbol_65 5 rfl rfl (by decide) rfl ?_
        refine x_goto S 8 dX8_readSymbol_68 (by decide) ?_
        refine x_lv [3, 4, 5, 1, 0] (by rfl) ?_
        exact hrec8 v25 (x4 + (1 : Int32)) p0_at p0_place h
      · refine x_aload_n S dX8_readSymbol_49 rfl 1 rfl ?_
        refine x_iload S dX8_readSymbol_50 5 rfl ?_
        refine x_iconst (v := 1) S dX8_readSymbol_52 (by decide) ?_
        refine x_iadd S dX8_readSymbol_53 ?_
        refine x_put (ty := .int) S hK i_X8_readSymbol_X8 tyX8 tyX8_ok nmX8 0 rfl rfl 0 (by decide) k_X8_readSymbol_15 rfl rfl (by decide +kernel) rfl rfl (Nat.le_of_ble_eq_true rfl) dX8_readSymbol_54 rfl ?_
        refine x_iconst (v := -1) S dX8_readSymbol_57 (by decide) ?_
        refine x_iload S dX8_readSymbol_58 0 rfl ?_
        refine x_isub S dX8_readSymbol_60 ?_
        obtain rfl := Option.some.inj h
        exact hend _ _ _ hWp dX8_readSymbol_61
    · refine x_aload_n S dX8_readSymbol_35 rfl 1 rfl ?_
      refine x_bipush (v := -3) S dX8_readSymbol_36 (by decide) ?_
      refine x_iload S dX8_readSymbol_38 5 rfl ?_
      obtain ⟨v40, h40, h⟩ := gbind h
      refine x_callVi S hK hA (c_X8_fail l D cI cZ F h_p0 p0_at p0_place (-3 : Int32) x4 v40 h40) (cwV 2 S.2.2.2.2 gX8_readSymbol_X8_fail rfl rfl rfl (by decide +kernel) ⟨(Nat.le_of_ble_eq_true rfl), (Nat.le_of_ble_eq_true rfl)⟩) [0] [1, 2, 3, 4, 5, 6] rfl (by decide) rfl (by decide) (by decide) 0 7 rfl rfl rfl (Nat.le_of_ble_eq_true rfl) rfl dX8_readSymbol_40 ⟨(Nat.le_of_ble_eq_true rfl), (Nat.le_of_ble_eq_true rfl)⟩ (fun w1 hw1 => ?_)
      subst hw1
      refine x_ws (ws' := (W_X8_X0_X10 cI cZ h_p0 h_p1 h_p1_words h_p2 h_p2_lengths h_p2_codes h_p2_below p0_at v40.2 p1_room p1_size p1_over n_p1_words p1_words p2_symbols p2_most p2_nodes p2_inOrder p2_loaded p2_full n_p2_lengths p2_lengths n_p2_codes p2_codes n_p2_below p2_below)) [6, 0, 1, 2, 3, 4, 5] (by decide) (by rfl) ?_
      obtain rfl := Option.some.inj h
      exact hend _ _ _ hWp dX8_readSymbol_43
noncomputable def lf_X8_readSymbol_8 (F : Nat) (p1_size : Int32) (n_p1_words : Nat) (p1_words : Nat → Int32) (n_p2_below : Nat) (p2_below : Nat → Int32)  (k : Nat) (x3 : Int32) (x4 : Int32) (p0_at : Int32) (p0_place : Int32) : Option (Int32 × Int32 × Int32) :=
  lp (fun (rec : Int32 × Int32 × Int32 × Int32 → Option (Int32 × Int32 × Int32)) (z : Int32 × Int32 × Int32 × Int32) => bf_X8_readSymbol_8 F p1_size n_p1_words p1_words n_p2_below p2_below (fun x3 x4 p0_at p0_place => rec (x3, x4, p0_at, p0_place)) z.1 z.2.1 z.2.2.1 z.2.2.2) k (x3, x4, p0_at, p0_place)
set_option maxRecDepth 100000 in
set_option maxHeartbeats 4000000 in
theorem wl_X8_readSymbol_8 (S : CallFix p m c cX8_readSymbol 6 s args wsX8_readSymbol RX8) (hK : K_ D vwCl [(cI, .int), (cZ, .boolean)] s) (hA : ∀ q, s.heap.size ≤ q → A q) {F : Nat} {p1_room : Int32} {p1_size : Int32} {p1_over : Int32} {n_p1_words : Nat} {p1_words : Nat → Int32} {p2_symbols : Int32} {p2_most : Int32} {p2_nodes : Int32} {p2_inOrder : Int32} {p2_loaded : Int32} {p2_full : Int32} {n_p2_lengths : Nat} {p2_lengths : Nat → Int32} {n_p2_codes : Nat} {p2_codes : Nat → Int32} {n_p2_below : Nat} {p2_below : Nat → Int32} {h_p0 h_p1 h_p2 h_p1_words h_p2_lengths h_p2_codes h_p2_below : Nat} {r : Int32 × Int32 × Int32} {Wp : va_W → Prop} (hend : ∀ (w1 : va_W) (pc : Nat) (lv : List (Nat × Value)), Wp w1 → decode cX8_readSymbol pc = .ok (.ireturn, 1) → X_ p l e ({ frames := 1, cells := 0, slots := 0, locals := 23 } : Room) s m args below meth c Q D vwCl A 6 0 0 w1 lv pc [.int r.1]) (hWp : Wp (W_X8_X0_X10 cI cZ h_p0 h_p1 h_p1_words h_p2 h_p2_lengths h_p2_codes h_p2_below r.2.1 r.2.2 p1_room p1_size p1_over n_p1_words p1_words p2_symbols p2_most p2_nodes p2_inOrder p2_loaded p2_full n_p2_lengths p2_lengths n_p2_codes p2_codes n_p2_below p2_below))   (k : Nat) : ∀ (x3 : Int32) (x4 : Int32) (p0_at : Int32) (p0_place : Int32), lf_X8_readSymbol_8 F p1_size n_p1_words p1_words n_p2_below p2_below k x3 x4 p0_at p0_place = some r → X_ p l e ({ frames := 1, cells := 0, slots := 0, locals := 23 } : Room) s m args below meth c Q D vwCl A 6 0 0 (W_X8_X0_X10 cI cZ h_p0 h_p1 h_p1_words h_p2 h_p2_lengths h_p2_codes h_p2_below p0_at p0_place p1_room p1_size p1_over n_p1_words p1_words p2_symbols p2_most p2_nodes p2_inOrder p2_loaded p2_full n_p2_lengths p2_lengths n_p2_codes p2_codes n_p2_below p2_below) [(0, .ref h_p0), (1, .ref h_p1), (2, .ref h_p2), (3, .int x3), (4, .int x4)] 8 [] := by
  intro x3 x4 p0_at p0_place h
  exact lp_W (P := fun z => X_ p l e ({ frames := 1, cells := 0, slots := 0, locals := 23 } : Room) s m args below meth c Q D vwCl A 6 0 0 (W_X8_X0_X10 cI cZ h_p0 h_p1 h_p1_words h_p2 h_p2_lengths h_p2_codes h_p2_below z.2.2.1 z.2.2.2 p1_room p1_size p1_over n_p1_words p1_words p2_symbols p2_most p2_nodes p2_inOrder p2_loaded p2_full n_p2_lengths p2_lengths n_p2_codes p2_codes n_p2_below p2_below) [(0, .ref h_p0), (1, .ref h_p1), (2, .ref h_p2), (3, .int z.1), (4, .int z.2.1)] 8 []) (fun rec ih z hz => w_X8_readSymbol_8 S hK hA hend hWp (fun x3 x4 p0_at p0_place hh => ih (x3, x4, p0_at, p0_place) hh)  z.1 z.2.1 z.2.2.1 z.2.2.2 hz) k (x3, x4, p0_at, p0_place) h 
noncomputable def bf_X8_readSymbol_0 (F : Nat) (p1_size : Int32) (n_p1_words : Nat) (p1_words : Nat → Int32) (n_p2_below : Nat) (p2_below : Nat → Int32)  (p0_at : Int32) (p0_place : Int32) : Option (Int32 × Int32 × Int32) :=
  lf_X8_readSymbol_8 F p1_size n_p1_words p1_words n_p2_below p2_below F (0 : Int32) p0_at p0_at p0_place
set_option maxRecDepth 100000 in
set_option maxHeartbeats 4000000 in
theorem w_X8_readSymbol_0 (S : CallFix p m c cX8_readSymbol 6 s args wsX8_readSymbol RX8) (hK : K_ D vwCl [(cI, .int), (cZ, .boolean)] s) (hA : ∀ q, s.heap.size ≤ q → A q) {F : Nat} {p1_room : Int32} {p1_size : Int32} {p1_over : Int32} {n_p1_words : Nat} {p1_words : Nat → Int32} {p2_symbols : Int32} {p2_most : Int32} {p2_nodes : Int32} {p2_inOrder : Int32} {p2_loaded : Int32} {p2_full : Int32} {n_p2_lengths : Nat} {p2_lengths : Nat → Int32} {n_p2_codes : Nat} {p2_codes : Nat → Int32} {n_p2_below : Nat} {p2_below : Nat → Int32} {h_p0 h_p1 h_p2 h_p1_words h_p2_lengths h_p2_codes h_p2_below : Nat} {r : Int32 × Int32 × Int32} {Wp : va_W → Prop} (hend : ∀ (w1 : va_W) (pc : Nat) (lv : List (Nat × Value)), Wp w1 → decode cX8_readSymbol pc = .ok (.ireturn, 1) → X_ p l e ({ frames := 1, cells := 0, slots := 0, locals := 23 } : Room) s m args below meth c Q D vwCl A 6 0 0 w1 lv pc [.int r.1]) (hWp : Wp (W_X8_X0_X10 cI cZ h_p0 h_p1 h_p1_words h_p2 h_p2_lengths h_p2_codes h_p2_below r.2.1 r.2.2 p1_room p1_size p1_over n_p1_words p1_words p2_symbols p2_most p2_nodes p2_inOrder p2_loaded p2_full n_p2_lengths p2_lengths n_p2_codes p2_codes n_p2_below p2_below))   : ∀ (p0_at : Int32) (p0_place : Int32), bf_X8_readSymbol_0 F p1_size n_p1_words p1_words n_p2_below p2_below p0_at p0_place = some r → X_ p l e ({ frames := 1, cells := 0, slots := 0, locals := 23 } : Room) s m args below meth c Q D vwCl A 6 0 0 (W_X8_X0_X10 cI cZ h_p0 h_p1 h_p1_words h_p2 h_p2_lengths h_p2_codes h_p2_below p0_at p0_place p1_room p1_size p1_over n_p1_words p1_words p2_symbols p2_most p2_nodes p2_inOrder p2_loaded p2_full n_p2_lengths p2_lengths n_p2_codes p2_codes n_p2_below p2_below) [(0, .ref h_p0), (1, .ref h_p1), (2, .ref h_p2)] 0 [] := by
  intro p0_at p0_place h
  unfold bf_X8_readSymbol_0 at h
  refine x_iconst (v := 0) S dX8_readSymbol_0 (by decide) ?_
  refine x_istore_n (lv' := [(3, .int (0 : Int32)), (0, .ref h_p0), (1, .ref h_p1), (2, .ref h_p2)]) S dX8_readSymbol_1 rfl (by decide) rfl ?_
  refine x_aload_n S dX8_readSymbol_2 rfl 1 rfl ?_
  refine x_get S hK i_X8_readSymbol_X8 0 rfl rfl 0 (by decide) k_X8_readSymbol_15 rfl rfl dX8_readSymbol_3 ?_
  refine x_istore (lv' := [(4, .int p0_at), (3, .int (0 : Int32)), (0, .ref h_p0), (1, .ref h_p1), (2, .ref h_p2)]) S dX8_readSymbol_6 (by decide) rfl ?_
  refine x_lv [2, 3, 4, 1, 0] (by rfl) ?_
  exact wl_X8_readSymbol_8 S hK hA hend hWp  F (0 : Int32) p0_at p0_at p0_place h
noncomputable def fn_X8_readSymbol (F : Nat) (p1_size : Int32) (n_p1_words : Nat) (p1_words : Nat → Int32) (n_p2_below : Nat) (p2_below : Nat → Int32) (p0_at : Int32) (p0_place : Int32)  : Option (Int32 × Int32 × Int32) :=
  bf_X8_readSymbol_0 F p1_size n_p1_words p1_words n_p2_below p2_below p0_at p0_place
set_option maxRecDepth 100000 in
set_option maxHeartbeats 4000000 in
theorem c_X8_readSymbol (l : Launch) (D : va_G) (cI cZ : ClassId) (F : Nat) (h_p0 h_p1 h_p1_words h_p2 h_p2_lengths h_p2_codes h_p2_below : Nat) (p0_at : Int32) (p0_place : Int32) (p1_room : Int32) (p1_size : Int32) (p1_over : Int32) (n_p1_words : Nat) (p1_words : Nat → Int32) (p2_symbols : Int32) (p2_most : Int32) (p2_nodes : Int32) (p2_inOrder : Int32) (p2_loaded : Int32) (p2_full : Int32) (n_p2_lengths : Nat) (p2_lengths : Nat → Int32) (n_p2_codes : Nat) (p2_codes : Nat → Int32) (n_p2_below : Nat) (p2_below : Nat → Int32)  (r : Int32 × Int32 × Int32) (h : fn_X8_readSymbol F p1_size n_p1_words p1_words n_p2_below p2_below p0_at p0_place = some r) : Ci l yX8_readSymbol wsX8_readSymbol ({ frames := 1, cells := 0, slots := 0, locals := 23 } : Room) D vwCl [(cI, .int), (cZ, .boolean)] [.ref h_p0, .ref h_p1, .ref h_p2] (W_X8_X0_X10 cI cZ h_p0 h_p1 h_p1_words h_p2 h_p2_lengths h_p2_codes h_p2_below p0_at p0_place p1_room p1_size p1_over n_p1_words p1_words p2_symbols p2_most p2_nodes p2_inOrder p2_loaded p2_full n_p2_lengths p2_lengths n_p2_codes p2_codes n_p2_below p2_below) r.1 (fun w => w = (W_X8_X0_X10 cI cZ h_p0 h_p1 h_p1_words h_p2 h_p2_lengths h_p2_codes h_p2_below r.2.1 r.2.2 p1_room p1_size p1_over n_p1_words p1_words p2_symbols p2_most p2_nodes p2_inOrder p2_loaded p2_full n_p2_lengths p2_lengths n_p2_codes p2_codes n_p2_below p2_below)) 0 0 :=
  Ci.ofi (by decide) rfl (Nat.le_of_ble_eq_true rfl) (fun p e s m args below meth c Q A S hK hA hname hend => w_X8_readSymbol_0 S hK hA hend rfl p0_at p0_place h)
end

/-! ===== PrefixSmith$Reader.readNumber(LPrefixSmith$BitRow;I)I ===== -/
abbrev W_X8_X0 (cI cZ : ClassId) (h_p0 h_p1 h_p1_words : Nat) (p0_at : Int32) (p0_place : Int32) (p1_room : Int32) (p1_size : Int32) (p1_over : Int32) (n_p1_words : Nat) (p1_words : Nat → Int32) : va_W := [(h_p0, .inr (7, [.int p0_at, .int p0_place])), (h_p1, .inr (0, [.int p1_room, .ref h_p1_words, .int p1_size, .int p1_over])), (h_p1_words, .inl (cI, n_p1_words, .inl p1_words))]
theorem i_X8_readNumber_X0 : ∀ w ∈ u_ws RX0 TX0 4, w ∈ wsX8_readNumber := by decide +kernel
theorem i_X8_readNumber_X8 : ∀ w ∈ u_ws RX8 TX8 2, w ∈ wsX8_readNumber := by decide +kernel
theorem k_X8_readNumber_15 : Cond.fieldLink RX8 15 "PrefixSmith$Reader" "at" "I" ∈ wsX8_readNumber := by decide +kernel
section
variable {p : Program} {l : Launch} {e : Env} {s : State} {m : MethodId} {args : Array Value} {below : List Frame} {meth : Method} {c : Code} {Q : State → Prop} {D : va_G} {A : Nat → Prop} {cI cZ : ClassId}
noncomputable def bf_X8_readNumber_29 (F : Nat) (p1_size : Int32) (n_p1_words : Nat) (p1_words : Nat → Int32) (rec29 : Int32 → Int32 → Int32 → Int32 → Int32 → Option (Int32 × Int32 × Int32)) (x2 : Int32) (x3 : Int32) (x4 : Int32) (p0_at : Int32) (p0_place : Int32) : Option (Int32 × Int32 × Int32) :=
  (if x2 ≤ x4 then some (x3, p0_at + x2, p0_place) else ((fn_X0_get F p1_size n_p1_words p1_words (p0_at + x4)).bind fun v46 => rec29 x2 (((2 : Int32) * x3) + v46) (x4 + (1 : Int32)) p0_at p0_place))
set_option maxRecDepth 100000 in
set_option maxHeartbeats 4000000 in
theorem w_X8_readNumber_29 (S : CallFix p m c cX8_readNumber 5 s args wsX8_readNumber RX8) (hK : K_ D vwCl [(cI, .int), (cZ, .boolean)] s) (hA : ∀ q, s.heap.size ≤ q → A q) {F : Nat} {p1_room : Int32} {p1_size : Int32} {p1_over : Int32} {n_p1_words : Nat} {p1_words : Nat → Int32} {h_p0 h_p1 h_p1_words : Nat} {r : Int32 × Int32 × Int32} {Wp : va_W → Prop} (hend : ∀ (w1 : va_W) (pc : Nat) (lv : List (Nat × Value)), Wp w1 → decode cX8_readNumber pc = .ok (.ireturn, 1) → X_ p l e ({ frames := 1, cells := 0, slots := 0, locals := 22 } : Room) s m args below meth c Q D vwCl A 5 0 0 w1 lv pc [.int r.1]) (hWp : Wp (W_X8_X0 cI cZ h_p0 h_p1 h_p1_words r.2.1 r.2.2 p1_room p1_size p1_over n_p1_words p1_words)) {rec29 : Int32 → Int32 → Int32 → Int32 → Int32 → Option (Int32 × Int32 × Int32)} (hrec29 : ∀ (x2 : Int32) (x3 : Int32) (x4 : Int32) (p0_at : Int32) (p0_place : Int32), rec29 x2 x3 x4 p0_at p0_place = some r → X_ p l e ({ frames := 1, cells := 0, slots := 0, locals := 22 } : Room) s m args below meth c Q D vwCl A 5 0 0 (W_X8_X0 cI cZ h_p0 h_p1 h_p1_words p0_at p0_place p1_room p1_size p1_over n_p1_words p1_words) [(0, .ref h_p0), (1, .ref h_p1), (2, .int x2), (3, .int x3), (4, .int x4)] 29 []) : ∀ (x2 : Int32) (x3 : Int32) (x4 : Int32) (p0_at : Int32) (p0_place : Int32), bf_X8_readNumber_29 F p1_size n_p1_words p1_words rec29 x2 x3 x4 p0_at p0_place = some r → X_ p l e ({ frames := 1, cells := 0, slots := 0, locals := 22 } : Room) s m args below meth c Q D vwCl A 5 0 0 (W_X8_X0 cI cZ h_p0 h_p1 h_p1_words p0_at p0_place p1_room p1_size p1_over n_p1_words p1_words) [(0, .ref h_p0), (1, .ref h_p1), (2, .int x2), (3, .int x3), (4, .int x4)] 29 [] := by
  intro x2 x3 x4 p0_at p0_place h
  unfold bf_X8_readNumber_29 at h
  refine x_iload S dX8_readNumber_29 4 rfl ?_
  refine x_iload_n S dX8_readNumber_31 rfl 2 rfl ?_
  refine x_icmp_ge S 57 dX8_readNumber_32 (by decide) h (fun h => ?_) (fun h => ?_)
  · refine x_aload_n S dX8_readNumber_57 rfl 0 rfl ?_
    refine x_dup S dX8_readNumber_58 rfl ?_
    refine x_get S hK i_X8_readNumber_X8 0 rfl rfl 0 (by decide) k_X8_readNumber_15 rfl rfl dX8_readNumber_59 ?_
    refine x_iload_n S dX8_readNumber_62 rfl 2 rfl ?_
    refine x_iadd S dX8_readNumber_63 ?_
    refine x_put (ty := .int) S hK i_X8_readNumber_X8 tyX8 tyX8_ok nmX8 0 rfl rfl 0 (by decide) k_X8_readNumber_15 rfl rfl (by decide +kernel) rfl rfl (Nat.le_of_ble_eq_true rfl) dX8_readNumber_64 rfl ?_
    refine x_iload_n S dX8_readNumber_67 rfl 3 rfl ?_
    obtain rfl := Option.some.inj h
    exact hend _ _ _ hWp dX8_readNumber_68
  · refine x_iconst (v := 2) S dX8_readNumber_35 (by decide) ?_
    refine x_iload_n S dX8_readNumber_36 rfl 3 rfl ?_
    refine x_imul S dX8_readNumber_37 ?_
    refine x_aload_n S dX8_readNumber_38 rfl 1 rfl ?_
    refine x_aload_n S dX8_readNumber_39 rfl 0 rfl ?_
    refine x_get S hK i_X8_readNumber_X8 0 rfl rfl 0 (by decide) k_X8_readNumber_15 rfl rfl dX8_readNumber_40 ?_
    refine x_iload S dX8_readNumber_43 4 rfl ?_
    refine x_iadd S dX8_readNumber_45 ?_
    obtain ⟨v46, h46, h⟩ := gbind h
    refine x_callVi S hK hA (c_X0_get l D cI cZ F h_p1 h_p1_words p1_room p1_size p1_over n_p1_words p1_words (p0_at + x4) v46 h46) (cwV 1 S.2.2.2.2 gX8_readNumber_X0_get rfl rfl rfl (by decide +kernel) ⟨(Nat.le_of_ble_eq_true rfl), (Nat.le_of_ble_eq_true rfl)⟩) [1, 2] [0] rfl (by decide) rfl (by decide) (by decide) 0 0 rfl rfl rfl (Nat.le_of_ble_eq_true rfl) rfl dX8_readNumber_46 ⟨(Nat.le_of_ble_eq_true rfl), (Nat.le_of_ble_eq_true rfl)⟩ (fun w1 hw1 => ?_)
    subst hw1
    refine x_ws (ws' := (W_X8_X0 cI cZ h_p0 h_p1 h_p1_words p0_at p0_place p1_room p1_size p1_over n_p1_words p1_words)) [0, 1, 2] (by decide) (by rfl) ?_
    refine x_iadd S dX8_readNumber_49 ?_
    refine x_istore_n (lv' := [(3, .int (((2 : Int32) * x3) + v46)), (0, .ref h_p0), (1, .ref h_p1), (2, .int x2), (4, .int x4)]) S dX8_readNumber_50 rfl (by decide) rfl ?_
    refine x_iinc (v := x4 + (1 : Int32)) (lv' := [(4, .int (x4 + (1 : Int32))), (3, .int (((2 : Int32) * x3) + v46)), (0, .ref h_p0), (1, .ref h_p1), (2, .int x2)]) S dX8_readNumber_51 4 rfl rfl (by decide) rfl ?_
    refine x_goto S 29 dX8_readNumber_54 (by decide) ?_
    refine x_lv [2, 3, 4, 1, 0] (by rfl) ?_
    exact hrec29 x2 (((2 : Int32) * x3) + v46) (x4 + (1 : Int32)) p0_at p0_place h
noncomputable def lf_X8_readNumber_29 (F : Nat) (p1_size : Int32) (n_p1_words : Nat) (p1_words : Nat → Int32)  (k : Nat) (x2 : Int32) (x3 : Int32) (x4 : Int32) (p0_at : Int32) (p0_place : Int32) : Option (Int32 × Int32 × Int32) :=
  lp (fun (rec : Int32 × Int32 × Int32 × Int32 × Int32 → Option (Int32 × Int32 × Int32)) (z : Int32 × Int32 × Int32 × Int32 × Int32) => bf_X8_readNumber_29 F p1_size n_p1_words p1_words (fun x2 x3 x4 p0_at p0_place => rec (x2, x3, x4, p0_at, p0_place)) z.1 z.2.1 z.2.2.1 z.2.2.2.1 z.2.2.2.2) k (x2, x3, x4, p0_at, p0_place)
set_option maxRecDepth 100000 in
set_option maxHeartbeats 4000000 in
theorem wl_X8_readNumber_29 (S : CallFix p m c cX8_readNumber 5 s args wsX8_readNumber RX8) (hK : K_ D vwCl [(cI, .int), (cZ, .boolean)] s) (hA : ∀ q, s.heap.size ≤ q → A q) {F : Nat} {p1_room : Int32} {p1_size : Int32} {p1_over : Int32} {n_p1_words : Nat} {p1_words : Nat → Int32} {h_p0 h_p1 h_p1_words : Nat} {r : Int32 × Int32 × Int32} {Wp : va_W → Prop} (hend : ∀ (w1 : va_W) (pc : Nat) (lv : List (Nat × Value)), Wp w1 → decode cX8_readNumber pc = .ok (.ireturn, 1) → X_ p l e ({ frames := 1, cells := 0, slots := 0, locals := 22 } : Room) s m args below meth c Q D vwCl A 5 0 0 w1 lv pc [.int r.1]) (hWp : Wp (W_X8_X0 cI cZ h_p0 h_p1 h_p1_words r.2.1 r.2.2 p1_room p1_size p1_over n_p1_words p1_words))   (k : Nat) : ∀ (x2 : Int32) (x3 : Int32) (x4 : Int32) (p0_at : Int32) (p0_place : Int32), lf_X8_readNumber_29 F p1_size n_p1_words p1_words k x2 x3 x4 p0_at p0_place = some r → X_ p l e ({ frames := 1, cells := 0, slots := 0, locals := 22 } : Room) s m args below meth c Q D vwCl A 5 0 0 (W_X8_X0 cI cZ h_p0 h_p1 h_p1_words p0_at p0_place p1_room p1_size p1_over n_p1_words p1_words) [(0, .ref h_p0), (1, .ref h_p1), (2, .int x2), (3, .int x3), (4, .int x4)] 29 [] := by
  intro x2 x3 x4 p0_at p0_place h
  exact lp_W (P := fun z => X_ p l e ({ frames := 1, cells := 0, slots := 0, locals := 22 } : Room) s m args below meth c Q D vwCl A 5 0 0 (W_X8_X0 cI cZ h_p0 h_p1 h_p1_words z.2.2.2.1 z.2.2.2.2 p1_room p1_size p1_over n_p1_words p1_words) [(0, .ref h_p0), (1, .ref h_p1), (2, .int z.1), (3, .int z.2.1), (4, .int z.2.2.1)] 29 []) (fun rec ih z hz => w_X8_readNumber_29 S hK hA hend hWp (fun x2 x3 x4 p0_at p0_place hh => ih (x2, x3, x4, p0_at, p0_place) hh)  z.1 z.2.1 z.2.2.1 z.2.2.2.1 z.2.2.2.2 hz) k (x2, x3, x4, p0_at, p0_place) h 
noncomputable def bf_X8_readNumber_0 (F : Nat) (p1_size : Int32) (n_p1_words : Nat) (p1_words : Nat → Int32)  (x2 : Int32) (p0_at : Int32) (p0_place : Int32) : Option (Int32 × Int32 × Int32) :=
  (if x2 ≤ (p1_size - p0_at) then lf_X8_readNumber_29 F p1_size n_p1_words p1_words F x2 (0 : Int32) (0 : Int32) p0_at p0_place else ((fn_X8_fail F p0_place (-2 : Int32) p1_size).bind fun v20 => some (v20.1, p0_at, v20.2)))
set_option maxRecDepth 100000 in
set_option maxHeartbeats 4000000 in
theorem w_X8_readNumber_0 (S : CallFix p m c cX8_readNumber 5 s args wsX8_readNumber RX8) (hK : K_ D vwCl [(cI, .int), (cZ, .boolean)] s) (hA : ∀ q, s.heap.size ≤ q → A q) {F : Nat} {p1_room : Int32} {p1_size : Int32} {p1_over : Int32} {n_p1_words : Nat} {p1_words : Nat → Int32} {h_p0 h_p1 h_p1_words : Nat} {r : Int32 × Int32 × Int32} {Wp : va_W → Prop} (hend : ∀ (w1 : va_W) (pc : Nat) (lv : List (Nat × Value)), Wp w1 → decode cX8_readNumber pc = .ok (.ireturn, 1) → X_ p l e ({ frames := 1, cells := 0, slots := 0, locals := 22 } : Room) s m args below meth c Q D vwCl A 5 0 0 w1 lv pc [.int r.1]) (hWp : Wp (W_X8_X0 cI cZ h_p0 h_p1 h_p1_words r.2.1 r.2.2 p1_room p1_size p1_over n_p1_words p1_words))   : ∀ (x2 : Int32) (p0_at : Int32) (p0_place : Int32), bf_X8_readNumber_0 F p1_size n_p1_words p1_words x2 p0_at p0_place = some r → X_ p l e ({ frames := 1, cells := 0, slots := 0, locals := 22 } : Room) s m args below meth c Q D vwCl A 5 0 0 (W_X8_X0 cI cZ h_p0 h_p1 h_p1_words p0_at p0_place p1_room p1_size p1_over n_p1_words p1_words) [(0, .ref h_p0), (1, .ref h_p1), (2, .int x2)] 0 [] := by
  intro x2 p0_at p0_place h
  unfold bf_X8_readNumber_0 at h
  refine x_aload_n S dX8_readNumber_0 rfl 1 rfl ?_
  refine x_getN S hK i_X8_readNumber_X0 1 rfl rfl 2 (by decide) nf_X8_23 rfl rfl dX8_readNumber_1 ?_
  refine x_aload_n S dX8_readNumber_4 rfl 0 rfl ?_
  refine x_get S hK i_X8_readNumber_X8 0 rfl rfl 0 (by decide) k_X8_readNumber_15 rfl rfl dX8_readNumber_5 ?_
  refine x_isub S dX8_readNumber_8 ?_
  refine x_iload_n S dX8_readNumber_9 rfl 2 rfl ?_
  refine x_icmp_ge S 24 dX8_readNumber_10 (by decide) h (fun h => ?_) (fun h => ?_)
  · refine x_iconst (v := 0) S dX8_readNumber_24 (by decide) ?_
    refine x_istore_n (lv' := [(3, .int (0 : Int32)), (0, .ref h_p0), (1, .ref h_p1), (2, .int x2)]) S dX8_readNumber_25 rfl (by decide) rfl ?_
    refine x_iconst (v := 0) S dX8_readNumber_26 (by decide) ?_
    refine x_istore (lv' := [(4, .int (0 : Int32)), (3, .int (0 : Int32)), (0, .ref h_p0), (1, .ref h_p1), (2, .int x2)]) S dX8_readNumber_27 (by decide) rfl ?_
    refine x_lv [2, 3, 4, 1, 0] (by rfl) ?_
    exact wl_X8_readNumber_29 S hK hA hend hWp  F x2 (0 : Int32) (0 : Int32) p0_at p0_place h
  · refine x_aload_n S dX8_readNumber_13 rfl 0 rfl ?_
    refine x_bipush (v := -2) S dX8_readNumber_14 (by decide) ?_
    refine x_aload_n S dX8_readNumber_16 rfl 1 rfl ?_
    refine x_getN S hK i_X8_readNumber_X0 1 rfl rfl 2 (by decide) nf_X8_23 rfl rfl dX8_readNumber_17 ?_
    obtain ⟨v20, h20, h⟩ := gbind h
    refine x_callVi S hK hA (c_X8_fail l D cI cZ F h_p0 p0_at p0_place (-2 : Int32) p1_size v20 h20) (cwV 2 S.2.2.2.2 gX8_readNumber_X8_fail rfl rfl rfl (by decide +kernel) ⟨(Nat.le_of_ble_eq_true rfl), (Nat.le_of_ble_eq_true rfl)⟩) [0] [1, 2] rfl (by decide) rfl (by decide) (by decide) 0 7 rfl rfl rfl (Nat.le_of_ble_eq_true rfl) rfl dX8_readNumber_20 ⟨(Nat.le_of_ble_eq_true rfl), (Nat.le_of_ble_eq_true rfl)⟩ (fun w1 hw1 => ?_)
    subst hw1
    refine x_ws (ws' := (W_X8_X0 cI cZ h_p0 h_p1 h_p1_words p0_at v20.2 p1_room p1_size p1_over n_p1_words p1_words)) [2, 0, 1] (by decide) (by rfl) ?_
    obtain rfl := Option.some.inj h
    exact hend _ _ _ hWp dX8_readNumber_23
noncomputable def fn_X8_readNumber (F : Nat) (p1_size : Int32) (n_p1_words : Nat) (p1_words : Nat → Int32) (p0_at : Int32) (p0_place : Int32) (x2 : Int32) : Option (Int32 × Int32 × Int32) :=
  bf_X8_readNumber_0 F p1_size n_p1_words p1_words x2 p0_at p0_place
set_option maxRecDepth 100000 in
set_option maxHeartbeats 4000000 in
theorem c_X8_readNumber (l : Launch) (D : va_G) (cI cZ : ClassId) (F : Nat) (h_p0 h_p1 h_p1_words : Nat) (p0_at : Int32) (p0_place : Int32) (p1_room : Int32) (p1_size : Int32) (p1_over : Int32) (n_p1_words : Nat) (p1_words : Nat → Int32) (x2 : Int32) (r : Int32 × Int32 × Int32) (h : fn_X8_readNumber F p1_size n_p1_words p1_words p0_at p0_place x2 = some r) : Ci l yX8_readNumber wsX8_readNumber ({ frames := 1, cells := 0, slots := 0, locals := 22 } : Room) D vwCl [(cI, .int), (cZ, .boolean)] [.ref h_p0, .ref h_p1, .int x2] (W_X8_X0 cI cZ h_p0 h_p1 h_p1_words p0_at p0_place p1_room p1_size p1_over n_p1_words p1_words) r.1 (fun w => w = (W_X8_X0 cI cZ h_p0 h_p1 h_p1_words r.2.1 r.2.2 p1_room p1_size p1_over n_p1_words p1_words)) 0 0 :=
  Ci.ofi (by decide) rfl (Nat.le_of_ble_eq_true rfl) (fun p e s m args below meth c Q A S hK hA hname hend => w_X8_readNumber_0 S hK hA hend rfl x2 p0_at p0_place h)
end

/-! ===== PrefixSmith$Reader.readAll(LPrefixSmith$BitRow;LPrefixSmith$Table;LPrefixSmith$Row;)I ===== -/
abbrev W_X8_X0_X10_X9 (cI cZ : ClassId) (h_p0 h_p1 h_p1_words h_p2 h_p2_lengths h_p2_codes h_p2_below h_p3 h_p3_items : Nat) (p0_at : Int32) (p0_place : Int32) (p1_room : Int32) (p1_size : Int32) (p1_over : Int32) (n_p1_words : Nat) (p1_words : Nat → Int32) (p2_symbols : Int32) (p2_most : Int32) (p2_nodes : Int32) (p2_inOrder : Int32) (p2_loaded : Int32) (p2_full : Int32) (n_p2_lengths : Nat) (p2_lengths : Nat → Int32) (n_p2_codes : Nat) (p2_codes : Nat → Int32) (n_p2_below : Nat) (p2_below : Nat → Int32) (p3_size : Int32) (n_p3_items : Nat) (p3_items : Nat → Int32) : va_W := [(h_p0, .inr (7, [.int p0_at, .int p0_place])), (h_p1, .inr (0, [.int p1_room, .ref h_p1_words, .int p1_size, .int p1_over])), (h_p1_words, .inl (cI, n_p1_words, .inl p1_words)), (h_p2, .inr (9, [.int p2_symbols, .int p2_most, .ref h_p2_lengths, .ref h_p2_codes, .ref h_p2_below, .int p2_nodes, .int p2_inOrder, .int p2_loaded, .int p2_full])), (h_p2_lengths, .inl (cI, n_p2_lengths, .inl p2_lengths)), (h_p2_codes, .inl (cI, n_p2_codes, .inl p2_codes)), (h_p2_below, .inl (cI, n_p2_below, .inl p2_below)), (h_p3, .inr (8, [.ref h_p3_items, .int p3_size])), (h_p3_items, .inl (cI, n_p3_items, .inl p3_items))]
theorem i_X8_readAll_X8 : ∀ w ∈ u_ws RX8 TX8 2, w ∈ wsX8_readAll := by decide +kernel
theorem k_X8_readAll_15 : Cond.fieldLink RX8 15 "PrefixSmith$Reader" "at" "I" ∈ wsX8_readAll := by decide +kernel
theorem i_X8_readAll_X9 : ∀ w ∈ u_ws RX9 TX9 2, w ∈ wsX8_readAll := by decide +kernel
theorem i_X8_readAll_X0 : ∀ w ∈ u_ws RX0 TX0 4, w ∈ wsX8_readAll := by decide +kernel
section
variable {p : Program} {l : Launch} {e : Env} {s : State} {m : MethodId} {args : Array Value} {below : List Frame} {meth : Method} {c : Code} {Q : State → Prop} {D : va_G} {A : Nat → Prop} {cI cZ : ClassId}
noncomputable def bf_X8_readAll_13 (F : Nat) (p1_size : Int32) (n_p1_words : Nat) (p1_words : Nat → Int32) (n_p2_below : Nat) (p2_below : Nat → Int32) (n_p3_items : Nat) (rec13 : Int32 → Int32 → Int32 → Int32 → (Nat → Int32) → Option (Int32 × Int32 × Int32 × Int32 × (Nat → Int32))) (x4 : Int32) (p0_at : Int32) (p0_place : Int32) (p3_size : Int32) (p3_items : Nat → Int32) : Option (Int32 × Int32 × Int32 × Int32 × (Nat → Int32)) :=
  (if (600 : Int32) < x4 then some (p3_size, p0_at, p0_place, p3_size, p3_items) else (if p1_size ≤ p0_at then some (p3_size, p0_at, p0_place, p3_size, p3_items) else ((fn_X8_readSymbol F p1_size n_p1_words p1_words n_p2_below p2_below p0_at p0_place).bind fun v41 => (if 0 ≤ v41.1 then (if p3_size < (600 : Int32) then ((fn_X9_add F n_p3_items p3_size p3_items v41.1).bind fun v76 => rec13 (x4 + (1 : Int32)) v41.2.1 v41.2.2 v76.1 v76.2) else ((fn_X8_fail F v41.2.2 (-4 : Int32) p0_at).bind fun v69 => some (v69.1, v41.2.1, v69.2, p3_size, p3_items))) else some (v41.1, v41.2.1, v41.2.2, p3_size, p3_items)))))
set_option maxRecDepth 100000 in
set_option maxHeartbeats 4000000 in
theorem w_X8_readAll_13 (S : CallFix p m c cX8_readAll 7 s args wsX8_readAll RX8) (hK : K_ D vwCl [(cI, .int), (cZ, .boolean)] s) (hA : ∀ q, s.heap.size ≤ q → A q) {F : Nat} {p1_room : Int32} {p1_size : Int32} {p1_over : Int32} {n_p1_words : Nat} {p1_words : Nat → Int32} {p2_symbols : Int32} {p2_most : Int32} {p2_nodes : Int32} {p2_inOrder : Int32} {p2_loaded : Int32} {p2_full : Int32} {n_p2_lengths : Nat} {p2_lengths : Nat → Int32} {n_p2_codes : Nat} {p2_codes : Nat → Int32} {n_p2_below : Nat} {p2_below : Nat → Int32} {n_p3_items : Nat} {h_p0 h_p1 h_p2 h_p3 h_p1_words h_p2_lengths h_p2_codes h_p2_below h_p3_items : Nat} {r : Int32 × Int32 × Int32 × Int32 × (Nat → Int32)} {Wp : va_W → Prop} (hend : ∀ (w1 : va_W) (pc : Nat) (lv : List (Nat × Value)), Wp w1 → decode cX8_readAll pc = .ok (.ireturn, 1) → X_ p l e ({ frames := 2, cells := 0, slots := 0, locals := 48 } : Room) s m args below meth c Q D vwCl A 7 0 0 w1 lv pc [.int r.1]) (hWp : Wp (W_X8_X0_X10_X9 cI cZ h_p0 h_p1 h_p1_words h_p2 h_p2_lengths h_p2_codes h_p2_below h_p3 h_p3_items r.2.1 r.2.2.1 p1_room p1_size p1_over n_p1_words p1_words p2_symbols p2_most p2_nodes p2_inOrder p2_loaded p2_full n_p2_lengths p2_lengths n_p2_codes p2_codes n_p2_below p2_below r.2.2.2.1 n_p3_items r.2.2.2.2)) {rec13 : Int32 → Int32 → Int32 → Int32 → (Nat → Int32) → Option (Int32 × Int32 × Int32 × Int32 × (Nat → Int32))} (hrec13 : ∀ (x4 : Int32) (p0_at : Int32) (p0_place : Int32) (p3_size : Int32) (p3_items : Nat → Int32), rec13 x4 p0_at p0_place p3_size p3_items = some r → X_ p l e ({ frames := 2, cells := 0, slots := 0, locals := 48 } : Room) s m args below meth c Q D vwCl A 7 0 0 (W_X8_X0_X10_X9 cI cZ h_p0 h_p1 h_p1_words h_p2 h_p2_lengths h_p2_codes h_p2_below h_p3 h_p3_items p0_at p0_place p1_room p1_size p1_over n_p1_words p1_words p2_symbols p2_most p2_nodes p2_inOrder p2_loaded p2_full n_p2_lengths p2_lengths n_p2_codes p2_codes n_p2_below p2_below p3_size n_p3_items p3_items) [(0, .ref h_p0), (1, .ref h_p1), (2, .ref h_p2), (3, .ref h_p3), (4, .int x4)] 13 []) : ∀ (x4 : Int32) (p0_at : Int32) (p0_place : Int32) (p3_size : Int32) (p3_items : Nat → Int32), bf_X8_readAll_13 F p1_size n_p1_words p1_words n_p2_below p2_below n_p3_items rec13 x4 p0_at p0_place p3_size p3_items = some r → X_ p l e ({ frames := 2, cells := 0, slots := 0, locals := 48 } : Room) s m args below meth c Q D vwCl A 7 0 0 (W_X8_X0_X10_X9 cI cZ h_p0 h_p1 h_p1_words h_p2 h_p2_lengths h_p2_codes h_p2_below h_p3 h_p3_items p0_at p0_place p1_room p1_size p1_over n_p1_words p1_words p2_symbols p2_most p2_nodes p2_inOrder p2_loaded p2_full n_p2_lengths p2_lengths n_p2_codes p2_codes n_p2_below p2_below p3_size n_p3_items p3_items) [(0, .ref h_p0), (1, .ref h_p1), (2, .ref h_p2), (3, .ref h_p3), (4, .int x4)] 13 [] := by
  intro x4 p0_at p0_place p3_size p3_items h
  unfold bf_X8_readAll_13 at h
  refine x_iload S dX8_readAll_13 4 rfl ?_
  refine x_sipush (v := 600) S dX8_readAll_15 (by decide) ?_
  refine x_icmp_gt S 85 dX8_readAll_18 (by decide) h (fun h => ?_) (fun h => ?_)
  · refine x_aload_n S dX8_readAll_85 rfl 3 rfl ?_
    refine x_getN S hK i_X8_readAll_X9 7 rfl rfl 1 (by decide) nf_X8_18 rfl rfl dX8_readAll_86 ?_
    obtain rfl := Option.some.inj h
    exact hend _ _ _ hWp dX8_readAll_89
  · refine x_aload_n S dX8_readAll_21 rfl 0 rfl ?_
    refine x_get S hK i_X8_readAll_X8 0 rfl rfl 0 (by decide) k_X8_readAll_15 rfl rfl dX8_readAll_22 ?_
    refine x_aload_n S dX8_readAll_25 rfl 1 rfl ?_
    refine x_getN S hK i_X8_readAll_X0 1 rfl rfl 2 (by decide) nf_X8_23 rfl rfl dX8_readAll_26 ?_
    refine x_icmp_ge S 85 dX8_readAll_29 (by decide) h (fun h => ?_) (fun h => ?_)
    · refine x_aload_n S dX8_readAll_85 rfl 3 rfl ?_
      refine x_getN S hK i_X8_readAll_X9 7 rfl rfl 1 (by decide) nf_X8_18 rfl rfl dX8_readAll_86 ?_
      obtain rfl := Option.some.inj h
      exact hend _ _ _ hWp dX8_readAll_89
    · refine x_aload_n S dX8_readAll_32 rfl 0 rfl ?_
      refine x_get S hK i_X8_readAll_X8 0 rfl rfl 0 (by decide) k_X8_readAll_15 rfl rfl dX8_readAll_33 ?_
      refine x_istore (lv' := [(5, .int p0_at), (0, .ref h_p0), (1, .ref h_p1), (2, .ref h_p2), (3, .ref h_p3), (4, .int x4)]) S dX8_readAll_36 (by decide) rfl ?_
      refine x_aload_n S dX8_readAll_38 rfl 1 rfl ?_
      refine x_aload_n S dX8_readAll_39 rfl 2 rfl ?_
      refine x_aload_n S dX8_readAll_40 rfl 3 rfl ?_
      obtain ⟨v41, h41, h⟩ := gbind h
      refine x_callVi S hK hA (c_X8_readSymbol l D cI cZ F h_p0 h_p1 h_p1_words h_p2 h_p2_lengths h_p2_codes h_p2_below p0_at p0_place p1_room p1_size p1_over n_p1_words p1_words p2_symbols p2_most p2_nodes p2_inOrder p2_loaded p2_full n_p2_lengths p2_lengths n_p2_codes p2_codes n_p2_below p2_below  v41 h41) (cwV 2 S.2.2.2.2 gX8_readAll_X8_readSymbol rfl rfl rfl (by decide +kernel) ⟨(Nat.le_of_ble_eq_true rfl), (Nat.le_of_ble_eq_true rfl)⟩) [0, 1, 2, 3, 4, 5, 6] [7, 8] rfl (by decide) rfl (by decide) (by decide) 0 7 rfl rfl rfl (Nat.le_of_ble_eq_true rfl) rfl dX8_readAll_41 ⟨(Nat.le_of_ble_eq_true rfl), (Nat.le_of_ble_eq_true rfl)⟩ (fun w1 hw1 => ?_)
      subst hw1
      refine x_ws (ws' := (W_X8_X0_X10_X9 cI cZ h_p0 h_p1 h_p1_words h_p2 h_p2_lengths h_p2_codes h_p2_below h_p3 h_p3_items v41.2.1 v41.2.2 p1_room p1_size p1_over n_p1_words p1_words p2_symbols p2_most p2_nodes p2_inOrder p2_loaded p2_full n_p2_lengths p2_lengths n_p2_codes p2_codes n_p2_below p2_below p3_size n_p3_items p3_items)) [2, 3, 4, 5, 6, 7, 8, 0, 1] (by decide) (by rfl) ?_
      refine x_istore (lv' := [(6, .int v41.1), (5, .int p0_at), (0, .ref h_p0), (1, .ref h_p1), (2, .ref h_p2), (3, .ref h_p3), (4, .int x4)]) S dX8_readAll_44 (by decide) rfl ?_
      refine x_iload S dX8_readAll_46 0 rfl ?_
      refine x_if_ge S 54 dX8_readAll_48 (by decide) h (fun h => ?_) (fun h => ?_)
      · refine x_aload_n S dX8_readAll_54 rfl 5 rfl ?_
        refine x_getN S hK i_X8_readAll_X9 7 rfl rfl 1 (by decide) nf_X8_18 rfl rfl dX8_readAll_55 ?_
        refine x_sipush (v := 600) S dX8_readAll_58 (by decide) ?_
        refine x_icmp_lt S 73 dX8_readAll_61 (by decide) h (fun h => ?_) (fun h => ?_)
        · refine x_aload_n S dX8_readAll_73 rfl 5 rfl ?_
          refine x_iload S dX8_readAll_74 0 rfl ?_
          obtain ⟨v76, h76, h⟩ := gbind h
          refine x_callVv S hK hA (c_X9_add l D cI cZ F h_p3 h_p3_items p3_size n_p3_items p3_items v41.1 v76 h76) (cwV 1 S.2.2.2.2 gX8_readAll_X9_add rfl rfl rfl (by decide +kernel) ⟨(Nat.le_of_ble_eq_true rfl), (Nat.le_of_ble_eq_true rfl)⟩) [7, 8] [0, 1, 2, 3, 4, 5, 6] rfl (by decide) rfl (by decide) (by decide) 0 8 rfl rfl rfl (Nat.le_of_ble_eq_true rfl) rfl dX8_readAll_76 ⟨(Nat.le_of_ble_eq_true rfl), (Nat.le_of_ble_eq_true rfl)⟩ (fun w1 hw1 => ?_)
          subst hw1
          refine x_ws (ws' := (W_X8_X0_X10_X9 cI cZ h_p0 h_p1 h_p1_words h_p2 h_p2_lengths h_p2_codes h_p2_below h_p3 h_p3_items v41.2.1 v41.2.2 p1_room p1_size p1_over n_p1_words p1_words p2_symbols p2_most p2_nodes p2_inOrder p2_loaded p2_full n_p2_lengths p2_lengths n_p2_codes p2_codes n_p2_below p2_below v76.1 n_p3_items v76.2)) [0, 1, 2, 3, 4, 5, 6, 7, 8] (by decide) (by rfl) ?_
          refine x_iinc (v := x4 + (1 : Int32)) (lv' := [(4, .int (x4 + (1 : Int32))), (6, .int v41.1), (5, .int p0_at), (0, .ref h_p0), (1, .ref h_p1), (2, .ref h_p2), (3, .ref h_p3)]) S dX8_readAll_79 6 rfl rfl (by decide) rfl ?_
          refine x_goto S 13 dX8_readAll_82 (by decide) ?_
          refine x_lv [3, 4, 5, 6, 0] (by rfl) ?_
          exact hrec13 (x4 + (1 : Int32)) v41.2.1 v41.2.2 v76.1 v76.2 h
        · refine x_aload_n S dX8_readAll_64 rfl 2 rfl ?_
          refine x_bipush (v := -4) S dX8_readAll_65 (by decide) ?_
          refine x_iload S dX8_readAll_67 1 rfl ?_
          obtain ⟨v69, h69, h⟩ := gbind h
          refine x_callVi S hK hA (c_X8_fail l D cI cZ F h_p0 v41.2.1 v41.2.2 (-4 : Int32) p0_at v69 h69) (cwV 2 S.2.2.2.2 gX8_readAll_X8_fail rfl rfl rfl (by decide +kernel) ⟨(Nat.le_of_ble_eq_true rfl), (Nat.le_of_ble_eq_true rfl)⟩) [0] [1, 2, 3, 4, 5, 6, 7, 8] rfl (by decide) rfl (by decide) (by decide) 0 7 rfl rfl rfl (Nat.le_of_ble_eq_true rfl) rfl dX8_readAll_69 ⟨(Nat.le_of_ble_eq_true rfl), (Nat.le_of_ble_eq_true rfl)⟩ (fun w1 hw1 => ?_)
          subst hw1
          refine x_ws (ws' := (W_X8_X0_X10_X9 cI cZ h_p0 h_p1 h_p1_words h_p2 h_p2_lengths h_p2_codes h_p2_below h_p3 h_p3_items v41.2.1 v69.2 p1_room p1_size p1_over n_p1_words p1_words p2_symbols p2_most p2_nodes p2_inOrder p2_loaded p2_full n_p2_lengths p2_lengths n_p2_codes p2_codes n_p2_below p2_below p3_size n_p3_items p3_items)) [8, 0, 1, 2, 3, 4, 5, 6, 7] (by decide) (by rfl) ?_
          obtain rfl := Option.some.inj h
          exact hend _ _ _ hWp dX8_readAll_72
      · refine x_iload S dX8_readAll_51 0 rfl ?_
        obtain rfl := Option.some.inj h
        exact hend _ _ _ hWp dX8_readAll_53
noncomputable def lf_X8_readAll_13 (F : Nat) (p1_size : Int32) (n_p1_words : Nat) (p1_words : Nat → Int32) (n_p2_below : Nat) (p2_below : Nat → Int32) (n_p3_items : Nat)  (k : Nat) (x4 : Int32) (p0_at : Int32) (p0_place : Int32) (p3_size : Int32) (p3_items : Nat → Int32) : Option (Int32 × Int32 × Int32 × Int32 × (Nat → Int32)) :=
  lp (fun (rec : Int32 × Int32 × Int32 × Int32 × (Nat → Int32) → Option (Int32 × Int32 × Int32 × Int32 × (Nat → Int32))) (z : Int32 × Int32 × Int32 × Int32 × (Nat → Int32)) => bf_X8_readAll_13 F p1_size n_p1_words p1_words n_p2_below p2_below n_p3_items (fun x4 p0_at p0_place p3_size p3_items => rec (x4, p0_at, p0_place, p3_size, p3_items)) z.1 z.2.1 z.2.2.1 z.2.2.2.1 z.2.2.2.2) k (x4, p0_at, p0_place, p3_size, p3_items)
set_option maxRecDepth 100000 in
set_option maxHeartbeats 4000000 in
theorem wl_X8_readAll_13 (S : CallFix p m c cX8_readAll 7 s args wsX8_readAll RX8) (hK : K_ D vwCl [(cI, .int), (cZ, .boolean)] s) (hA : ∀ q, s.heap.size ≤ q → A q) {F : Nat} {p1_room : Int32} {p1_size : Int32} {p1_over : Int32} {n_p1_words : Nat} {p1_words : Nat → Int32} {p2_symbols : Int32} {p2_most : Int32} {p2_nodes : Int32} {p2_inOrder : Int32} {p2_loaded : Int32} {p2_full : Int32} {n_p2_lengths : Nat} {p2_lengths : Nat → Int32} {n_p2_codes : Nat} {p2_codes : Nat → Int32} {n_p2_below : Nat} {p2_below : Nat → Int32} {n_p3_items : Nat} {h_p0 h_p1 h_p2 h_p3 h_p1_words h_p2_lengths h_p2_codes h_p2_below h_p3_items : Nat} {r : Int32 × Int32 × Int32 × Int32 × (Nat → Int32)} {Wp : va_W → Prop} (hend : ∀ (w1 : va_W) (pc : Nat) (lv : List (Nat × Value)), Wp w1 → decode cX8_readAll pc = .ok (.ireturn, 1) → X_ p l e ({ frames := 2, cells := 0, slots := 0, locals := 48 } : Room) s m args below meth c Q D vwCl A 7 0 0 w1 lv pc [.int r.1]) (hWp : Wp (W_X8_X0_X10_X9 cI cZ h_p0 h_p1 h_p1_words h_p2 h_p2_lengths h_p2_codes h_p2_below h_p3 h_p3_items r.2.1 r.2.2.1 p1_room p1_size p1_over n_p1_words p1_words p2_symbols p2_most p2_nodes p2_inOrder p2_loaded p2_full n_p2_lengths p2_lengths n_p2_codes p2_codes n_p2_below p2_below r.2.2.2.1 n_p3_items r.2.2.2.2))   (k : Nat) : ∀ (x4 : Int32) (p0_at : Int32) (p0_place : Int32) (p3_size : Int32) (p3_items : Nat → Int32), lf_X8_readAll_13 F p1_size n_p1_words p1_words n_p2_below p2_below n_p3_items k x4 p0_at p0_place p3_size p3_items = some r → X_ p l e ({ frames := 2, cells := 0, slots := 0, locals := 48 } : Room) s m args below meth c Q D vwCl A 7 0 0 (W_X8_X0_X10_X9 cI cZ h_p0 h_p1 h_p1_words h_p2 h_p2_lengths h_p2_codes h_p2_below h_p3 h_p3_items p0_at p0_place p1_room p1_size p1_over n_p1_words p1_words p2_symbols p2_most p2_nodes p2_inOrder p2_loaded p2_full n_p2_lengths p2_lengths n_p2_codes p2_codes n_p2_below p2_below p3_size n_p3_items p3_items) [(0, .ref h_p0), (1, .ref h_p1), (2, .ref h_p2), (3, .ref h_p3), (4, .int x4)] 13 [] := by
  intro x4 p0_at p0_place p3_size p3_items h
  exact lp_W (P := fun z => X_ p l e ({ frames := 2, cells := 0, slots := 0, locals := 48 } : Room) s m args below meth c Q D vwCl A 7 0 0 (W_X8_X0_X10_X9 cI cZ h_p0 h_p1 h_p1_words h_p2 h_p2_lengths h_p2_codes h_p2_below h_p3 h_p3_items z.2.1 z.2.2.1 p1_room p1_size p1_over n_p1_words p1_words p2_symbols p2_most p2_nodes p2_inOrder p2_loaded p2_full n_p2_lengths p2_lengths n_p2_codes p2_codes n_p2_below p2_below z.2.2.2.1 n_p3_items z.2.2.2.2) [(0, .ref h_p0), (1, .ref h_p1), (2, .ref h_p2), (3, .ref h_p3), (4, .int z.1)] 13 []) (fun rec ih z hz => w_X8_readAll_13 S hK hA hend hWp (fun x4 p0_at p0_place p3_size p3_items hh => ih (x4, p0_at, p0_place, p3_size, p3_items) hh)  z.1 z.2.1 z.2.2.1 z.2.2.2.1 z.2.2.2.2 hz) k (x4, p0_at, p0_place, p3_size, p3_items) h 
noncomputable def bf_X8_readAll_0 (F : Nat) (p1_size : Int32) (n_p1_words : Nat) (p1_words : Nat → Int32) (n_p2_below : Nat) (p2_below : Nat → Int32) (n_p3_items : Nat)  (p0_at : Int32) (p0_place : Int32) (p3_size : Int32) (p3_items : Nat → Int32) : Option (Int32 × Int32 × Int32 × Int32 × (Nat → Int32)) :=
  lf_X8_readAll_13 F p1_size n_p1_words p1_words n_p2_below p2_below n_p3_items F (0 : Int32) (0 : Int32) p0_place (0 : Int32) p3_items
set_option maxRecDepth 100000 in
set_option maxHeartbeats 4000000 in
theorem w_X8_readAll_0 (S : CallFix p m c cX8_readAll 7 s args wsX8_readAll RX8) (hK : K_ D vwCl [(cI, .int), (cZ, .boolean)] s) (hA : ∀ q, s.heap.size ≤ q → A q) {F : Nat} {p1_room : Int32} {p1_size : Int32} {p1_over : Int32} {n_p1_words : Nat} {p1_words : Nat → Int32} {p2_symbols : Int32} {p2_most : Int32} {p2_nodes : Int32} {p2_inOrder : Int32} {p2_loaded : Int32} {p2_full : Int32} {n_p2_lengths : Nat} {p2_lengths : Nat → Int32} {n_p2_codes : Nat} {p2_codes : Nat → Int32} {n_p2_below : Nat} {p2_below : Nat → Int32} {n_p3_items : Nat} {h_p0 h_p1 h_p2 h_p3 h_p1_words h_p2_lengths h_p2_codes h_p2_below h_p3_items : Nat} {r : Int32 × Int32 × Int32 × Int32 × (Nat → Int32)} {Wp : va_W → Prop} (hend : ∀ (w1 : va_W) (pc : Nat) (lv : List (Nat × Value)), Wp w1 → decode cX8_readAll pc = .ok (.ireturn, 1) → X_ p l e ({ frames := 2, cells := 0, slots := 0, locals := 48 } : Room) s m args below meth c Q D vwCl A 7 0 0 w1 lv pc [.int r.1]) (hWp : Wp (W_X8_X0_X10_X9 cI cZ h_p0 h_p1 h_p1_words h_p2 h_p2_lengths h_p2_codes h_p2_below h_p3 h_p3_items r.2.1 r.2.2.1 p1_room p1_size p1_over n_p1_words p1_words p2_symbols p2_most p2_nodes p2_inOrder p2_loaded p2_full n_p2_lengths p2_lengths n_p2_codes p2_codes n_p2_below p2_below r.2.2.2.1 n_p3_items r.2.2.2.2))   : ∀ (p0_at : Int32) (p0_place : Int32) (p3_size : Int32) (p3_items : Nat → Int32), bf_X8_readAll_0 F p1_size n_p1_words p1_words n_p2_below p2_below n_p3_items p0_at p0_place p3_size p3_items = some r → X_ p l e ({ frames := 2, cells := 0, slots := 0, locals := 48 } : Room) s m args below meth c Q D vwCl A 7 0 0 (W_X8_X0_X10_X9 cI cZ h_p0 h_p1 h_p1_words h_p2 h_p2_lengths h_p2_codes h_p2_below h_p3 h_p3_items p0_at p0_place p1_room p1_size p1_over n_p1_words p1_words p2_symbols p2_most p2_nodes p2_inOrder p2_loaded p2_full n_p2_lengths p2_lengths n_p2_codes p2_codes n_p2_below p2_below p3_size n_p3_items p3_items) [(0, .ref h_p0), (1, .ref h_p1), (2, .ref h_p2), (3, .ref h_p3)] 0 [] := by
  intro p0_at p0_place p3_size p3_items h
  unfold bf_X8_readAll_0 at h
  refine x_aload_n S dX8_readAll_0 rfl 0 rfl ?_
  refine x_iconst (v := 0) S dX8_readAll_1 (by decide) ?_
  refine x_put (ty := .int) S hK i_X8_readAll_X8 tyX8 tyX8_ok nmX8 0 rfl rfl 0 (by decide) k_X8_readAll_15 rfl rfl (by decide +kernel) rfl rfl (Nat.le_of_ble_eq_true rfl) dX8_readAll_2 rfl ?_
  refine x_aload_n S dX8_readAll_5 rfl 3 rfl ?_
  refine x_iconst (v := 0) S dX8_readAll_6 (by decide) ?_
  refine x_putN (ty := .int) S hK i_X8_readAll_X9 tyX9 tyX9_ok nmX9 7 rfl rfl 1 (by decide) nf_X8_18 rfl rfl (by decide +kernel) rfl rfl (Nat.le_of_ble_eq_true rfl) dX8_readAll_7 rfl ?_
  refine x_iconst (v := 0) S dX8_readAll_10 (by decide) ?_
  refine x_istore (lv' := [(4, .int (0 : Int32)), (0, .ref h_p0), (1, .ref h_p1), (2, .ref h_p2), (3, .ref h_p3)]) S dX8_readAll_11 (by decide) rfl ?_
  refine x_lv [1, 2, 3, 4, 0] (by rfl) ?_
  exact wl_X8_readAll_13 S hK hA hend hWp  F (0 : Int32) (0 : Int32) p0_place (0 : Int32) p3_items h
noncomputable def fn_X8_readAll (F : Nat) (p1_size : Int32) (n_p1_words : Nat) (p1_words : Nat → Int32) (n_p2_below : Nat) (p2_below : Nat → Int32) (n_p3_items : Nat) (p0_at : Int32) (p0_place : Int32) (p3_size : Int32) (p3_items : Nat → Int32)  : Option (Int32 × Int32 × Int32 × Int32 × (Nat → Int32)) :=
  bf_X8_readAll_0 F p1_size n_p1_words p1_words n_p2_below p2_below n_p3_items p0_at p0_place p3_size p3_items
set_option maxRecDepth 100000 in
set_option maxHeartbeats 4000000 in
theorem c_X8_readAll (l : Launch) (D : va_G) (cI cZ : ClassId) (F : Nat) (h_p0 h_p1 h_p1_words h_p2 h_p2_lengths h_p2_codes h_p2_below h_p3 h_p3_items : Nat) (p0_at : Int32) (p0_place : Int32) (p1_room : Int32) (p1_size : Int32) (p1_over : Int32) (n_p1_words : Nat) (p1_words : Nat → Int32) (p2_symbols : Int32) (p2_most : Int32) (p2_nodes : Int32) (p2_inOrder : Int32) (p2_loaded : Int32) (p2_full : Int32) (n_p2_lengths : Nat) (p2_lengths : Nat → Int32) (n_p2_codes : Nat) (p2_codes : Nat → Int32) (n_p2_below : Nat) (p2_below : Nat → Int32) (p3_size : Int32) (n_p3_items : Nat) (p3_items : Nat → Int32)  (r : Int32 × Int32 × Int32 × Int32 × (Nat → Int32)) (h : fn_X8_readAll F p1_size n_p1_words p1_words n_p2_below p2_below n_p3_items p0_at p0_place p3_size p3_items = some r) : Ci l yX8_readAll wsX8_readAll ({ frames := 2, cells := 0, slots := 0, locals := 48 } : Room) D vwCl [(cI, .int), (cZ, .boolean)] [.ref h_p0, .ref h_p1, .ref h_p2, .ref h_p3] (W_X8_X0_X10_X9 cI cZ h_p0 h_p1 h_p1_words h_p2 h_p2_lengths h_p2_codes h_p2_below h_p3 h_p3_items p0_at p0_place p1_room p1_size p1_over n_p1_words p1_words p2_symbols p2_most p2_nodes p2_inOrder p2_loaded p2_full n_p2_lengths p2_lengths n_p2_codes p2_codes n_p2_below p2_below p3_size n_p3_items p3_items) r.1 (fun w => w = (W_X8_X0_X10_X9 cI cZ h_p0 h_p1 h_p1_words h_p2 h_p2_lengths h_p2_codes h_p2_below h_p3 h_p3_items r.2.1 r.2.2.1 p1_room p1_size p1_over n_p1_words p1_words p2_symbols p2_most p2_nodes p2_inOrder p2_loaded p2_full n_p2_lengths p2_lengths n_p2_codes p2_codes n_p2_below p2_below r.2.2.2.1 n_p3_items r.2.2.2.2)) 0 0 :=
  Ci.ofi (by decide) rfl (Nat.le_of_ble_eq_true rfl) (fun p e s m args below meth c Q A S hK hA hname hend => w_X8_readAll_0 S hK hA hend rfl p0_at p0_place p3_size p3_items h)
end

/-! ===== PrefixSmith$Reader.readLengths(LPrefixSmith$BitRow;LPrefixSmith$Table;)I ===== -/
theorem i_X8_readLengths_X10 : ∀ w ∈ u_ws RX10 TX10 9, w ∈ wsX8_readLengths := by decide +kernel
theorem i_X8_readLengths_X8 : ∀ w ∈ u_ws RX8 TX8 2, w ∈ wsX8_readLengths := by decide +kernel
theorem k_X8_readLengths_15 : Cond.fieldLink RX8 15 "PrefixSmith$Reader" "at" "I" ∈ wsX8_readLengths := by decide +kernel
section
variable {p : Program} {l : Launch} {e : Env} {s : State} {m : MethodId} {args : Array Value} {below : List Frame} {meth : Method} {c : Code} {Q : State → Prop} {D : va_G} {A : Nat → Prop} {cI cZ : ClassId}
noncomputable def bf_X8_readLengths_10 (F : Nat) (p1_size : Int32) (n_p1_words : Nat) (p1_words : Nat → Int32) (p2_symbols : Int32) (p2_most : Int32) (n_p2_lengths : Nat) (rec10 : Int32 → Int32 → Int32 → (Nat → Int32) → Option (Int32 × Int32 × Int32 × (Nat → Int32))) (x3 : Int32) (p0_at : Int32) (p0_place : Int32) (p2_lengths : Nat → Int32) : Option (Int32 × Int32 × Int32 × (Nat → Int32)) :=
  (if p2_symbols ≤ x3 then some ((0 : Int32), p0_at, p0_place, p2_lengths) else ((fn_X8_readNumber F p1_size n_p1_words p1_words p0_at p0_place (5 : Int32)).bind fun v27 => (if 0 ≤ v27.1 then (if v27.1 = (31 : Int32) then ((fn_X8_readNumber F p1_size n_p1_words p1_words v27.2.1 v27.2.2 (6 : Int32)).bind fun v51 => (if 0 ≤ v51.1 then (if (x3 + (v51.1 + (3 : Int32))) ≤ p2_symbols then rec10 (x3 + (v51.1 + (3 : Int32))) v51.2.1 v51.2.2 p2_lengths else ((fn_X8_fail F v51.2.2 (-7 : Int32) p0_at).bind fun v84 => some (v84.1, v51.2.1, v84.2, p2_lengths))) else some (v51.1, v51.2.1, v51.2.2, p2_lengths))) else (if v27.1 ≤ p2_most then (if x3 < 0 ∨ n_p2_lengths ≤ (x3).toNatClampNeg then none else rec10 (x3 + (1 : Int32)) v27.2.1 v27.2.2 (upd p2_lengths (x3).toNatClampNeg v27.1)) else ((fn_X8_fail F v27.2.2 (-6 : Int32) p0_at).bind fun v105 => some (v105.1, v27.2.1, v105.2, p2_lengths)))) else some (v27.1, v27.2.1, v27.2.2, p2_lengths))))
set_option maxRecDepth 100000 in
set_option maxHeartbeats 4000000 in
theorem w_X8_readLengths_10 (S : CallFix p m c cX8_readLengths 7 s args wsX8_readLengths RX8) (hK : K_ D vwCl [(cI, .int), (cZ, .boolean)] s) (hA : ∀ q, s.heap.size ≤ q → A q) {F : Nat} {p1_room : Int32} {p1_size : Int32} {p1_over : Int32} {n_p1_words : Nat} {p1_words : Nat → Int32} {p2_symbols : Int32} {p2_most : Int32} {p2_nodes : Int32} {p2_inOrder : Int32} {p2_loaded : Int32} {p2_full : Int32} {n_p2_lengths : Nat} {n_p2_codes : Nat} {p2_codes : Nat → Int32} {n_p2_below : Nat} {p2_below : Nat → Int32} {h_p0 h_p1 h_p2 h_p1_words h_p2_lengths h_p2_codes h_p2_below : Nat} {r : Int32 × Int32 × Int32 × (Nat → Int32)} {Wp : va_W → Prop} (hend : ∀ (w1 : va_W) (pc : Nat) (lv : List (Nat × Value)), Wp w1 → decode cX8_readLengths pc = .ok (.ireturn, 1) → X_ p l e ({ frames := 2, cells := 0, slots := 0, locals := 46 } : Room) s m args below meth c Q D vwCl A 7 0 0 w1 lv pc [.int r.1]) (hWp : Wp (W_X8_X0_X10 cI cZ h_p0 h_p1 h_p1_words h_p2 h_p2_lengths h_p2_codes h_p2_below r.2.1 r.2.2.1 p1_room p1_size p1_over n_p1_words p1_words p2_symbols p2_most p2_nodes p2_inOrder p2_loaded p2_full n_p2_lengths r.2.2.2 n_p2_codes p2_codes n_p2_below p2_below)) {rec10 : Int32 → Int32 → Int32 → (Nat → Int32) → Option (Int32 × Int32 × Int32 × (Nat → Int32))} (hrec10 : ∀ (x3 : Int32) (p0_at : Int32) (p0_place : Int32) (p2_lengths : Nat → Int32), rec10 x3 p0_at p0_place p2_lengths = some r → X_ p l e ({ frames := 2, cells := 0, slots := 0, locals := 46 } : Room) s m args below meth c Q D vwCl A 7 0 0 (W_X8_X0_X10 cI cZ h_p0 h_p1 h_p1_words h_p2 h_p2_lengths h_p2_codes h_p2_below p0_at p0_place p1_room p1_size p1_over n_p1_words p1_words p2_symbols p2_most p2_nodes p2_inOrder p2_loaded p2_full n_p2_lengths p2_lengths n_p2_codes p2_codes n_p2_below p2_below) [(0, .ref h_p0), (1, .ref h_p1), (2, .ref h_p2), (3, .int x3)] 10 []) : ∀ (x3 : Int32) (p0_at : Int32) (p0_place : Int32) (p2_lengths : Nat → Int32), bf_X8_readLengths_10 F p1_size n_p1_words p1_words p2_symbols p2_most n_p2_lengths rec10 x3 p0_at p0_place p2_lengths = some r → X_ p l e ({ frames := 2, cells := 0, slots := 0, locals := 46 } : Room) s m args below meth c Q D vwCl A 7 0 0 (W_X8_X0_X10 cI cZ h_p0 h_p1 h_p1_words h_p2 h_p2_lengths h_p2_codes h_p2_below p0_at p0_place p1_room p1_size p1_over n_p1_words p1_words p2_symbols p2_most p2_nodes p2_inOrder p2_loaded p2_full n_p2_lengths p2_lengths n_p2_codes p2_codes n_p2_below p2_below) [(0, .ref h_p0), (1, .ref h_p1), (2, .ref h_p2), (3, .int x3)] 10 [] := by
  intro x3 p0_at p0_place p2_lengths h
  unfold bf_X8_readLengths_10 at h
  refine x_iload_n S dX8_readLengths_10 rfl 3 rfl ?_
  refine x_aload_n S dX8_readLengths_11 rfl 2 rfl ?_
  refine x_getN S hK i_X8_readLengths_X10 3 rfl rfl 0 (by decide) nf_X8_57 rfl rfl dX8_readLengths_12 ?_
  refine x_icmp_ge S 123 dX8_readLengths_15 (by decide) h (fun h => ?_) (fun h => ?_)
  · refine x_iconst (v := 0) S dX8_readLengths_123 (by decide) ?_
    obtain rfl := Option.some.inj h
    exact hend _ _ _ hWp dX8_readLengths_124
  · refine x_aload_n S dX8_readLengths_18 rfl 0 rfl ?_
    refine x_get S hK i_X8_readLengths_X8 0 rfl rfl 0 (by decide) k_X8_readLengths_15 rfl rfl dX8_readLengths_19 ?_
    refine x_istore (lv' := [(4, .int p0_at), (0, .ref h_p0), (1, .ref h_p1), (2, .ref h_p2), (3, .int x3)]) S dX8_readLengths_22 (by decide) rfl ?_
    refine x_aload_n S dX8_readLengths_24 rfl 1 rfl ?_
    refine x_aload_n S dX8_readLengths_25 rfl 2 rfl ?_
    refine x_iconst (v := 5) S dX8_readLengths_26 (by decide) ?_
    obtain ⟨v27, h27, h⟩ := gbind h
    refine x_callVi S hK hA (c_X8_readNumber l D cI cZ F h_p0 h_p1 h_p1_words p0_at p0_place p1_room p1_size p1_over n_p1_words p1_words (5 : Int32) v27 h27) (cwV 2 S.2.2.2.2 gX8_readLengths_X8_readNumber rfl rfl rfl (by decide +kernel) ⟨(Nat.le_of_ble_eq_true rfl), (Nat.le_of_ble_eq_true rfl)⟩) [0, 1, 2] [3, 4, 5, 6] rfl (by decide) rfl (by decide) (by decide) 0 7 rfl rfl rfl (Nat.le_of_ble_eq_true rfl) rfl dX8_readLengths_27 ⟨(Nat.le_of_ble_eq_true rfl), (Nat.le_of_ble_eq_true rfl)⟩ (fun w1 hw1 => ?_)
    subst hw1
    refine x_ws (ws' := (W_X8_X0_X10 cI cZ h_p0 h_p1 h_p1_words h_p2 h_p2_lengths h_p2_codes h_p2_below v27.2.1 v27.2.2 p1_room p1_size p1_over n_p1_words p1_words p2_symbols p2_most p2_nodes p2_inOrder p2_loaded p2_full n_p2_lengths p2_lengths n_p2_codes p2_codes n_p2_below p2_below)) [4, 5, 6, 0, 1, 2, 3] (by decide) (by rfl) ?_
    refine x_istore (lv' := [(5, .int v27.1), (4, .int p0_at), (0, .ref h_p0), (1, .ref h_p1), (2, .ref h_p2), (3, .int x3)]) S dX8_readLengths_30 (by decide) rfl ?_
    refine x_iload S dX8_readLengths_32 0 rfl ?_
    refine x_if_ge S 40 dX8_readLengths_34 (by decide) h (fun h => ?_) (fun h => ?_)
    · refine x_iload S dX8_readLengths_40 0 rfl ?_
      refine x_bipush (v := 31) S dX8_readLengths_42 (by decide) ?_
      refine x_icmp_ne S 91 dX8_readLengths_44 (by decide) h (fun h => ?_) (fun h => ?_)
      · refine x_iload S dX8_readLengths_91 0 rfl ?_
        refine x_aload_n S dX8_readLengths_93 rfl 4 rfl ?_
        refine x_getN S hK i_X8_readLengths_X10 3 rfl rfl 1 (by decide) nf_X8_81 rfl rfl dX8_readLengths_94 ?_
        refine x_icmp_le S 109 dX8_readLengths_97 (by decide) h (fun h => ?_) (fun h => ?_)
        · refine x_aload_n S dX8_readLengths_109 rfl 4 rfl ?_
          refine x_getN S hK i_X8_readLengths_X10 3 rfl rfl 2 (by decide) nf_X8_71 rfl rfl dX8_readLengths_110 ?_
          refine x_iload_n S dX8_readLengths_113 rfl 5 rfl ?_
          refine x_iload S dX8_readLengths_114 0 rfl ?_
          refine x_iast S hK 4 0 rfl rfl dX8_readLengths_116 h rfl (fun h => ?_)
          refine x_iinc (v := x3 + (1 : Int32)) (lv' := [(3, .int (x3 + (1 : Int32))), (5, .int v27.1), (4, .int p0_at), (0, .ref h_p0), (1, .ref h_p1), (2, .ref h_p2)]) S dX8_readLengths_117 5 rfl rfl (by decide) rfl ?_
          refine x_goto S 10 dX8_readLengths_120 (by decide) ?_
          refine x_lv [3, 4, 5, 0] (by rfl) ?_
          exact hrec10 (x3 + (1 : Int32)) v27.2.1 v27.2.2 (upd p2_lengths (x3).toNatClampNeg v27.1) h
        · refine x_aload_n S dX8_readLengths_100 rfl 2 rfl ?_
          refine x_bipush (v := -6) S dX8_readLengths_101 (by decide) ?_
          refine x_iload S dX8_readLengths_103 1 rfl ?_
          obtain ⟨v105, h105, h⟩ := gbind h
          refine x_callVi S hK hA (c_X8_fail l D cI cZ F h_p0 v27.2.1 v27.2.2 (-6 : Int32) p0_at v105 h105) (cwV 2 S.2.2.2.2 gX8_readLengths_X8_fail rfl rfl rfl (by decide +kernel) ⟨(Nat.le_of_ble_eq_true rfl), (Nat.le_of_ble_eq_true rfl)⟩) [0] [1, 2, 3, 4, 5, 6] rfl (by decide) rfl (by decide) (by decide) 0 7 rfl rfl rfl (Nat.le_of_ble_eq_true rfl) rfl dX8_readLengths_105 ⟨(Nat.le_of_ble_eq_true rfl), (Nat.le_of_ble_eq_true rfl)⟩ (fun w1 hw1 => ?_)
          subst hw1
          refine x_ws (ws' := (W_X8_X0_X10 cI cZ h_p0 h_p1 h_p1_words h_p2 h_p2_lengths h_p2_codes h_p2_below v27.2.1 v105.2 p1_room p1_size p1_over n_p1_words p1_words p2_symbols p2_most p2_nodes p2_inOrder p2_loaded p2_full n_p2_lengths p2_lengths n_p2_codes p2_codes n_p2_below p2_below)) [6, 0, 1, 2, 3, 4, 5] (by decide) (by rfl) ?_
          obtain rfl := Option.some.inj h
          exact hend _ _ _ hWp dX8_readLengths_108
      · refine x_aload_n S dX8_readLengths_47 rfl 2 rfl ?_
        refine x_aload_n S dX8_readLengths_48 rfl 3 rfl ?_
        refine x_bipush (v := 6) S dX8_readLengths_49 (by decide) ?_
        obtain ⟨v51, h51, h⟩ := gbind h
        refine x_callVi S hK hA (c_X8_readNumber l D cI cZ F h_p0 h_p1 h_p1_words v27.2.1 v27.2.2 p1_room p1_size p1_over n_p1_words p1_words (6 : Int32) v51 h51) (cwV 2 S.2.2.2.2 gX8_readLengths_X8_readNumber rfl rfl rfl (by decide +kernel) ⟨(Nat.le_of_ble_eq_true rfl), (Nat.le_of_ble_eq_true rfl)⟩) [0, 1, 2] [3, 4, 5, 6] rfl (by decide) rfl (by decide) (by decide) 0 7 rfl rfl rfl (Nat.le_of_ble_eq_true rfl) rfl dX8_readLengths_51 ⟨(Nat.le_of_ble_eq_true rfl), (Nat.le_of_ble_eq_true rfl)⟩ (fun w1 hw1 => ?_)
        subst hw1
        refine x_ws (ws' := (W_X8_X0_X10 cI cZ h_p0 h_p1 h_p1_words h_p2 h_p2_lengths h_p2_codes h_p2_below v51.2.1 v51.2.2 p1_room p1_size p1_over n_p1_words p1_words p2_symbols p2_most p2_nodes p2_inOrder p2_loaded p2_full n_p2_lengths p2_lengths n_p2_codes p2_codes n_p2_below p2_below)) [4, 5, 6, 0, 1, 2, 3] (by decide) (by rfl) ?_
        refine x_istore (lv' := [(6, .int v51.1), (5, .int v27.1), (4, .int p0_at), (0, .ref h_p0), (1, .ref h_p1), (2, .ref h_p2), (3, .int x3)]) S dX8_readLengths_54 (by decide) rfl ?_
        refine x_iload S dX8_readLengths_56 0 rfl ?_
        refine x_if_ge S 64 dX8_readLengths_58 (by decide) h (fun h => ?_) (fun h => ?_)
        · refine x_iload_n S dX8_readLengths_64 rfl 6 rfl ?_
          refine x_iload S dX8_readLengths_65 0 rfl ?_
          refine x_iconst (v := 3) S dX8_readLengths_67 (by decide) ?_
          refine x_iadd S dX8_readLengths_68 ?_
          refine x_iadd S dX8_readLengths_69 ?_
          refine x_istore_n (lv' := [(3, .int (x3 + (v51.1 + (3 : Int32)))), (6, .int v51.1), (5, .int v27.1), (4, .int p0_at), (0, .ref h_p0), (1, .ref h_p1), (2, .ref h_p2)]) S dX8_readLengths_70 rfl (by decide) rfl ?_
          refine x_iload_n S dX8_readLengths_71 rfl 0 rfl ?_
          refine x_aload_n S dX8_readLengths_72 rfl 6 rfl ?_
          refine x_getN S hK i_X8_readLengths_X10 3 rfl rfl 0 (by decide) nf_X8_57 rfl rfl dX8_readLengths_73 ?_
          refine x_icmp_le S 88 dX8_readLengths_76 (by decide) h (fun h => ?_) (fun h => ?_)
          · refine x_goto S 120 dX8_readLengths_88 (by decide) ?_
            refine x_goto S 10 dX8_readLengths_120 (by decide) ?_
            refine x_lv [4, 5, 6, 0] (by rfl) ?_
            exact hrec10 (x3 + (v51.1 + (3 : Int32))) v51.2.1 v51.2.2 p2_lengths h
          · refine x_aload_n S dX8_readLengths_79 rfl 4 rfl ?_
            refine x_bipush (v := -7) S dX8_readLengths_80 (by decide) ?_
            refine x_iload S dX8_readLengths_82 3 rfl ?_
            obtain ⟨v84, h84, h⟩ := gbind h
            refine x_callVi S hK hA (c_X8_fail l D cI cZ F h_p0 v51.2.1 v51.2.2 (-7 : Int32) p0_at v84 h84) (cwV 2 S.2.2.2.2 gX8_readLengths_X8_fail rfl rfl rfl (by decide +kernel) ⟨(Nat.le_of_ble_eq_true rfl), (Nat.le_of_ble_eq_true rfl)⟩) [0] [1, 2, 3, 4, 5, 6] rfl (by decide) rfl (by decide) (by decide) 0 7 rfl rfl rfl (Nat.le_of_ble_eq_true rfl) rfl dX8_readLengths_84 ⟨(Nat.le_of_ble_eq_true rfl), (Nat.le_of_ble_eq_true rfl)⟩ (fun w1 hw1 => ?_)
            subst hw1
            refine x_ws (ws' := (W_X8_X0_X10 cI cZ h_p0 h_p1 h_p1_words h_p2 h_p2_lengths h_p2_codes h_p2_below v51.2.1 v84.2 p1_room p1_size p1_over n_p1_words p1_words p2_symbols p2_most p2_nodes p2_inOrder p2_loaded p2_full n_p2_lengths p2_lengths n_p2_codes p2_codes n_p2_below p2_below)) [6, 0, 1, 2, 3, 4, 5] (by decide) (by rfl) ?_
            obtain rfl := Option.some.inj h
            exact hend _ _ _ hWp dX8_readLengths_87
        · refine x_iload S dX8_readLengths_61 0 rfl ?_
          obtain rfl := Option.some.inj h
          exact hend _ _ _ hWp dX8_readLengths_63
    · refine x_iload S dX8_readLengths_37 0 rfl ?_
      obtain rfl := Option.some.inj h
      exact hend _ _ _ hWp dX8_readLengths_39
noncomputable def lf_X8_readLengths_10 (F : Nat) (p1_size : Int32) (n_p1_words : Nat) (p1_words : Nat → Int32) (p2_symbols : Int32) (p2_most : Int32) (n_p2_lengths : Nat)  (k : Nat) (x3 : Int32) (p0_at : Int32) (p0_place : Int32) (p2_lengths : Nat → Int32) : Option (Int32 × Int32 × Int32 × (Nat → Int32)) :=
  lp (fun (rec : Int32 × Int32 × Int32 × (Nat → Int32) → Option (Int32 × Int32 × Int32 × (Nat → Int32))) (z : Int32 × Int32 × Int32 × (Nat → Int32)) => bf_X8_readLengths_10 F p1_size n_p1_words p1_words p2_symbols p2_most n_p2_lengths (fun x3 p0_at p0_place p2_lengths => rec (x3, p0_at, p0_place, p2_lengths)) z.1 z.2.1 z.2.2.1 z.2.2.2) k (x3, p0_at, p0_place, p2_lengths)
set_option maxRecDepth 100000 in
set_option maxHeartbeats 4000000 in
theorem wl_X8_readLengths_10 (S : CallFix p m c cX8_readLengths 7 s args wsX8_readLengths RX8) (hK : K_ D vwCl [(cI, .int), (cZ, .boolean)] s) (hA : ∀ q, s.heap.size ≤ q → A q) {F : Nat} {p1_room : Int32} {p1_size : Int32} {p1_over : Int32} {n_p1_words : Nat} {p1_words : Nat → Int32} {p2_symbols : Int32} {p2_most : Int32} {p2_nodes : Int32} {p2_inOrder : Int32} {p2_loaded : Int32} {p2_full : Int32} {n_p2_lengths : Nat} {n_p2_codes : Nat} {p2_codes : Nat → Int32} {n_p2_below : Nat} {p2_below : Nat → Int32} {h_p0 h_p1 h_p2 h_p1_words h_p2_lengths h_p2_codes h_p2_below : Nat} {r : Int32 × Int32 × Int32 × (Nat → Int32)} {Wp : va_W → Prop} (hend : ∀ (w1 : va_W) (pc : Nat) (lv : List (Nat × Value)), Wp w1 → decode cX8_readLengths pc = .ok (.ireturn, 1) → X_ p l e ({ frames := 2, cells := 0, slots := 0, locals := 46 } : Room) s m args below meth c Q D vwCl A 7 0 0 w1 lv pc [.int r.1]) (hWp : Wp (W_X8_X0_X10 cI cZ h_p0 h_p1 h_p1_words h_p2 h_p2_lengths h_p2_codes h_p2_below r.2.1 r.2.2.1 p1_room p1_size p1_over n_p1_words p1_words p2_symbols p2_most p2_nodes p2_inOrder p2_loaded p2_full n_p2_lengths r.2.2.2 n_p2_codes p2_codes n_p2_below p2_below))   (k : Nat) : ∀ (x3 : Int32) (p0_at : Int32) (p0_place : Int32) (p2_lengths : Nat → Int32), lf_X8_readLengths_10 F p1_size n_p1_words p1_words p2_symbols p2_most n_p2_lengths k x3 p0_at p0_place p2_lengths = some r → X_ p l e ({ frames := 2, cells := 0, slots := 0, locals := 46 } : Room) s m args below meth c Q D vwCl A 7 0 0 (W_X8_X0_X10 cI cZ h_p0 h_p1 h_p1_words h_p2 h_p2_lengths h_p2_codes h_p2_below p0_at p0_place p1_room p1_size p1_over n_p1_words p1_words p2_symbols p2_most p2_nodes p2_inOrder p2_loaded p2_full n_p2_lengths p2_lengths n_p2_codes p2_codes n_p2_below p2_below) [(0, .ref h_p0), (1, .ref h_p1), (2, .ref h_p2), (3, .int x3)] 10 [] := by
  intro x3 p0_at p0_place p2_lengths h
  exact lp_W (P := fun z => X_ p l e ({ frames := 2, cells := 0, slots := 0, locals := 46 } : Room) s m args below meth c Q D vwCl A 7 0 0 (W_X8_X0_X10 cI cZ h_p0 h_p1 h_p1_words h_p2 h_p2_lengths h_p2_codes h_p2_below z.2.1 z.2.2.1 p1_room p1_size p1_over n_p1_words p1_words p2_symbols p2_most p2_nodes p2_inOrder p2_loaded p2_full n_p2_lengths z.2.2.2 n_p2_codes p2_codes n_p2_below p2_below) [(0, .ref h_p0), (1, .ref h_p1), (2, .ref h_p2), (3, .int z.1)] 10 []) (fun rec ih z hz => w_X8_readLengths_10 S hK hA hend hWp (fun x3 p0_at p0_place p2_lengths hh => ih (x3, p0_at, p0_place, p2_lengths) hh)  z.1 z.2.1 z.2.2.1 z.2.2.2 hz) k (x3, p0_at, p0_place, p2_lengths) h 
noncomputable def bf_X8_readLengths_0 (F : Nat) (p1_size : Int32) (n_p1_words : Nat) (p1_words : Nat → Int32) (p2_symbols : Int32) (p2_most : Int32) (n_p2_lengths : Nat)  (p0_at : Int32) (p0_place : Int32) (p2_lengths : Nat → Int32) : Option (Int32 × Int32 × Int32 × (Nat → Int32)) :=
  ((fn_J7_fill_53178 F n_p2_lengths p2_lengths (0 : Int32)).bind fun v5 => lf_X8_readLengths_10 F p1_size n_p1_words p1_words p2_symbols p2_most n_p2_lengths F (0 : Int32) p0_at p0_place v5)
set_option maxRecDepth 100000 in
set_option maxHeartbeats 4000000 in
theorem w_X8_readLengths_0 (S : CallFix p m c cX8_readLengths 7 s args wsX8_readLengths RX8) (hK : K_ D vwCl [(cI, .int), (cZ, .boolean)] s) (hA : ∀ q, s.heap.size ≤ q → A q) {F : Nat} {p1_room : Int32} {p1_size : Int32} {p1_over : Int32} {n_p1_words : Nat} {p1_words : Nat → Int32} {p2_symbols : Int32} {p2_most : Int32} {p2_nodes : Int32} {p2_inOrder : Int32} {p2_loaded : Int32} {p2_full : Int32} {n_p2_lengths : Nat} {n_p2_codes : Nat} {p2_codes : Nat → Int32} {n_p2_below : Nat} {p2_below : Nat → Int32} {h_p0 h_p1 h_p2 h_p1_words h_p2_lengths h_p2_codes h_p2_below : Nat} {r : Int32 × Int32 × Int32 × (Nat → Int32)} {Wp : va_W → Prop} (hend : ∀ (w1 : va_W) (pc : Nat) (lv : List (Nat × Value)), Wp w1 → decode cX8_readLengths pc = .ok (.ireturn, 1) → X_ p l e ({ frames := 2, cells := 0, slots := 0, locals := 46 } : Room) s m args below meth c Q D vwCl A 7 0 0 w1 lv pc [.int r.1]) (hWp : Wp (W_X8_X0_X10 cI cZ h_p0 h_p1 h_p1_words h_p2 h_p2_lengths h_p2_codes h_p2_below r.2.1 r.2.2.1 p1_room p1_size p1_over n_p1_words p1_words p2_symbols p2_most p2_nodes p2_inOrder p2_loaded p2_full n_p2_lengths r.2.2.2 n_p2_codes p2_codes n_p2_below p2_below))   : ∀ (p0_at : Int32) (p0_place : Int32) (p2_lengths : Nat → Int32), bf_X8_readLengths_0 F p1_size n_p1_words p1_words p2_symbols p2_most n_p2_lengths p0_at p0_place p2_lengths = some r → X_ p l e ({ frames := 2, cells := 0, slots := 0, locals := 46 } : Room) s m args below meth c Q D vwCl A 7 0 0 (W_X8_X0_X10 cI cZ h_p0 h_p1 h_p1_words h_p2 h_p2_lengths h_p2_codes h_p2_below p0_at p0_place p1_room p1_size p1_over n_p1_words p1_words p2_symbols p2_most p2_nodes p2_inOrder p2_loaded p2_full n_p2_lengths p2_lengths n_p2_codes p2_codes n_p2_below p2_below) [(0, .ref h_p0), (1, .ref h_p1), (2, .ref h_p2)] 0 [] := by
  intro p0_at p0_place p2_lengths h
  unfold bf_X8_readLengths_0 at h
  refine x_aload_n S dX8_readLengths_0 rfl 2 rfl ?_
  refine x_getN S hK i_X8_readLengths_X10 3 rfl rfl 2 (by decide) nf_X8_71 rfl rfl dX8_readLengths_1 ?_
  refine x_iconst (v := 0) S dX8_readLengths_4 (by decide) ?_
  obtain ⟨v5, h5, h⟩ := gbind h
  refine x_callSv S hK hA (c_J7_fill_53178 l D cI cZ F h_p2_lengths n_p2_lengths p2_lengths (0 : Int32) v5 h5) (va_cwS 2 S.2.2.2.2 gX8_readLengths_J7_fill_53178 rfl rfl rfl (by decide +kernel) ⟨(Nat.le_of_ble_eq_true rfl), (Nat.le_of_ble_eq_true rfl)⟩) [4] [0, 1, 2, 3, 5, 6] rfl (by decide) rfl (by decide) (by decide) rfl (Nat.le_of_ble_eq_true rfl) rfl dX8_readLengths_5 ⟨(Nat.le_of_ble_eq_true rfl), (Nat.le_of_ble_eq_true rfl)⟩ (fun w1 hw1 => ?_)
  subst hw1
  refine x_ws (ws' := (W_X8_X0_X10 cI cZ h_p0 h_p1 h_p1_words h_p2 h_p2_lengths h_p2_codes h_p2_below p0_at p0_place p1_room p1_size p1_over n_p1_words p1_words p2_symbols p2_most p2_nodes p2_inOrder p2_loaded p2_full n_p2_lengths v5 n_p2_codes p2_codes n_p2_below p2_below)) [0, 1, 2, 3, 6, 4, 5] (by decide) (by rfl) ?_
  refine x_iconst (v := 0) S dX8_readLengths_8 (by decide) ?_
  refine x_istore_n (lv' := [(3, .int (0 : Int32)), (0, .ref h_p0), (1, .ref h_p1), (2, .ref h_p2)]) S dX8_readLengths_9 rfl (by decide) rfl ?_
  refine x_lv [1, 2, 3, 0] (by rfl) ?_
  exact wl_X8_readLengths_10 S hK hA hend hWp  F (0 : Int32) p0_at p0_place v5 h
noncomputable def fn_X8_readLengths (F : Nat) (p1_size : Int32) (n_p1_words : Nat) (p1_words : Nat → Int32) (p2_symbols : Int32) (p2_most : Int32) (n_p2_lengths : Nat) (p0_at : Int32) (p0_place : Int32) (p2_lengths : Nat → Int32)  : Option (Int32 × Int32 × Int32 × (Nat → Int32)) :=
  bf_X8_readLengths_0 F p1_size n_p1_words p1_words p2_symbols p2_most n_p2_lengths p0_at p0_place p2_lengths
set_option maxRecDepth 100000 in
set_option maxHeartbeats 4000000 in
theorem c_X8_readLengths (l : Launch) (D : va_G) (cI cZ : ClassId) (F : Nat) (h_p0 h_p1 h_p1_words h_p2 h_p2_lengths h_p2_codes h_p2_below : Nat) (p0_at : Int32) (p0_place : Int32) (p1_room : Int32) (p1_size : Int32) (p1_over : Int32) (n_p1_words : Nat) (p1_words : Nat → Int32) (p2_symbols : Int32) (p2_most : Int32) (p2_nodes : Int32) (p2_inOrder : Int32) (p2_loaded : Int32) (p2_full : Int32) (n_p2_lengths : Nat) (p2_lengths : Nat → Int32) (n_p2_codes : Nat) (p2_codes : Nat → Int32) (n_p2_below : Nat) (p2_below : Nat → Int32)  (r : Int32 × Int32 × Int32 × (Nat → Int32)) (h : fn_X8_readLengths F p1_size n_p1_words p1_words p2_symbols p2_most n_p2_lengths p0_at p0_place p2_lengths = some r) : Ci l yX8_readLengths wsX8_readLengths ({ frames := 2, cells := 0, slots := 0, locals := 46 } : Room) D vwCl [(cI, .int), (cZ, .boolean)] [.ref h_p0, .ref h_p1, .ref h_p2] (W_X8_X0_X10 cI cZ h_p0 h_p1 h_p1_words h_p2 h_p2_lengths h_p2_codes h_p2_below p0_at p0_place p1_room p1_size p1_over n_p1_words p1_words p2_symbols p2_most p2_nodes p2_inOrder p2_loaded p2_full n_p2_lengths p2_lengths n_p2_codes p2_codes n_p2_below p2_below) r.1 (fun w => w = (W_X8_X0_X10 cI cZ h_p0 h_p1 h_p1_words h_p2 h_p2_lengths h_p2_codes h_p2_below r.2.1 r.2.2.1 p1_room p1_size p1_over n_p1_words p1_words p2_symbols p2_most p2_nodes p2_inOrder p2_loaded p2_full n_p2_lengths r.2.2.2 n_p2_codes p2_codes n_p2_below p2_below)) 0 0 :=
  Ci.ofi (by decide) rfl (Nat.le_of_ble_eq_true rfl) (fun p e s m args below meth c Q A S hK hA hname hend => w_X8_readLengths_0 S hK hA hend rfl p0_at p0_place p2_lengths h)
end

/-! ===== PrefixSmith$Reader.readTable(LPrefixSmith$BitRow;LPrefixSmith$Table;)I ===== -/
theorem i_X8_readTable_X10 : ∀ w ∈ u_ws RX10 TX10 9, w ∈ wsX8_readTable := by decide +kernel
theorem i_X8_readTable_X8 : ∀ w ∈ u_ws RX8 TX8 2, w ∈ wsX8_readTable := by decide +kernel
theorem k_X8_readTable_15 : Cond.fieldLink RX8 15 "PrefixSmith$Reader" "at" "I" ∈ wsX8_readTable := by decide +kernel
section
variable {p : Program} {l : Launch} {e : Env} {s : State} {m : MethodId} {args : Array Value} {below : List Frame} {meth : Method} {c : Code} {Q : State → Prop} {D : va_G} {A : Nat → Prop} {cI cZ : ClassId}
noncomputable def bf_X8_readTable_60 (F : Nat) (p1_size : Int32) (n_p1_words : Nat) (p1_words : Nat → Int32) (p2_symbols : Int32) (p2_most : Int32) (n_p2_lengths : Nat)  (s0 : Int32) (p0_at : Int32) (p0_place : Int32) (p2_inOrder : Int32) (p2_lengths : Nat → Int32) : Option (Int32 × Int32 × Int32 × Int32 × (Nat → Int32)) :=
  (if ¬ (s0 = 0 ∨ s0 = 1) then none else ((fn_X8_readLengths F p1_size n_p1_words p1_words p2_symbols p2_most n_p2_lengths p0_at p0_place p2_lengths).bind fun v66 => (if 0 ≤ v66.1 then ((fn_X10_isRight F p2_symbols s0 n_p2_lengths v66.2.2.2).bind fun v80 => (if v80 = 0 then ((fn_X8_fail F v66.2.2.1 (-8 : Int32) v66.2.1).bind fun v97 => some (v97.1, v66.2.1, v97.2, s0, v66.2.2.2)) else some ((0 : Int32), v66.2.1, v66.2.2.1, s0, v66.2.2.2))) else some (v66.1, v66.2.1, v66.2.2.1, s0, v66.2.2.2))))
set_option maxRecDepth 100000 in
set_option maxHeartbeats 4000000 in
theorem w_X8_readTable_60 (S : CallFix p m c cX8_readTable 6 s args wsX8_readTable RX8) (hK : K_ D vwCl [(cI, .int), (cZ, .boolean)] s) (hA : ∀ q, s.heap.size ≤ q → A q) {F : Nat} {p1_room : Int32} {p1_size : Int32} {p1_over : Int32} {n_p1_words : Nat} {p1_words : Nat → Int32} {p2_symbols : Int32} {p2_most : Int32} {p2_nodes : Int32} {p2_loaded : Int32} {p2_full : Int32} {n_p2_lengths : Nat} {n_p2_codes : Nat} {p2_codes : Nat → Int32} {n_p2_below : Nat} {p2_below : Nat → Int32} {h_p0 h_p1 h_p2 h_p1_words h_p2_lengths h_p2_codes h_p2_below : Nat} {r : Int32 × Int32 × Int32 × Int32 × (Nat → Int32)} {Wp : va_W → Prop} (hend : ∀ (w1 : va_W) (pc : Nat) (lv : List (Nat × Value)), Wp w1 → decode cX8_readTable pc = .ok (.ireturn, 1) → X_ p l e ({ frames := 3, cells := 0, slots := 0, locals := 72 } : Room) s m args below meth c Q D vwCl A 6 0 0 w1 lv pc [.int r.1]) (hWp : Wp (W_X8_X0_X10 cI cZ h_p0 h_p1 h_p1_words h_p2 h_p2_lengths h_p2_codes h_p2_below r.2.1 r.2.2.1 p1_room p1_size p1_over n_p1_words p1_words p2_symbols p2_most p2_nodes r.2.2.2.1 p2_loaded p2_full n_p2_lengths r.2.2.2.2 n_p2_codes p2_codes n_p2_below p2_below))   : ∀ (s0 : Int32) (p0_at : Int32) (p0_place : Int32) (p2_inOrder : Int32) (p2_lengths : Nat → Int32), bf_X8_readTable_60 F p1_size n_p1_words p1_words p2_symbols p2_most n_p2_lengths s0 p0_at p0_place p2_inOrder p2_lengths = some r → X_ p l e ({ frames := 3, cells := 0, slots := 0, locals := 72 } : Room) s m args below meth c Q D vwCl A 6 0 0 (W_X8_X0_X10 cI cZ h_p0 h_p1 h_p1_words h_p2 h_p2_lengths h_p2_codes h_p2_below p0_at p0_place p1_room p1_size p1_over n_p1_words p1_words p2_symbols p2_most p2_nodes p2_inOrder p2_loaded p2_full n_p2_lengths p2_lengths n_p2_codes p2_codes n_p2_below p2_below) [(0, .ref h_p0), (1, .ref h_p1), (2, .ref h_p2)] 60 [.int s0, .ref h_p2] := by
  intro s0 p0_at p0_place p2_inOrder p2_lengths h
  unfold bf_X8_readTable_60 at h
  obtain ⟨hz, h⟩ := gd _ h
  have hz := x_bool (Decidable.not_not.mp hz)
  refine x_putN (ty := .boolean) S hK i_X8_readTable_X10 tyX10 tyX10_ok nmX10 3 rfl rfl 6 (by decide) nf_X8_60 rfl rfl (by decide +kernel) hz.1 hz.2 (Nat.le_of_ble_eq_true rfl) dX8_readTable_60 rfl ?_
  refine x_aload_n S dX8_readTable_63 rfl 0 rfl ?_
  refine x_aload_n S dX8_readTable_64 rfl 1 rfl ?_
  refine x_aload_n S dX8_readTable_65 rfl 2 rfl ?_
  obtain ⟨v66, h66, h⟩ := gbind h
  refine x_callVi S hK hA (c_X8_readLengths l D cI cZ F h_p0 h_p1 h_p1_words h_p2 h_p2_lengths h_p2_codes h_p2_below p0_at p0_place p1_room p1_size p1_over n_p1_words p1_words p2_symbols p2_most p2_nodes s0 p2_loaded p2_full n_p2_lengths p2_lengths n_p2_codes p2_codes n_p2_below p2_below  v66 h66) (cwV 2 S.2.2.2.2 gX8_readTable_X8_readLengths rfl rfl rfl (by decide +kernel) ⟨(Nat.le_of_ble_eq_true rfl), (Nat.le_of_ble_eq_true rfl)⟩) [0, 1, 2, 3, 4, 5, 6] [] rfl (by decide) rfl (by decide) (by decide) 0 7 rfl rfl rfl (Nat.le_of_ble_eq_true rfl) rfl dX8_readTable_66 ⟨(Nat.le_of_ble_eq_true rfl), (Nat.le_of_ble_eq_true rfl)⟩ (fun w1 hw1 => ?_)
  subst hw1
  refine x_ws (ws' := (W_X8_X0_X10 cI cZ h_p0 h_p1 h_p1_words h_p2 h_p2_lengths h_p2_codes h_p2_below v66.2.1 v66.2.2.1 p1_room p1_size p1_over n_p1_words p1_words p2_symbols p2_most p2_nodes s0 p2_loaded p2_full n_p2_lengths v66.2.2.2 n_p2_codes p2_codes n_p2_below p2_below)) [0, 1, 2, 3, 4, 5, 6] (by decide) (by rfl) ?_
  refine x_istore (lv' := [(5, .int v66.1), (0, .ref h_p0), (1, .ref h_p1), (2, .ref h_p2)]) S dX8_readTable_69 (by decide) rfl ?_
  refine x_iload S dX8_readTable_71 0 rfl ?_
  refine x_if_ge S 79 dX8_readTable_73 (by decide) h (fun h => ?_) (fun h => ?_)
  · refine x_aload_n S dX8_readTable_79 rfl 3 rfl ?_
    obtain ⟨v80, h80, h⟩ := gbind h
    refine x_callVi S hK hA (c_X10_isRight l D cI cZ F h_p2 h_p2_lengths h_p2_codes h_p2_below p2_symbols p2_most p2_nodes s0 p2_loaded p2_full n_p2_lengths v66.2.2.2 n_p2_codes p2_codes n_p2_below p2_below  v80 h80) (cwV 0 S.2.2.2.2 gX8_readTable_X10_isRight rfl rfl rfl (by decide +kernel) ⟨(Nat.le_of_ble_eq_true rfl), (Nat.le_of_ble_eq_true rfl)⟩) [3, 4, 5, 6] [0, 1, 2] rfl (by decide) rfl (by decide) (by decide) 0 9 rfl rfl rfl (Nat.le_of_ble_eq_true rfl) rfl dX8_readTable_80 ⟨(Nat.le_of_ble_eq_true rfl), (Nat.le_of_ble_eq_true rfl)⟩ (fun w1 hw1 => ?_)
    subst hw1
    refine x_ws (ws' := (W_X8_X0_X10 cI cZ h_p0 h_p1 h_p1_words h_p2 h_p2_lengths h_p2_codes h_p2_below v66.2.1 v66.2.2.1 p1_room p1_size p1_over n_p1_words p1_words p2_symbols p2_most p2_nodes s0 p2_loaded p2_full n_p2_lengths v66.2.2.2 n_p2_codes p2_codes n_p2_below p2_below)) [0, 1, 2, 3, 4, 5, 6] (by decide) (by rfl) ?_
    refine x_if_eq S 90 dX8_readTable_83 (by decide) h (fun h => ?_) (fun h => ?_)
    · refine x_aload_n S dX8_readTable_90 rfl 1 rfl ?_
      refine x_bipush (v := -8) S dX8_readTable_91 (by decide) ?_
      refine x_aload_n S dX8_readTable_93 rfl 1 rfl ?_
      refine x_get S hK i_X8_readTable_X8 0 rfl rfl 0 (by decide) k_X8_readTable_15 rfl rfl dX8_readTable_94 ?_
      obtain ⟨v97, h97, h⟩ := gbind h
      refine x_callVi S hK hA (c_X8_fail l D cI cZ F h_p0 v66.2.1 v66.2.2.1 (-8 : Int32) v66.2.1 v97 h97) (cwV 2 S.2.2.2.2 gX8_readTable_X8_fail rfl rfl rfl (by decide +kernel) ⟨(Nat.le_of_ble_eq_true rfl), (Nat.le_of_ble_eq_true rfl)⟩) [0] [1, 2, 3, 4, 5, 6] rfl (by decide) rfl (by decide) (by decide) 0 7 rfl rfl rfl (Nat.le_of_ble_eq_true rfl) rfl dX8_readTable_97 ⟨(Nat.le_of_ble_eq_true rfl), (Nat.le_of_ble_eq_true rfl)⟩ (fun w1 hw1 => ?_)
      subst hw1
      refine x_ws (ws' := (W_X8_X0_X10 cI cZ h_p0 h_p1 h_p1_words h_p2 h_p2_lengths h_p2_codes h_p2_below v66.2.1 v97.2 p1_room p1_size p1_over n_p1_words p1_words p2_symbols p2_most p2_nodes s0 p2_loaded p2_full n_p2_lengths v66.2.2.2 n_p2_codes p2_codes n_p2_below p2_below)) [6, 0, 1, 2, 3, 4, 5] (by decide) (by rfl) ?_
      obtain rfl := Option.some.inj h
      exact hend _ _ _ hWp dX8_readTable_100
    · refine x_iconst (v := 0) S dX8_readTable_86 (by decide) ?_
      refine x_goto S 100 dX8_readTable_87 (by decide) ?_
      obtain rfl := Option.some.inj h
      exact hend _ _ _ hWp dX8_readTable_100
  · refine x_iload S dX8_readTable_76 0 rfl ?_
    obtain rfl := Option.some.inj h
    exact hend _ _ _ hWp dX8_readTable_78
noncomputable def bf_X8_readTable_0 (F : Nat) (p1_size : Int32) (n_p1_words : Nat) (p1_words : Nat → Int32) (p2_symbols : Int32) (p2_most : Int32) (n_p2_lengths : Nat)  (p0_at : Int32) (p0_place : Int32) (p2_inOrder : Int32) (p2_lengths : Nat → Int32) : Option (Int32 × Int32 × Int32 × Int32 × (Nat → Int32)) :=
  ((fn_X8_readNumber F p1_size n_p1_words p1_words p0_at p0_place (7 : Int32)).bind fun v4 => (if 0 ≤ v4.1 then (if v4.1 = (p2_symbols - (1 : Int32)) then ((fn_X8_readNumber F p1_size n_p1_words p1_words v4.2.1 v4.2.2 (1 : Int32)).bind fun v35 => (if 0 ≤ v35.1 then (if v35.1 = (1 : Int32) then bf_X8_readTable_60 F p1_size n_p1_words p1_words p2_symbols p2_most n_p2_lengths (1 : Int32) v35.2.1 v35.2.2 p2_inOrder p2_lengths else bf_X8_readTable_60 F p1_size n_p1_words p1_words p2_symbols p2_most n_p2_lengths (0 : Int32) v35.2.1 v35.2.2 p2_inOrder p2_lengths) else some (v35.1, v35.2.1, v35.2.2, p2_inOrder, p2_lengths))) else ((fn_X8_fail F v4.2.2 (-5 : Int32) (0 : Int32)).bind fun v28 => some (v28.1, v4.2.1, v28.2, p2_inOrder, p2_lengths))) else some (v4.1, v4.2.1, v4.2.2, p2_inOrder, p2_lengths)))
set_option maxRecDepth 100000 in
set_option maxHeartbeats 4000000 in
theorem w_X8_readTable_0 (S : CallFix p m c cX8_readTable 6 s args wsX8_readTable RX8) (hK : K_ D vwCl [(cI, .int), (cZ, .boolean)] s) (hA : ∀ q, s.heap.size ≤ q → A q) {F : Nat} {p1_room : Int32} {p1_size : Int32} {p1_over : Int32} {n_p1_words : Nat} {p1_words : Nat → Int32} {p2_symbols : Int32} {p2_most : Int32} {p2_nodes : Int32} {p2_loaded : Int32} {p2_full : Int32} {n_p2_lengths : Nat} {n_p2_codes : Nat} {p2_codes : Nat → Int32} {n_p2_below : Nat} {p2_below : Nat → Int32} {h_p0 h_p1 h_p2 h_p1_words h_p2_lengths h_p2_codes h_p2_below : Nat} {r : Int32 × Int32 × Int32 × Int32 × (Nat → Int32)} {Wp : va_W → Prop} (hend : ∀ (w1 : va_W) (pc : Nat) (lv : List (Nat × Value)), Wp w1 → decode cX8_readTable pc = .ok (.ireturn, 1) → X_ p l e ({ frames := 3, cells := 0, slots := 0, locals := 72 } : Room) s m args below meth c Q D vwCl A 6 0 0 w1 lv pc [.int r.1]) (hWp : Wp (W_X8_X0_X10 cI cZ h_p0 h_p1 h_p1_words h_p2 h_p2_lengths h_p2_codes h_p2_below r.2.1 r.2.2.1 p1_room p1_size p1_over n_p1_words p1_words p2_symbols p2_most p2_nodes r.2.2.2.1 p2_loaded p2_full n_p2_lengths r.2.2.2.2 n_p2_codes p2_codes n_p2_below p2_below))   : ∀ (p0_at : Int32) (p0_place : Int32) (p2_inOrder : Int32) (p2_lengths : Nat → Int32), bf_X8_readTable_0 F p1_size n_p1_words p1_words p2_symbols p2_most n_p2_lengths p0_at p0_place p2_inOrder p2_lengths = some r → X_ p l e ({ frames := 3, cells := 0, slots := 0, locals := 72 } : Room) s m args below meth c Q D vwCl A 6 0 0 (W_X8_X0_X10 cI cZ h_p0 h_p1 h_p1_words h_p2 h_p2_lengths h_p2_codes h_p2_below p0_at p0_place p1_room p1_size p1_over n_p1_words p1_words p2_symbols p2_most p2_nodes p2_inOrder p2_loaded p2_full n_p2_lengths p2_lengths n_p2_codes p2_codes n_p2_below p2_below) [(0, .ref h_p0), (1, .ref h_p1), (2, .ref h_p2)] 0 [] := by
  intro p0_at p0_place p2_inOrder p2_lengths h
  unfold bf_X8_readTable_0 at h
  refine x_aload_n S dX8_readTable_0 rfl 0 rfl ?_
  refine x_aload_n S dX8_readTable_1 rfl 1 rfl ?_
  refine x_bipush (v := 7) S dX8_readTable_2 (by decide) ?_
  obtain ⟨v4, h4, h⟩ := gbind h
  refine x_callVi S hK hA (c_X8_readNumber l D cI cZ F h_p0 h_p1 h_p1_words p0_at p0_place p1_room p1_size p1_over n_p1_words p1_words (7 : Int32) v4 h4) (cwV 2 S.2.2.2.2 gX8_readTable_X8_readNumber rfl rfl rfl (by decide +kernel) ⟨(Nat.le_of_ble_eq_true rfl), (Nat.le_of_ble_eq_true rfl)⟩) [0, 1, 2] [3, 4, 5, 6] rfl (by decide) rfl (by decide) (by decide) 0 7 rfl rfl rfl (Nat.le_of_ble_eq_true rfl) rfl dX8_readTable_4 ⟨(Nat.le_of_ble_eq_true rfl), (Nat.le_of_ble_eq_true rfl)⟩ (fun w1 hw1 => ?_)
  subst hw1
  refine x_ws (ws' := (W_X8_X0_X10 cI cZ h_p0 h_p1 h_p1_words h_p2 h_p2_lengths h_p2_codes h_p2_below v4.2.1 v4.2.2 p1_room p1_size p1_over n_p1_words p1_words p2_symbols p2_most p2_nodes p2_inOrder p2_loaded p2_full n_p2_lengths p2_lengths n_p2_codes p2_codes n_p2_below p2_below)) [4, 5, 6, 0, 1, 2, 3] (by decide) (by rfl) ?_
  refine x_istore_n (lv' := [(3, .int v4.1), (0, .ref h_p0), (1, .ref h_p1), (2, .ref h_p2)]) S dX8_readTable_7 rfl (by decide) rfl ?_
  refine x_iload_n S dX8_readTable_8 rfl 0 rfl ?_
  refine x_if_ge S 14 dX8_readTable_9 (by decide) h (fun h => ?_) (fun h => ?_)
  · refine x_iload_n S dX8_readTable_14 rfl 0 rfl ?_
    refine x_aload_n S dX8_readTable_15 rfl 3 rfl ?_
    refine x_getN S hK i_X8_readTable_X10 3 rfl rfl 0 (by decide) nf_X8_57 rfl rfl dX8_readTable_16 ?_
    refine x_iconst (v := 1) S dX8_readTable_19 (by decide) ?_
    refine x_isub S dX8_readTable_20 ?_
    refine x_icmp_eq S 32 dX8_readTable_21 (by decide) h (fun h => ?_) (fun h => ?_)
    · refine x_aload_n S dX8_readTable_32 rfl 1 rfl ?_
      refine x_aload_n S dX8_readTable_33 rfl 2 rfl ?_
      refine x_iconst (v := 1) S dX8_readTable_34 (by decide) ?_
      obtain ⟨v35, h35, h⟩ := gbind h
      refine x_callVi S hK hA (c_X8_readNumber l D cI cZ F h_p0 h_p1 h_p1_words v4.2.1 v4.2.2 p1_room p1_size p1_over n_p1_words p1_words (1 : Int32) v35 h35) (cwV 2 S.2.2.2.2 gX8_readTable_X8_readNumber rfl rfl rfl (by decide +kernel) ⟨(Nat.le_of_ble_eq_true rfl), (Nat.le_of_ble_eq_true rfl)⟩) [0, 1, 2] [3, 4, 5, 6] rfl (by decide) rfl (by decide) (by decide) 0 7 rfl rfl rfl (Nat.le_of_ble_eq_true rfl) rfl dX8_readTable_35 ⟨(Nat.le_of_ble_eq_true rfl), (Nat.le_of_ble_eq_true rfl)⟩ (fun w1 hw1 => ?_)
      subst hw1
      refine x_ws (ws' := (W_X8_X0_X10 cI cZ h_p0 h_p1 h_p1_words h_p2 h_p2_lengths h_p2_codes h_p2_below v35.2.1 v35.2.2 p1_room p1_size p1_over n_p1_words p1_words p2_symbols p2_most p2_nodes p2_inOrder p2_loaded p2_full n_p2_lengths p2_lengths n_p2_codes p2_codes n_p2_below p2_below)) [4, 5, 6, 0, 1, 2, 3] (by decide) (by rfl) ?_
      refine x_istore (lv' := [(4, .int v35.1), (3, .int v4.1), (0, .ref h_p0), (1, .ref h_p1), (2, .ref h_p2)]) S dX8_readTable_38 (by decide) rfl ?_
      refine x_iload S dX8_readTable_40 0 rfl ?_
      refine x_if_ge S 48 dX8_readTable_42 (by decide) h (fun h => ?_) (fun h => ?_)
      · refine x_aload_n S dX8_readTable_48 rfl 4 rfl ?_
        refine x_iload S dX8_readTable_49 0 rfl ?_
        refine x_iconst (v := 1) S dX8_readTable_51 (by decide) ?_
        refine x_icmp_ne S 59 dX8_readTable_52 (by decide) h (fun h => ?_) (fun h => ?_)
        · refine x_iconst (v := 0) S dX8_readTable_59 (by decide) ?_
          refine x_lv [2, 3, 4] (by rfl) ?_
          exact w_X8_readTable_60 S hK hA hend hWp  (0 : Int32) v35.2.1 v35.2.2 p2_inOrder p2_lengths h
        · refine x_iconst (v := 1) S dX8_readTable_55 (by decide) ?_
          refine x_goto S 60 dX8_readTable_56 (by decide) ?_
          refine x_lv [2, 3, 4] (by rfl) ?_
          exact w_X8_readTable_60 S hK hA hend hWp  (1 : Int32) v35.2.1 v35.2.2 p2_inOrder p2_lengths h
      · refine x_iload S dX8_readTable_45 0 rfl ?_
        obtain rfl := Option.some.inj h
        exact hend _ _ _ hWp dX8_readTable_47
    · refine x_aload_n S dX8_readTable_24 rfl 1 rfl ?_
      refine x_bipush (v := -5) S dX8_readTable_25 (by decide) ?_
      refine x_iconst (v := 0) S dX8_readTable_27 (by decide) ?_
      obtain ⟨v28, h28, h⟩ := gbind h
      refine x_callVi S hK hA (c_X8_fail l D cI cZ F h_p0 v4.2.1 v4.2.2 (-5 : Int32) (0 : Int32) v28 h28) (cwV 2 S.2.2.2.2 gX8_readTable_X8_fail rfl rfl rfl (by decide +kernel) ⟨(Nat.le_of_ble_eq_true rfl), (Nat.le_of_ble_eq_true rfl)⟩) [0] [1, 2, 3, 4, 5, 6] rfl (by decide) rfl (by decide) (by decide) 0 7 rfl rfl rfl (Nat.le_of_ble_eq_true rfl) rfl dX8_readTable_28 ⟨(Nat.le_of_ble_eq_true rfl), (Nat.le_of_ble_eq_true rfl)⟩ (fun w1 hw1 => ?_)
      subst hw1
      refine x_ws (ws' := (W_X8_X0_X10 cI cZ h_p0 h_p1 h_p1_words h_p2 h_p2_lengths h_p2_codes h_p2_below v4.2.1 v28.2 p1_room p1_size p1_over n_p1_words p1_words p2_symbols p2_most p2_nodes p2_inOrder p2_loaded p2_full n_p2_lengths p2_lengths n_p2_codes p2_codes n_p2_below p2_below)) [6, 0, 1, 2, 3, 4, 5] (by decide) (by rfl) ?_
      obtain rfl := Option.some.inj h
      exact hend _ _ _ hWp dX8_readTable_31
  · refine x_iload_n S dX8_readTable_12 rfl 0 rfl ?_
    obtain rfl := Option.some.inj h
    exact hend _ _ _ hWp dX8_readTable_13
noncomputable def fn_X8_readTable (F : Nat) (p1_size : Int32) (n_p1_words : Nat) (p1_words : Nat → Int32) (p2_symbols : Int32) (p2_most : Int32) (n_p2_lengths : Nat) (p0_at : Int32) (p0_place : Int32) (p2_inOrder : Int32) (p2_lengths : Nat → Int32)  : Option (Int32 × Int32 × Int32 × Int32 × (Nat → Int32)) :=
  bf_X8_readTable_0 F p1_size n_p1_words p1_words p2_symbols p2_most n_p2_lengths p0_at p0_place p2_inOrder p2_lengths
set_option maxRecDepth 100000 in
set_option maxHeartbeats 4000000 in
theorem c_X8_readTable (l : Launch) (D : va_G) (cI cZ : ClassId) (F : Nat) (h_p0 h_p1 h_p1_words h_p2 h_p2_lengths h_p2_codes h_p2_below : Nat) (p0_at : Int32) (p0_place : Int32) (p1_room : Int32) (p1_size : Int32) (p1_over : Int32) (n_p1_words : Nat) (p1_words : Nat → Int32) (p2_symbols : Int32) (p2_most : Int32) (p2_nodes : Int32) (p2_inOrder : Int32) (p2_loaded : Int32) (p2_full : Int32) (n_p2_lengths : Nat) (p2_lengths : Nat → Int32) (n_p2_codes : Nat) (p2_codes : Nat → Int32) (n_p2_below : Nat) (p2_below : Nat → Int32)  (r : Int32 × Int32 × Int32 × Int32 × (Nat → Int32)) (h : fn_X8_readTable F p1_size n_p1_words p1_words p2_symbols p2_most n_p2_lengths p0_at p0_place p2_inOrder p2_lengths = some r) : Ci l yX8_readTable wsX8_readTable ({ frames := 3, cells := 0, slots := 0, locals := 72 } : Room) D vwCl [(cI, .int), (cZ, .boolean)] [.ref h_p0, .ref h_p1, .ref h_p2] (W_X8_X0_X10 cI cZ h_p0 h_p1 h_p1_words h_p2 h_p2_lengths h_p2_codes h_p2_below p0_at p0_place p1_room p1_size p1_over n_p1_words p1_words p2_symbols p2_most p2_nodes p2_inOrder p2_loaded p2_full n_p2_lengths p2_lengths n_p2_codes p2_codes n_p2_below p2_below) r.1 (fun w => w = (W_X8_X0_X10 cI cZ h_p0 h_p1 h_p1_words h_p2 h_p2_lengths h_p2_codes h_p2_below r.2.1 r.2.2.1 p1_room p1_size p1_over n_p1_words p1_words p2_symbols p2_most p2_nodes r.2.2.2.1 p2_loaded p2_full n_p2_lengths r.2.2.2.2 n_p2_codes p2_codes n_p2_below p2_below)) 0 0 :=
  Ci.ofi (by decide) rfl (Nat.le_of_ble_eq_true rfl) (fun p e s m args below meth c Q A S hK hA hname hend => w_X8_readTable_0 S hK hA hend rfl p0_at p0_place p2_inOrder p2_lengths h)
end

/-! ===== PrefixSmith$Reader.readPacked(LPrefixSmith$BitRow;LPrefixSmith$Table;LPrefixSmith$Row;)I ===== -/
theorem i_X8_readPacked_X8 : ∀ w ∈ u_ws RX8 TX8 2, w ∈ wsX8_readPacked := by decide +kernel
theorem k_X8_readPacked_15 : Cond.fieldLink RX8 15 "PrefixSmith$Reader" "at" "I" ∈ wsX8_readPacked := by decide +kernel
theorem i_X8_readPacked_X9 : ∀ w ∈ u_ws RX9 TX9 2, w ∈ wsX8_readPacked := by decide +kernel
theorem i_X8_readPacked_X0 : ∀ w ∈ u_ws RX0 TX0 4, w ∈ wsX8_readPacked := by decide +kernel
section
variable {p : Program} {l : Launch} {e : Env} {s : State} {m : MethodId} {args : Array Value} {below : List Frame} {meth : Method} {c : Code} {Q : State → Prop} {D : va_G} {A : Nat → Prop} {cI cZ : ClassId}
noncomputable def bf_X8_readPacked_73 (F : Nat) (p1_size : Int32) (n_p1_words : Nat) (p1_words : Nat → Int32) (p2_symbols : Int32) (p2_most : Int32) (n_p2_lengths : Nat) (n_p2_codes : Nat) (n_p2_below : Nat) (n_p3_items : Nat) (rec73 : Int32 → Int32 → Int32 → Int32 → Int32 → Int32 → Int32 → Int32 → (Nat → Int32) → (Nat → Int32) → (Nat → Int32) → Int32 → (Nat → Int32) → Option (Int32 × Int32 × Int32 × Int32 × Int32 × Int32 × Int32 × (Nat → Int32) × (Nat → Int32) × (Nat → Int32) × Int32 × (Nat → Int32))) (x6 : Int32) (x7 : Int32) (p0_at : Int32) (p0_place : Int32) (p2_nodes : Int32) (p2_inOrder : Int32) (p2_loaded : Int32) (p2_full : Int32) (p2_lengths : Nat → Int32) (p2_codes : Nat → Int32) (p2_below : Nat → Int32) (p3_size : Int32) (p3_items : Nat → Int32) : Option (Int32 × Int32 × Int32 × Int32 × Int32 × Int32 × Int32 × (Nat → Int32) × (Nat → Int32) × (Nat → Int32) × Int32 × (Nat → Int32)) :=
  (if x6 ≤ x7 then (if p1_size ≤ p0_at then some (x6, p0_at, p0_place, p2_nodes, p2_inOrder, p2_loaded, p2_full, p2_lengths, p2_codes, p2_below, p3_size, p3_items) else ((fn_X8_fail F p0_place (-10 : Int32) p0_at).bind fun v126 => some (v126.1, p0_at, v126.2, p2_nodes, p2_inOrder, p2_loaded, p2_full, p2_lengths, p2_codes, p2_below, p3_size, p3_items))) else ((fn_X8_readSymbol F p1_size n_p1_words p1_words n_p2_below p2_below p0_at p0_place).bind fun v83 => (if 0 ≤ v83.1 then ((fn_X9_add F n_p3_items p3_size p3_items v83.1).bind fun v99 => rec73 x6 (x7 + (1 : Int32)) v83.2.1 v83.2.2 p2_nodes p2_inOrder p2_loaded p2_full p2_lengths p2_codes p2_below v99.1 v99.2) else some (v83.1, v83.2.1, v83.2.2, p2_nodes, p2_inOrder, p2_loaded, p2_full, p2_lengths, p2_codes, p2_below, p3_size, p3_items))))
set_option maxRecDepth 100000 in
set_option maxHeartbeats 4000000 in
theorem w_X8_readPacked_73 (S : CallFix p m c cX8_readPacked 9 s args wsX8_readPacked RX8) (hK : K_ D vwCl [(cI, .int), (cZ, .boolean)] s) (hA : ∀ q, s.heap.size ≤ q → A q) {F : Nat} {p1_room : Int32} {p1_size : Int32} {p1_over : Int32} {n_p1_words : Nat} {p1_words : Nat → Int32} {p2_symbols : Int32} {p2_most : Int32} {n_p2_lengths : Nat} {n_p2_codes : Nat} {n_p2_below : Nat} {n_p3_items : Nat} {h_p0 h_p1 h_p2 h_p3 h_p1_words h_p2_lengths h_p2_codes h_p2_below h_p3_items : Nat} {r : Int32 × Int32 × Int32 × Int32 × Int32 × Int32 × Int32 × (Nat → Int32) × (Nat → Int32) × (Nat → Int32) × Int32 × (Nat → Int32)} {Wp : va_W → Prop} (hend : ∀ (w1 : va_W) (pc : Nat) (lv : List (Nat × Value)), Wp w1 → decode cX8_readPacked pc = .ok (.ireturn, 1) → X_ p l e ({ frames := 5, cells := 0, slots := 0, locals := 113 } : Room) s m args below meth c Q D vwCl A 9 0 0 w1 lv pc [.int r.1]) (hWp : Wp (W_X8_X0_X10_X9 cI cZ h_p0 h_p1 h_p1_words h_p2 h_p2_lengths h_p2_codes h_p2_below h_p3 h_p3_items r.2.1 r.2.2.1 p1_room p1_size p1_over n_p1_words p1_words p2_symbols p2_most r.2.2.2.1 r.2.2.2.2.1 r.2.2.2.2.2.1 r.2.2.2.2.2.2.1 n_p2_lengths r.2.2.2.2.2.2.2.1 n_p2_codes r.2.2.2.2.2.2.2.2.1 n_p2_below r.2.2.2.2.2.2.2.2.2.1 r.2.2.2.2.2.2.2.2.2.2.1 n_p3_items r.2.2.2.2.2.2.2.2.2.2.2)) {rec73 : Int32 → Int32 → Int32 → Int32 → Int32 → Int32 → Int32 → Int32 → (Nat → Int32) → (Nat → Int32) → (Nat → Int32) → Int32 → (Nat → Int32) → Option (Int32 × Int32 × Int32 × Int32 × Int32 × Int32 × Int32 × (Nat → Int32) × (Nat → Int32) × (Nat → Int32) × Int32 × (Nat → Int32))} (hrec73 : ∀ (x6 : Int32) (x7 : Int32) (p0_at : Int32) (p0_place : Int32) (p2_nodes : Int32) (p2_inOrder : Int32) (p2_loaded : Int32) (p2_full : Int32) (p2_lengths : Nat → Int32) (p2_codes : Nat → Int32) (p2_below : Nat → Int32) (p3_size : Int32) (p3_items : Nat → Int32), rec73 x6 x7 p0_at p0_place p2_nodes p2_inOrder p2_loaded p2_full p2_lengths p2_codes p2_below p3_size p3_items = some r → X_ p l e ({ frames := 5, cells := 0, slots := 0, locals := 113 } : Room) s m args below meth c Q D vwCl A 9 0 0 (W_X8_X0_X10_X9 cI cZ h_p0 h_p1 h_p1_words h_p2 h_p2_lengths h_p2_codes h_p2_below h_p3 h_p3_items p0_at p0_place p1_room p1_size p1_over n_p1_words p1_words p2_symbols p2_most p2_nodes p2_inOrder p2_loaded p2_full n_p2_lengths p2_lengths n_p2_codes p2_codes n_p2_below p2_below p3_size n_p3_items p3_items) [(0, .ref h_p0), (1, .ref h_p1), (2, .ref h_p2), (3, .ref h_p3), (6, .int x6), (7, .int x7)] 73 []) : ∀ (x6 : Int32) (x7 : Int32) (p0_at : Int32) (p0_place : Int32) (p2_nodes : Int32) (p2_inOrder : Int32) (p2_loaded : Int32) (p2_full : Int32) (p2_lengths : Nat → Int32) (p2_codes : Nat → Int32) (p2_below : Nat → Int32) (p3_size : Int32) (p3_items : Nat → Int32), bf_X8_readPacked_73 F p1_size n_p1_words p1_words p2_symbols p2_most n_p2_lengths n_p2_codes n_p2_below n_p3_items rec73 x6 x7 p0_at p0_place p2_nodes p2_inOrder p2_loaded p2_full p2_lengths p2_codes p2_below p3_size p3_items = some r → X_ p l e ({ frames := 5, cells := 0, slots := 0, locals := 113 } : Room) s m args below meth c Q D vwCl A 9 0 0 (W_X8_X0_X10_X9 cI cZ h_p0 h_p1 h_p1_words h_p2 h_p2_lengths h_p2_codes h_p2_below h_p3 h_p3_items p0_at p0_place p1_room p1_size p1_over n_p1_words p1_words p2_symbols p2_most p2_nodes p2_inOrder p2_loaded p2_full n_p2_lengths p2_lengths n_p2_codes p2_codes n_p2_below p2_below p3_size n_p3_items p3_items) [(0, .ref h_p0), (1, .ref h_p1), (2, .ref h_p2), (3, .ref h_p3), (6, .int x6), (7, .int x7)] 73 [] := by
  intro x6 x7 p0_at p0_place p2_nodes p2_inOrder p2_loaded p2_full p2_lengths p2_codes p2_below p3_size p3_items h
  unfold bf_X8_readPacked_73 at h
  refine x_iload S dX8_readPacked_73 5 rfl ?_
  refine x_iload S dX8_readPacked_75 4 rfl ?_
  refine x_icmp_ge S 108 dX8_readPacked_77 (by decide) h (fun h => ?_) (fun h => ?_)
  · refine x_aload_n S dX8_readPacked_108 rfl 0 rfl ?_
    refine x_get S hK i_X8_readPacked_X8 0 rfl rfl 0 (by decide) k_X8_readPacked_15 rfl rfl dX8_readPacked_109 ?_
    refine x_aload_n S dX8_readPacked_112 rfl 1 rfl ?_
    refine x_getN S hK i_X8_readPacked_X0 1 rfl rfl 2 (by decide) nf_X8_23 rfl rfl dX8_readPacked_113 ?_
    refine x_icmp_ge S 132 dX8_readPacked_116 (by decide) h (fun h => ?_) (fun h => ?_)
    · refine x_iload S dX8_readPacked_132 4 rfl ?_
      obtain rfl := Option.some.inj h
      exact hend _ _ _ hWp dX8_readPacked_134
    · refine x_aload_n S dX8_readPacked_119 rfl 0 rfl ?_
      refine x_bipush (v := -10) S dX8_readPacked_120 (by decide) ?_
      refine x_aload_n S dX8_readPacked_122 rfl 0 rfl ?_
      refine x_get S hK i_X8_readPacked_X8 0 rfl rfl 0 (by decide) k_X8_readPacked_15 rfl rfl dX8_readPacked_123 ?_
      obtain ⟨v126, h126, h⟩ := gbind h
      refine x_callVi S hK hA (c_X8_fail l D cI cZ F h_p0 p0_at p0_place (-10 : Int32) p0_at v126 h126) (cwV 2 S.2.2.2.2 gX8_readPacked_X8_fail rfl rfl rfl (by decide +kernel) ⟨(Nat.le_of_ble_eq_true rfl), (Nat.le_of_ble_eq_true rfl)⟩) [0] [1, 2, 3, 4, 5, 6, 7, 8] rfl (by decide) rfl (by decide) (by decide) 0 7 rfl rfl rfl (Nat.le_of_ble_eq_true rfl) rfl dX8_readPacked_126 ⟨(Nat.le_of_ble_eq_true rfl), (Nat.le_of_ble_eq_true rfl)⟩ (fun w1 hw1 => ?_)
      subst hw1
      refine x_ws (ws' := (W_X8_X0_X10_X9 cI cZ h_p0 h_p1 h_p1_words h_p2 h_p2_lengths h_p2_codes h_p2_below h_p3 h_p3_items p0_at v126.2 p1_room p1_size p1_over n_p1_words p1_words p2_symbols p2_most p2_nodes p2_inOrder p2_loaded p2_full n_p2_lengths p2_lengths n_p2_codes p2_codes n_p2_below p2_below p3_size n_p3_items p3_items)) [8, 0, 1, 2, 3, 4, 5, 6, 7] (by decide) (by rfl) ?_
      refine x_goto S 134 dX8_readPacked_129 (by decide) ?_
      obtain rfl := Option.some.inj h
      exact hend _ _ _ hWp dX8_readPacked_134
  · refine x_aload_n S dX8_readPacked_80 rfl 0 rfl ?_
    refine x_aload_n S dX8_readPacked_81 rfl 1 rfl ?_
    refine x_aload_n S dX8_readPacked_82 rfl 2 rfl ?_
    obtain ⟨v83, h83, h⟩ := gbind h
    refine x_callVi S hK hA (c_X8_readSymbol l D cI cZ F h_p0 h_p1 h_p1_words h_p2 h_p2_lengths h_p2_codes h_p2_below p0_at p0_place p1_room p1_size p1_over n_p1_words p1_words p2_symbols p2_most p2_nodes p2_inOrder p2_loaded p2_full n_p2_lengths p2_lengths n_p2_codes p2_codes n_p2_below p2_below  v83 h83) (cwV 2 S.2.2.2.2 gX8_readPacked_X8_readSymbol rfl rfl rfl (by decide +kernel) ⟨(Nat.le_of_ble_eq_true rfl), (Nat.le_of_ble_eq_true rfl)⟩) [0, 1, 2, 3, 4, 5, 6] [7, 8] rfl (by decide) rfl (by decide) (by decide) 0 7 rfl rfl rfl (Nat.le_of_ble_eq_true rfl) rfl dX8_readPacked_83 ⟨(Nat.le_of_ble_eq_true rfl), (Nat.le_of_ble_eq_true rfl)⟩ (fun w1 hw1 => ?_)
    subst hw1
    refine x_ws (ws' := (W_X8_X0_X10_X9 cI cZ h_p0 h_p1 h_p1_words h_p2 h_p2_lengths h_p2_codes h_p2_below h_p3 h_p3_items v83.2.1 v83.2.2 p1_room p1_size p1_over n_p1_words p1_words p2_symbols p2_most p2_nodes p2_inOrder p2_loaded p2_full n_p2_lengths p2_lengths n_p2_codes p2_codes n_p2_below p2_below p3_size n_p3_items p3_items)) [2, 3, 4, 5, 6, 7, 8, 0, 1] (by decide) (by rfl) ?_
    refine x_istore (lv' := [(8, .int v83.1), (0, .ref h_p0), (1, .ref h_p1), (2, .ref h_p2), (3, .ref h_p3), (6, .int x6), (7, .int x7)]) S dX8_readPacked_86 (by decide) rfl ?_
    refine x_iload S dX8_readPacked_88 0 rfl ?_
    refine x_if_ge S 96 dX8_readPacked_90 (by decide) h (fun h => ?_) (fun h => ?_)
    · refine x_aload_n S dX8_readPacked_96 rfl 4 rfl ?_
      refine x_iload S dX8_readPacked_97 0 rfl ?_
      obtain ⟨v99, h99, h⟩ := gbind h
      refine x_callVv S hK hA (c_X9_add l D cI cZ F h_p3 h_p3_items p3_size n_p3_items p3_items v83.1 v99 h99) (cwV 1 S.2.2.2.2 gX8_readPacked_X9_add rfl rfl rfl (by decide +kernel) ⟨(Nat.le_of_ble_eq_true rfl), (Nat.le_of_ble_eq_true rfl)⟩) [7, 8] [0, 1, 2, 3, 4, 5, 6] rfl (by decide) rfl (by decide) (by decide) 0 8 rfl rfl rfl (Nat.le_of_ble_eq_true rfl) rfl dX8_readPacked_99 ⟨(Nat.le_of_ble_eq_true rfl), (Nat.le_of_ble_eq_true rfl)⟩ (fun w1 hw1 => ?_)
      subst hw1
      refine x_ws (ws' := (W_X8_X0_X10_X9 cI cZ h_p0 h_p1 h_p1_words h_p2 h_p2_lengths h_p2_codes h_p2_below h_p3 h_p3_items v83.2.1 v83.2.2 p1_room p1_size p1_over n_p1_words p1_words p2_symbols p2_most p2_nodes p2_inOrder p2_loaded p2_full n_p2_lengths p2_lengths n_p2_codes p2_codes n_p2_below p2_below v99.1 n_p3_items v99.2)) [0, 1, 2, 3, 4, 5, 6, 7, 8] (by decide) (by rfl) ?_
      refine x_iinc (v := x7 + (1 : Int32)) (lv' := [(7, .int (x7 + (1 : Int32))), (8, .int v83.1), (0, .ref h_p0), (1, .ref h_p1), (2, .ref h_p2), (3, .ref h_p3), (6, .int x6)]) S dX8_readPacked_102 6 rfl rfl (by decide) rfl ?_
      refine x_goto S 73 dX8_readPacked_105 (by decide) ?_
      refine x_lv [2, 3, 4, 5, 6, 0] (by rfl) ?_
      exact hrec73 x6 (x7 + (1 : Int32)) v83.2.1 v83.2.2 p2_nodes p2_inOrder p2_loaded p2_full p2_lengths p2_codes p2_below v99.1 v99.2 h
    · refine x_iload S dX8_readPacked_93 0 rfl ?_
      obtain rfl := Option.some.inj h
      exact hend _ _ _ hWp dX8_readPacked_95
noncomputable def lf_X8_readPacked_73 (F : Nat) (p1_size : Int32) (n_p1_words : Nat) (p1_words : Nat → Int32) (p2_symbols : Int32) (p2_most : Int32) (n_p2_lengths : Nat) (n_p2_codes : Nat) (n_p2_below : Nat) (n_p3_items : Nat)  (k : Nat) (x6 : Int32) (x7 : Int32) (p0_at : Int32) (p0_place : Int32) (p2_nodes : Int32) (p2_inOrder : Int32) (p2_loaded : Int32) (p2_full : Int32) (p2_lengths : Nat → Int32) (p2_codes : Nat → Int32) (p2_below : Nat → Int32) (p3_size : Int32) (p3_items : Nat → Int32) : Option (Int32 × Int32 × Int32 × Int32 × Int32 × Int32 × Int32 × (Nat → Int32) × (Nat → Int32) × (Nat → Int32) × Int32 × (Nat → Int32)) :=
  lp (fun (rec : Int32 × Int32 × Int32 × Int32 × Int32 × Int32 × Int32 × Int32 × (Nat → Int32) × (Nat → Int32) × (Nat → Int32) × Int32 × (Nat → Int32) → Option (Int32 × Int32 × Int32 × Int32 × Int32 × Int32 × Int32 × (Nat → Int32) × (Nat → Int32) × (Nat → Int32) × Int32 × (Nat → Int32))) (z : Int32 × Int32 × Int32 × Int32 × Int32 × Int32 × Int32 × Int32 × (Nat → Int32) × (Nat → Int32) × (Nat → Int32) × Int32 × (Nat → Int32)) => bf_X8_readPacked_73 F p1_size n_p1_words p1_words p2_symbols p2_most n_p2_lengths n_p2_codes n_p2_below n_p3_items (fun x6 x7 p0_at p0_place p2_nodes p2_inOrder p2_loaded p2_full p2_lengths p2_codes p2_below p3_size p3_items => rec (x6, x7, p0_at, p0_place, p2_nodes, p2_inOrder, p2_loaded, p2_full, p2_lengths, p2_codes, p2_below, p3_size, p3_items)) z.1 z.2.1 z.2.2.1 z.2.2.2.1 z.2.2.2.2.1 z.2.2.2.2.2.1 z.2.2.2.2.2.2.1 z.2.2.2.2.2.2.2.1 z.2.2.2.2.2.2.2.2.1 z.2.2.2.2.2.2.2.2.2.1 z.2.2.2.2.2.2.2.2.2.2.1 z.2.2.2.2.2.2.2.2.2.2.2.1 z.2.2.2.2.2.2.2.2.2.2.2.2) k (x6, x7, p0_at, p0_place, p2_nodes, p2_inOrder, p2_loaded, p2_full, p2_lengths, p2_codes, p2_below, p3_size, p3_items)
set_option maxRecDepth 100000 in
set_option maxHeartbeats 4000000 in
theorem wl_X8_readPacked_73 (S : CallFix p m c cX8_readPacked 9 s args wsX8_readPacked RX8) (hK : K_ D vwCl [(cI, .int), (cZ, .boolean)] s) (hA : ∀ q, s.heap.size ≤ q → A q) {F : Nat} {p1_room : Int32} {p1_size : Int32} {p1_over : Int32} {n_p1_words : Nat} {p1_words : Nat → Int32} {p2_symbols : Int32} {p2_most : Int32} {n_p2_lengths : Nat} {n_p2_codes : Nat} {n_p2_below : Nat} {n_p3_items : Nat} {h_p0 h_p1 h_p2 h_p3 h_p1_words h_p2_lengths h_p2_codes h_p2_below h_p3_items : Nat} {r : Int32 × Int32 × Int32 × Int32 × Int32 × Int32 × Int32 × (Nat → Int32) × (Nat → Int32) × (Nat → Int32) × Int32 × (Nat → Int32)} {Wp : va_W → Prop} (hend : ∀ (w1 : va_W) (pc : Nat) (lv : List (Nat × Value)), Wp w1 → decode cX8_readPacked pc = .ok (.ireturn, 1) → X_ p l e ({ frames := 5, cells := 0, slots := 0, locals := 113 } : Room) s m args below meth c Q D vwCl A 9 0 0 w1 lv pc [.int r.1]) (hWp : Wp (W_X8_X0_X10_X9 cI cZ h_p0 h_p1 h_p1_words h_p2 h_p2_lengths h_p2_codes h_p2_below h_p3 h_p3_items r.2.1 r.2.2.1 p1_room p1_size p1_over n_p1_words p1_words p2_symbols p2_most r.2.2.2.1 r.2.2.2.2.1 r.2.2.2.2.2.1 r.2.2.2.2.2.2.1 n_p2_lengths r.2.2.2.2.2.2.2.1 n_p2_codes r.2.2.2.2.2.2.2.2.1 n_p2_below r.2.2.2.2.2.2.2.2.2.1 r.2.2.2.2.2.2.2.2.2.2.1 n_p3_items r.2.2.2.2.2.2.2.2.2.2.2))   (k : Nat) : ∀ (x6 : Int32) (x7 : Int32) (p0_at : Int32) (p0_place : Int32) (p2_nodes : Int32) (p2_inOrder : Int32) (p2_loaded : Int32) (p2_full : Int32) (p2_lengths : Nat → Int32) (p2_codes : Nat → Int32) (p2_below : Nat → Int32) (p3_size : Int32) (p3_items : Nat → Int32), lf_X8_readPacked_73 F p1_size n_p1_words p1_words p2_symbols p2_most n_p2_lengths n_p2_codes n_p2_below n_p3_items k x6 x7 p0_at p0_place p2_nodes p2_inOrder p2_loaded p2_full p2_lengths p2_codes p2_below p3_size p3_items = some r → X_ p l e ({ frames := 5, cells := 0, slots := 0, locals := 113 } : Room) s m args below meth c Q D vwCl A 9 0 0 (W_X8_X0_X10_X9 cI cZ h_p0 h_p1 h_p1_words h_p2 h_p2_lengths h_p2_codes h_p2_below h_p3 h_p3_items p0_at p0_place p1_room p1_size p1_over n_p1_words p1_words p2_symbols p2_most p2_nodes p2_inOrder p2_loaded p2_full n_p2_lengths p2_lengths n_p2_codes p2_codes n_p2_below p2_below p3_size n_p3_items p3_items) [(0, .ref h_p0), (1, .ref h_p1), (2, .ref h_p2), (3, .ref h_p3), (6, .int x6), (7, .int x7)] 73 [] := by
  intro x6 x7 p0_at p0_place p2_nodes p2_inOrder p2_loaded p2_full p2_lengths p2_codes p2_below p3_size p3_items h
  exact lp_W (P := fun z => X_ p l e ({ frames := 5, cells := 0, slots := 0, locals := 113 } : Room) s m args below meth c Q D vwCl A 9 0 0 (W_X8_X0_X10_X9 cI cZ h_p0 h_p1 h_p1_words h_p2 h_p2_lengths h_p2_codes h_p2_below h_p3 h_p3_items z.2.2.1 z.2.2.2.1 p1_room p1_size p1_over n_p1_words p1_words p2_symbols p2_most z.2.2.2.2.1 z.2.2.2.2.2.1 z.2.2.2.2.2.2.1 z.2.2.2.2.2.2.2.1 n_p2_lengths z.2.2.2.2.2.2.2.2.1 n_p2_codes z.2.2.2.2.2.2.2.2.2.1 n_p2_below z.2.2.2.2.2.2.2.2.2.2.1 z.2.2.2.2.2.2.2.2.2.2.2.1 n_p3_items z.2.2.2.2.2.2.2.2.2.2.2.2) [(0, .ref h_p0), (1, .ref h_p1), (2, .ref h_p2), (3, .ref h_p3), (6, .int z.1), (7, .int z.2.1)] 73 []) (fun rec ih z hz => w_X8_readPacked_73 S hK hA hend hWp (fun x6 x7 p0_at p0_place p2_nodes p2_inOrder p2_loaded p2_full p2_lengths p2_codes p2_below p3_size p3_items hh => ih (x6, x7, p0_at, p0_place, p2_nodes, p2_inOrder, p2_loaded, p2_full, p2_lengths, p2_codes, p2_below, p3_size, p3_items) hh)  z.1 z.2.1 z.2.2.1 z.2.2.2.1 z.2.2.2.2.1 z.2.2.2.2.2.1 z.2.2.2.2.2.2.1 z.2.2.2.2.2.2.2.1 z.2.2.2.2.2.2.2.2.1 z.2.2.2.2.2.2.2.2.2.1 z.2.2.2.2.2.2.2.2.2.2.1 z.2.2.2.2.2.2.2.2.2.2.2.1 z.2.2.2.2.2.2.2.2.2.2.2.2 hz) k (x6, x7, p0_at, p0_place, p2_nodes, p2_inOrder, p2_loaded, p2_full, p2_lengths, p2_codes, p2_below, p3_size, p3_items) h 
noncomputable def bf_X8_readPacked_0 (F : Nat) (p1_size : Int32) (n_p1_words : Nat) (p1_words : Nat → Int32) (p2_symbols : Int32) (p2_most : Int32) (n_p2_lengths : Nat) (n_p2_codes : Nat) (n_p2_below : Nat) (n_p3_items : Nat)  (p0_at : Int32) (p0_place : Int32) (p2_nodes : Int32) (p2_inOrder : Int32) (p2_loaded : Int32) (p2_full : Int32) (p2_lengths : Nat → Int32) (p2_codes : Nat → Int32) (p2_below : Nat → Int32) (p3_size : Int32) (p3_items : Nat → Int32) : Option (Int32 × Int32 × Int32 × Int32 × Int32 × Int32 × Int32 × (Nat → Int32) × (Nat → Int32) × (Nat → Int32) × Int32 × (Nat → Int32)) :=
  ((fn_X8_readTable F p1_size n_p1_words p1_words p2_symbols p2_most n_p2_lengths (0 : Int32) p0_place p2_inOrder p2_lengths).bind fun v8 => (if 0 ≤ v8.1 then ((fn_X10_forge F p2_symbols p2_most v8.2.2.2.1 n_p2_lengths v8.2.2.2.2 n_p2_codes n_p2_below p2_nodes p2_loaded p2_full p2_codes p2_below).bind fun v22 => ((fn_X8_readNumber F p1_size n_p1_words p1_words v8.2.1 v8.2.2.1 (10 : Int32)).bind fun v35 => (if 0 ≤ v35.1 then (if v35.1 ≤ (600 : Int32) then lf_X8_readPacked_73 F p1_size n_p1_words p1_words p2_symbols p2_most n_p2_lengths n_p2_codes n_p2_below n_p3_items F v35.1 (0 : Int32) v35.2.1 v35.2.2 v22.1 v8.2.2.2.1 v22.2.1 v22.2.2.1 v8.2.2.2.2 v22.2.2.2.1 v22.2.2.2.2 (0 : Int32) p3_items else ((fn_X8_fail F v35.2.2 (-9 : Int32) v8.2.1).bind fun v61 => some (v61.1, v35.2.1, v61.2, v22.1, v8.2.2.2.1, v22.2.1, v22.2.2.1, v8.2.2.2.2, v22.2.2.2.1, v22.2.2.2.2, p3_size, p3_items))) else some (v35.1, v35.2.1, v35.2.2, v22.1, v8.2.2.2.1, v22.2.1, v22.2.2.1, v8.2.2.2.2, v22.2.2.2.1, v22.2.2.2.2, p3_size, p3_items)))) else some (v8.1, v8.2.1, v8.2.2.1, p2_nodes, v8.2.2.2.1, p2_loaded, p2_full, v8.2.2.2.2, p2_codes, p2_below, p3_size, p3_items)))
set_option maxRecDepth 100000 in
set_option maxHeartbeats 4000000 in
theorem w_X8_readPacked_0 (S : CallFix p m c cX8_readPacked 9 s args wsX8_readPacked RX8) (hK : K_ D vwCl [(cI, .int), (cZ, .boolean)] s) (hA : ∀ q, s.heap.size ≤ q → A q) {F : Nat} {p1_room : Int32} {p1_size : Int32} {p1_over : Int32} {n_p1_words : Nat} {p1_words : Nat → Int32} {p2_symbols : Int32} {p2_most : Int32} {n_p2_lengths : Nat} {n_p2_codes : Nat} {n_p2_below : Nat} {n_p3_items : Nat} {h_p0 h_p1 h_p2 h_p3 h_p1_words h_p2_lengths h_p2_codes h_p2_below h_p3_items : Nat} {r : Int32 × Int32 × Int32 × Int32 × Int32 × Int32 × Int32 × (Nat → Int32) × (Nat → Int32) × (Nat → Int32) × Int32 × (Nat → Int32)} {Wp : va_W → Prop} (hend : ∀ (w1 : va_W) (pc : Nat) (lv : List (Nat × Value)), Wp w1 → decode cX8_readPacked pc = .ok (.ireturn, 1) → X_ p l e ({ frames := 5, cells := 0, slots := 0, locals := 113 } : Room) s m args below meth c Q D vwCl A 9 0 0 w1 lv pc [.int r.1]) (hWp : Wp (W_X8_X0_X10_X9 cI cZ h_p0 h_p1 h_p1_words h_p2 h_p2_lengths h_p2_codes h_p2_below h_p3 h_p3_items r.2.1 r.2.2.1 p1_room p1_size p1_over n_p1_words p1_words p2_symbols p2_most r.2.2.2.1 r.2.2.2.2.1 r.2.2.2.2.2.1 r.2.2.2.2.2.2.1 n_p2_lengths r.2.2.2.2.2.2.2.1 n_p2_codes r.2.2.2.2.2.2.2.2.1 n_p2_below r.2.2.2.2.2.2.2.2.2.1 r.2.2.2.2.2.2.2.2.2.2.1 n_p3_items r.2.2.2.2.2.2.2.2.2.2.2))   : ∀ (p0_at : Int32) (p0_place : Int32) (p2_nodes : Int32) (p2_inOrder : Int32) (p2_loaded : Int32) (p2_full : Int32) (p2_lengths : Nat → Int32) (p2_codes : Nat → Int32) (p2_below : Nat → Int32) (p3_size : Int32) (p3_items : Nat → Int32), bf_X8_readPacked_0 F p1_size n_p1_words p1_words p2_symbols p2_most n_p2_lengths n_p2_codes n_p2_below n_p3_items p0_at p0_place p2_nodes p2_inOrder p2_loaded p2_full p2_lengths p2_codes p2_below p3_size p3_items = some r → X_ p l e ({ frames := 5, cells := 0, slots := 0, locals := 113 } : Room) s m args below meth c Q D vwCl A 9 0 0 (W_X8_X0_X10_X9 cI cZ h_p0 h_p1 h_p1_words h_p2 h_p2_lengths h_p2_codes h_p2_below h_p3 h_p3_items p0_at p0_place p1_room p1_size p1_over n_p1_words p1_words p2_symbols p2_most p2_nodes p2_inOrder p2_loaded p2_full n_p2_lengths p2_lengths n_p2_codes p2_codes n_p2_below p2_below p3_size n_p3_items p3_items) [(0, .ref h_p0), (1, .ref h_p1), (2, .ref h_p2), (3, .ref h_p3)] 0 [] := by
  intro p0_at p0_place p2_nodes p2_inOrder p2_loaded p2_full p2_lengths p2_codes p2_below p3_size p3_items h
  unfold bf_X8_readPacked_0 at h
  refine x_aload_n S dX8_readPacked_0 rfl 0 rfl ?_
  refine x_iconst (v := 0) S dX8_readPacked_1 (by decide) ?_
  refine x_put (ty := .int) S hK i_X8_readPacked_X8 tyX8 tyX8_ok nmX8 0 rfl rfl 0 (by decide) k_X8_readPacked_15 rfl rfl (by decide +kernel) rfl rfl (Nat.le_of_ble_eq_true rfl) dX8_readPacked_2 rfl ?_
  refine x_aload_n S dX8_readPacked_5 rfl 0 rfl ?_
  refine x_aload_n S dX8_readPacked_6 rfl 1 rfl ?_
  refine x_aload_n S dX8_readPacked_7 rfl 2 rfl ?_
  obtain ⟨v8, h8, h⟩ := gbind h
  refine x_callVi S hK hA (c_X8_readTable l D cI cZ F h_p0 h_p1 h_p1_words h_p2 h_p2_lengths h_p2_codes h_p2_below (0 : Int32) p0_place p1_room p1_size p1_over n_p1_words p1_words p2_symbols p2_most p2_nodes p2_inOrder p2_loaded p2_full n_p2_lengths p2_lengths n_p2_codes p2_codes n_p2_below p2_below  v8 h8) (cwV 2 S.2.2.2.2 gX8_readPacked_X8_readTable rfl rfl rfl (by decide +kernel) ⟨(Nat.le_of_ble_eq_true rfl), (Nat.le_of_ble_eq_true rfl)⟩) [0, 1, 2, 3, 4, 5, 6] [7, 8] rfl (by decide) rfl (by decide) (by decide) 0 7 rfl rfl rfl (Nat.le_of_ble_eq_true rfl) rfl dX8_readPacked_8 ⟨(Nat.le_of_ble_eq_true rfl), (Nat.le_of_ble_eq_true rfl)⟩ (fun w1 hw1 => ?_)
  subst hw1
  refine x_ws (ws' := (W_X8_X0_X10_X9 cI cZ h_p0 h_p1 h_p1_words h_p2 h_p2_lengths h_p2_codes h_p2_below h_p3 h_p3_items v8.2.1 v8.2.2.1 p1_room p1_size p1_over n_p1_words p1_words p2_symbols p2_most p2_nodes v8.2.2.2.1 p2_loaded p2_full n_p2_lengths v8.2.2.2.2 n_p2_codes p2_codes n_p2_below p2_below p3_size n_p3_items p3_items)) [2, 3, 4, 5, 6, 7, 8, 0, 1] (by decide) (by rfl) ?_
  refine x_istore (lv' := [(4, .int v8.1), (0, .ref h_p0), (1, .ref h_p1), (2, .ref h_p2), (3, .ref h_p3)]) S dX8_readPacked_11 (by decide) rfl ?_
  refine x_iload S dX8_readPacked_13 0 rfl ?_
  refine x_if_ge S 21 dX8_readPacked_15 (by decide) h (fun h => ?_) (fun h => ?_)
  · refine x_aload_n S dX8_readPacked_21 rfl 3 rfl ?_
    obtain ⟨v22, h22, h⟩ := gbind h
    refine x_callVv S hK hA (c_X10_forge l D cI cZ F h_p2 h_p2_lengths h_p2_codes h_p2_below p2_symbols p2_most p2_nodes v8.2.2.2.1 p2_loaded p2_full n_p2_lengths v8.2.2.2.2 n_p2_codes p2_codes n_p2_below p2_below  v22 h22) (cwV 0 S.2.2.2.2 gX8_readPacked_X10_forge rfl rfl rfl (by decide +kernel) ⟨(Nat.le_of_ble_eq_true rfl), (Nat.le_of_ble_eq_true rfl)⟩) [3, 4, 5, 6] [0, 1, 2, 7, 8] rfl (by decide) rfl (by decide) (by decide) 0 9 rfl rfl rfl (Nat.le_of_ble_eq_true rfl) rfl dX8_readPacked_22 ⟨(Nat.le_of_ble_eq_true rfl), (Nat.le_of_ble_eq_true rfl)⟩ (fun w1 hw1 => ?_)
    subst hw1
    refine x_ws (ws' := (W_X8_X0_X10_X9 cI cZ h_p0 h_p1 h_p1_words h_p2 h_p2_lengths h_p2_codes h_p2_below h_p3 h_p3_items v8.2.1 v8.2.2.1 p1_room p1_size p1_over n_p1_words p1_words p2_symbols p2_most v22.1 v8.2.2.2.1 v22.2.1 v22.2.2.1 n_p2_lengths v8.2.2.2.2 n_p2_codes v22.2.2.2.1 n_p2_below v22.2.2.2.2 p3_size n_p3_items p3_items)) [0, 1, 2, 5, 6, 7, 8, 3, 4] (by decide) (by rfl) ?_
    refine x_aload_n S dX8_readPacked_25 rfl 1 rfl ?_
    refine x_get S hK i_X8_readPacked_X8 0 rfl rfl 0 (by decide) k_X8_readPacked_15 rfl rfl dX8_readPacked_26 ?_
    refine x_istore (lv' := [(5, .int v8.2.1), (4, .int v8.1), (0, .ref h_p0), (1, .ref h_p1), (2, .ref h_p2), (3, .ref h_p3)]) S dX8_readPacked_29 (by decide) rfl ?_
    refine x_aload_n S dX8_readPacked_31 rfl 2 rfl ?_
    refine x_aload_n S dX8_readPacked_32 rfl 3 rfl ?_
    refine x_bipush (v := 10) S dX8_readPacked_33 (by decide) ?_
    obtain ⟨v35, h35, h⟩ := gbind h
    refine x_callVi S hK hA (c_X8_readNumber l D cI cZ F h_p0 h_p1 h_p1_words v8.2.1 v8.2.2.1 p1_room p1_size p1_over n_p1_words p1_words (10 : Int32) v35 h35) (cwV 2 S.2.2.2.2 gX8_readPacked_X8_readNumber rfl rfl rfl (by decide +kernel) ⟨(Nat.le_of_ble_eq_true rfl), (Nat.le_of_ble_eq_true rfl)⟩) [0, 1, 2] [3, 4, 5, 6, 7, 8] rfl (by decide) rfl (by decide) (by decide) 0 7 rfl rfl rfl (Nat.le_of_ble_eq_true rfl) rfl dX8_readPacked_35 ⟨(Nat.le_of_ble_eq_true rfl), (Nat.le_of_ble_eq_true rfl)⟩ (fun w1 hw1 => ?_)
    subst hw1
    refine x_ws (ws' := (W_X8_X0_X10_X9 cI cZ h_p0 h_p1 h_p1_words h_p2 h_p2_lengths h_p2_codes h_p2_below h_p3 h_p3_items v35.2.1 v35.2.2 p1_room p1_size p1_over n_p1_words p1_words p2_symbols p2_most v22.1 v8.2.2.2.1 v22.2.1 v22.2.2.1 n_p2_lengths v8.2.2.2.2 n_p2_codes v22.2.2.2.1 n_p2_below v22.2.2.2.2 p3_size n_p3_items p3_items)) [6, 7, 8, 0, 1, 2, 3, 4, 5] (by decide) (by rfl) ?_
    refine x_istore (lv' := [(6, .int v35.1), (5, .int v8.2.1), (4, .int v8.1), (0, .ref h_p0), (1, .ref h_p1), (2, .ref h_p2), (3, .ref h_p3)]) S dX8_readPacked_38 (by decide) rfl ?_
    refine x_iload S dX8_readPacked_40 0 rfl ?_
    refine x_if_ge S 48 dX8_readPacked_42 (by decide) h (fun h => ?_) (fun h => ?_)
    · refine x_iload S dX8_readPacked_48 0 rfl ?_
      refine x_sipush (v := 600) S dX8_readPacked_50 (by decide) ?_
      refine x_icmp_le S 65 dX8_readPacked_53 (by decide) h (fun h => ?_) (fun h => ?_)
      · refine x_aload_n S dX8_readPacked_65 rfl 6 rfl ?_
        refine x_iconst (v := 0) S dX8_readPacked_66 (by decide) ?_
        refine x_putN (ty := .int) S hK i_X8_readPacked_X9 tyX9 tyX9_ok nmX9 7 rfl rfl 1 (by decide) nf_X8_18 rfl rfl (by decide +kernel) rfl rfl (Nat.le_of_ble_eq_true rfl) dX8_readPacked_67 rfl ?_
        refine x_iconst (v := 0) S dX8_readPacked_70 (by decide) ?_
        refine x_istore (lv' := [(7, .int (0 : Int32)), (6, .int v35.1), (5, .int v8.2.1), (4, .int v8.1), (0, .ref h_p0), (1, .ref h_p1), (2, .ref h_p2), (3, .ref h_p3)]) S dX8_readPacked_71 (by decide) rfl ?_
        refine x_lv [4, 5, 6, 7, 1, 0] (by rfl) ?_
        exact wl_X8_readPacked_73 S hK hA hend hWp  F v35.1 (0 : Int32) v35.2.1 v35.2.2 v22.1 v8.2.2.2.1 v22.2.1 v22.2.2.1 v8.2.2.2.2 v22.2.2.2.1 v22.2.2.2.2 (0 : Int32) p3_items h
      · refine x_aload_n S dX8_readPacked_56 rfl 3 rfl ?_
        refine x_bipush (v := -9) S dX8_readPacked_57 (by decide) ?_
        refine x_iload S dX8_readPacked_59 1 rfl ?_
        obtain ⟨v61, h61, h⟩ := gbind h
        refine x_callVi S hK hA (c_X8_fail l D cI cZ F h_p0 v35.2.1 v35.2.2 (-9 : Int32) v8.2.1 v61 h61) (cwV 2 S.2.2.2.2 gX8_readPacked_X8_fail rfl rfl rfl (by decide +kernel) ⟨(Nat.le_of_ble_eq_true rfl), (Nat.le_of_ble_eq_true rfl)⟩) [0] [1, 2, 3, 4, 5, 6, 7, 8] rfl (by decide) rfl (by decide) (by decide) 0 7 rfl rfl rfl (Nat.le_of_ble_eq_true rfl) rfl dX8_readPacked_61 ⟨(Nat.le_of_ble_eq_true rfl), (Nat.le_of_ble_eq_true rfl)⟩ (fun w1 hw1 => ?_)
        subst hw1
        refine x_ws (ws' := (W_X8_X0_X10_X9 cI cZ h_p0 h_p1 h_p1_words h_p2 h_p2_lengths h_p2_codes h_p2_below h_p3 h_p3_items v35.2.1 v61.2 p1_room p1_size p1_over n_p1_words p1_words p2_symbols p2_most v22.1 v8.2.2.2.1 v22.2.1 v22.2.2.1 n_p2_lengths v8.2.2.2.2 n_p2_codes v22.2.2.2.1 n_p2_below v22.2.2.2.2 p3_size n_p3_items p3_items)) [8, 0, 1, 2, 3, 4, 5, 6, 7] (by decide) (by rfl) ?_
        obtain rfl := Option.some.inj h
        exact hend _ _ _ hWp dX8_readPacked_64
    · refine x_iload S dX8_readPacked_45 0 rfl ?_
      obtain rfl := Option.some.inj h
      exact hend _ _ _ hWp dX8_readPacked_47
  · refine x_iload S dX8_readPacked_18 0 rfl ?_
    obtain rfl := Option.some.inj h
    exact hend _ _ _ hWp dX8_readPacked_20
noncomputable def fn_X8_readPacked (F : Nat) (p1_size : Int32) (n_p1_words : Nat) (p1_words : Nat → Int32) (p2_symbols : Int32) (p2_most : Int32) (n_p2_lengths : Nat) (n_p2_codes : Nat) (n_p2_below : Nat) (n_p3_items : Nat) (p0_at : Int32) (p0_place : Int32) (p2_nodes : Int32) (p2_inOrder : Int32) (p2_loaded : Int32) (p2_full : Int32) (p2_lengths : Nat → Int32) (p2_codes : Nat → Int32) (p2_below : Nat → Int32) (p3_size : Int32) (p3_items : Nat → Int32)  : Option (Int32 × Int32 × Int32 × Int32 × Int32 × Int32 × Int32 × (Nat → Int32) × (Nat → Int32) × (Nat → Int32) × Int32 × (Nat → Int32)) :=
  bf_X8_readPacked_0 F p1_size n_p1_words p1_words p2_symbols p2_most n_p2_lengths n_p2_codes n_p2_below n_p3_items p0_at p0_place p2_nodes p2_inOrder p2_loaded p2_full p2_lengths p2_codes p2_below p3_size p3_items
set_option maxRecDepth 100000 in
set_option maxHeartbeats 4000000 in
theorem c_X8_readPacked (l : Launch) (D : va_G) (cI cZ : ClassId) (F : Nat) (h_p0 h_p1 h_p1_words h_p2 h_p2_lengths h_p2_codes h_p2_below h_p3 h_p3_items : Nat) (p0_at : Int32) (p0_place : Int32) (p1_room : Int32) (p1_size : Int32) (p1_over : Int32) (n_p1_words : Nat) (p1_words : Nat → Int32) (p2_symbols : Int32) (p2_most : Int32) (p2_nodes : Int32) (p2_inOrder : Int32) (p2_loaded : Int32) (p2_full : Int32) (n_p2_lengths : Nat) (p2_lengths : Nat → Int32) (n_p2_codes : Nat) (p2_codes : Nat → Int32) (n_p2_below : Nat) (p2_below : Nat → Int32) (p3_size : Int32) (n_p3_items : Nat) (p3_items : Nat → Int32)  (r : Int32 × Int32 × Int32 × Int32 × Int32 × Int32 × Int32 × (Nat → Int32) × (Nat → Int32) × (Nat → Int32) × Int32 × (Nat → Int32)) (h : fn_X8_readPacked F p1_size n_p1_words p1_words p2_symbols p2_most n_p2_lengths n_p2_codes n_p2_below n_p3_items p0_at p0_place p2_nodes p2_inOrder p2_loaded p2_full p2_lengths p2_codes p2_below p3_size p3_items = some r) : Ci l yX8_readPacked wsX8_readPacked ({ frames := 5, cells := 0, slots := 0, locals := 113 } : Room) D vwCl [(cI, .int), (cZ, .boolean)] [.ref h_p0, .ref h_p1, .ref h_p2, .ref h_p3] (W_X8_X0_X10_X9 cI cZ h_p0 h_p1 h_p1_words h_p2 h_p2_lengths h_p2_codes h_p2_below h_p3 h_p3_items p0_at p0_place p1_room p1_size p1_over n_p1_words p1_words p2_symbols p2_most p2_nodes p2_inOrder p2_loaded p2_full n_p2_lengths p2_lengths n_p2_codes p2_codes n_p2_below p2_below p3_size n_p3_items p3_items) r.1 (fun w => w = (W_X8_X0_X10_X9 cI cZ h_p0 h_p1 h_p1_words h_p2 h_p2_lengths h_p2_codes h_p2_below h_p3 h_p3_items r.2.1 r.2.2.1 p1_room p1_size p1_over n_p1_words p1_words p2_symbols p2_most r.2.2.2.1 r.2.2.2.2.1 r.2.2.2.2.2.1 r.2.2.2.2.2.2.1 n_p2_lengths r.2.2.2.2.2.2.2.1 n_p2_codes r.2.2.2.2.2.2.2.2.1 n_p2_below r.2.2.2.2.2.2.2.2.2.1 r.2.2.2.2.2.2.2.2.2.2.1 n_p3_items r.2.2.2.2.2.2.2.2.2.2.2)) 0 0 :=
  Ci.ofi (by decide) rfl (Nat.le_of_ble_eq_true rfl) (fun p e s m args below meth c Q A S hK hA hname hend => w_X8_readPacked_0 S hK hA hend rfl p0_at p0_place p2_nodes p2_inOrder p2_loaded p2_full p2_lengths p2_codes p2_below p3_size p3_items h)
end
