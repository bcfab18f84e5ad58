/-! ===== PrefixSmith$Merging.isBefore(II)Z ===== -/
abbrev W_X4 (cI cZ : ClassId) (h_p0 h_p0_weight h_p0_above h_p0_depth h_p0_open : Nat) (p0_openNumber : Int32) (p0_leavesTaken : Int32) (p0_madeFront : Int32) (n_p0_weight : Nat) (p0_weight : Nat → Int32) (n_p0_above : Nat) (p0_above : Nat → Int32) (n_p0_depth : Nat) (p0_depth : Nat → Int32) (n_p0_open : Nat) (p0_open : Nat → Int32) : va_W := [(h_p0, .inr (4, [.ref h_p0_weight, .ref h_p0_above, .ref h_p0_depth, .ref h_p0_open, .int p0_openNumber, .int p0_leavesTaken, .int p0_madeFront])), (h_p0_weight, .inl (cI, n_p0_weight, .inl p0_weight)), (h_p0_above, .inl (cI, n_p0_above, .inl p0_above)), (h_p0_depth, .inl (cI, n_p0_depth, .inl p0_depth)), (h_p0_open, .inl (cI, n_p0_open, .inl p0_open))]
theorem i_X4_isBefore_X4 : ∀ w ∈ u_ws RX4 TX4 7, w ∈ wsX4_isBefore := by decide +kernel
theorem k_X4_isBefore_7 : Cond.fieldLink RX4 7 "PrefixSmith$Merging" "weight" "[I" ∈ wsX4_isBefore := by decide +kernel
section
variable {p : Program} {l : Launch} {e : Env} {s : State} {m : MethodId} {args : Array Value} {below : List Frame} {meth : Method} {c : Code} {Q : State → Prop} {D : va_G} {A : Nat → Prop} {cI cZ : ClassId}
noncomputable def bf_X4_isBefore_0 (F : Nat) (n_p0_weight : Nat) (p0_weight : Nat → Int32)  (x1 : Int32) (x2 : Int32) : Option (Int32) :=
  (if x1 < 0 ∨ n_p0_weight ≤ (x1).toNatClampNeg then none else (if x2 < 0 ∨ n_p0_weight ≤ (x2).toNatClampNeg then none else (if (p0_weight (x1).toNatClampNeg) < (p0_weight (x2).toNatClampNeg) then some ((1 : Int32)) else (if x1 < 0 ∨ n_p0_weight ≤ (x1).toNatClampNeg then none else (if x2 < 0 ∨ n_p0_weight ≤ (x2).toNatClampNeg then none else (if (p0_weight (x1).toNatClampNeg) = (p0_weight (x2).toNatClampNeg) then (if x1 ≤ x2 then some ((0 : Int32)) else some ((1 : Int32))) else some ((0 : Int32))))))))
set_option maxRecDepth 100000 in
set_option maxHeartbeats 4000000 in
theorem w_X4_isBefore_0 (S : CallFix p m c cX4_isBefore 3 s args wsX4_isBefore RX4) (hK : K_ D vwCl [(cI, .int), (cZ, .boolean)] s) (hA : ∀ q, s.heap.size ≤ q → A q) {F : Nat} {p0_openNumber : Int32} {p0_leavesTaken : Int32} {p0_madeFront : Int32} {n_p0_weight : Nat} {p0_weight : Nat → Int32} {n_p0_above : Nat} {p0_above : Nat → Int32} {n_p0_depth : Nat} {p0_depth : Nat → Int32} {n_p0_open : Nat} {p0_open : Nat → Int32} {h_p0 h_p0_weight h_p0_above h_p0_depth h_p0_open : Nat} {r : Int32} {Wp : va_W → Prop} (hend : ∀ (w1 : va_W) (pc : Nat) (lv : List (Nat × Value)), Wp w1 → narrow .boolean (.int r) = .int r → decode cX4_isBefore pc = .ok (.ireturn, 1) → X_ p l e ({ frames := 0, cells := 0, slots := 0, locals := 0 } : Room) s m args below meth c Q D vwCl A 3 0 0 w1 lv pc [.int r]) (hWp : Wp (W_X4 cI cZ h_p0 h_p0_weight h_p0_above h_p0_depth h_p0_open p0_openNumber p0_leavesTaken p0_madeFront n_p0_weight p0_weight n_p0_above p0_above n_p0_depth p0_depth n_p0_open p0_open))   : ∀ (x1 : Int32) (x2 : Int32), bf_X4_isBefore_0 F n_p0_weight p0_weight x1 x2 = some r → X_ p l e ({ frames := 0, cells := 0, slots := 0, locals := 0 } : Room) s m args below meth c Q D vwCl A 3 0 0 (W_X4 cI cZ h_p0 h_p0_weight h_p0_above h_p0_depth h_p0_open p0_openNumber p0_leavesTaken p0_madeFront n_p0_weight p0_weight n_p0_above p0_above n_p0_depth p0_depth n_p0_open p0_open) [(0, .ref h_p0), (1, .int x1), (2, .int x2)] 0 [] := by
  intro x1 x2 h
  unfold bf_X4_isBefore_0 at h
  refine x_aload_n S dX4_isBefore_0 rfl 0 rfl ?_
  refine x_get S hK i_X4_isBefore_X4 0 rfl rfl 0 (by decide) k_X4_isBefore_7 rfl rfl dX4_isBefore_1 ?_
  refine x_iload_n S dX4_isBefore_4 rfl 1 rfl ?_
  refine x_iald S hK 1 0 rfl rfl dX4_isBefore_5 h (fun h => ?_)
  refine x_aload_n S dX4_isBefore_6 rfl 0 rfl ?_
  refine x_get S hK i_X4_isBefore_X4 0 rfl rfl 0 (by decide) k_X4_isBefore_7 rfl rfl dX4_isBefore_7 ?_
  refine x_iload_n S dX4_isBefore_10 rfl 2 rfl ?_
  refine x_iald S hK 1 0 rfl rfl dX4_isBefore_11 h (fun h => ?_)
  refine x_icmp_lt S 35 dX4_isBefore_12 (by decide) h (fun h => ?_) (fun h => ?_)
  · refine x_iconst (v := 1) S dX4_isBefore_35 (by decide) ?_
    refine x_goto S 40 dX4_isBefore_36 (by decide) ?_
    obtain rfl := Option.some.inj h
    exact hend _ _ _ hWp (by decide) dX4_isBefore_40
  · refine x_aload_n S dX4_isBefore_15 rfl 0 rfl ?_
    refine x_get S hK i_X4_isBefore_X4 0 rfl rfl 0 (by decide) k_X4_isBefore_7 rfl rfl dX4_isBefore_16 ?_
    refine x_iload_n S dX4_isBefore_19 rfl 1 rfl ?_
    refine x_iald S hK 1 0 rfl rfl dX4_isBefore_20 h (fun h => ?_)
    refine x_aload_n S dX4_isBefore_21 rfl 0 rfl ?_
    refine x_get S hK i_X4_isBefore_X4 0 rfl rfl 0 (by decide) k_X4_isBefore_7 rfl rfl dX4_isBefore_22 ?_
    refine x_iload_n S dX4_isBefore_25 rfl 2 rfl ?_
    refine x_iald S hK 1 0 rfl rfl dX4_isBefore_26 h (fun h => ?_)
    refine x_icmp_ne S 39 dX4_isBefore_27 (by decide) h (fun h => ?_) (fun h => ?_)
    · refine x_iconst (v := 0) S dX4_isBefore_39 (by decide) ?_
      obtain rfl := Option.some.inj h
      exact hend _ _ _ hWp (by decide) dX4_isBefore_40
    · refine x_iload_n S dX4_isBefore_30 rfl 1 rfl ?_
      refine x_iload_n S dX4_isBefore_31 rfl 2 rfl ?_
      refine x_icmp_le S 39 dX4_isBefore_32 (by decide) h (fun h => ?_) (fun h => ?_)
      · refine x_iconst (v := 0) S dX4_isBefore_39 (by decide) ?_
        obtain rfl := Option.some.inj h
        exact hend _ _ _ hWp (by decide) dX4_isBefore_40
      · refine x_iconst (v := 1) S dX4_isBefore_35 (by decide) ?_
        refine x_goto S 40 dX4_isBefore_36 (by decide) ?_
        obtain rfl := Option.some.inj h
        exact hend _ _ _ hWp (by decide) dX4_isBefore_40
noncomputable def fn_X4_isBefore (F : Nat) (n_p0_weight : Nat) (p0_weight : Nat → Int32) (x1 : Int32) (x2 : Int32) : Option (Int32) :=
  bf_X4_isBefore_0 F n_p0_weight p0_weight x1 x2
set_option maxRecDepth 100000 in
set_option maxHeartbeats 4000000 in
theorem c_X4_isBefore (l : Launch) (D : va_G) (cI cZ : ClassId) (F : Nat) (h_p0 h_p0_weight h_p0_above h_p0_depth h_p0_open : Nat) (p0_openNumber : Int32) (p0_leavesTaken : Int32) (p0_madeFront : Int32) (n_p0_weight : Nat) (p0_weight : Nat → Int32) (n_p0_above : Nat) (p0_above : Nat → Int32) (n_p0_depth : Nat) (p0_depth : Nat → Int32) (n_p0_open : Nat) (p0_open : Nat → Int32) (x1 : Int32) (x2 : Int32) (r : Int32) (h : fn_X4_isBefore F n_p0_weight p0_weight x1 x2 = some r) : Ci l yX4_isBefore wsX4_isBefore ({ frames := 0, cells := 0, slots := 0, locals := 0 } : Room) D vwCl [(cI, .int), (cZ, .boolean)] [.ref h_p0, .int x1, .int x2] (W_X4 cI cZ h_p0 h_p0_weight h_p0_above h_p0_depth h_p0_open p0_openNumber p0_leavesTaken p0_madeFront n_p0_weight p0_weight n_p0_above p0_above n_p0_depth p0_depth n_p0_open p0_open) r (fun w => w = (W_X4 cI cZ h_p0 h_p0_weight h_p0_above h_p0_depth h_p0_open p0_openNumber p0_leavesTaken p0_madeFront n_p0_weight p0_weight n_p0_above p0_above n_p0_depth p0_depth n_p0_open p0_open)) 0 0 :=
  Ci.ofz (by decide) rfl (Nat.le_of_ble_eq_true rfl) (fun p e s m args below meth c Q A S hK hA hname hend => w_X4_isBefore_0 S hK hA hend rfl x1 x2 h)
end

/-! ===== PrefixSmith$Merging.takeLeast()I ===== -/
theorem i_X4_takeLeast_X4 : ∀ w ∈ u_ws RX4 TX4 7, w ∈ wsX4_takeLeast := by decide +kernel
theorem k_X4_takeLeast_35 : Cond.fieldLink RX4 35 "PrefixSmith$Merging" "openNumber" "I" ∈ wsX4_takeLeast := by decide +kernel
theorem k_X4_takeLeast_19 : Cond.fieldLink RX4 19 "PrefixSmith$Merging" "open" "[I" ∈ wsX4_takeLeast := by decide +kernel
section
variable {p : Program} {l : Launch} {e : Env} {s : State} {m : MethodId} {args : Array Value} {below : List Frame} {meth : Method} {c : Code} {Q : State → Prop} {D : va_G} {A : Nat → Prop} {cI cZ : ClassId}
noncomputable def bf_X4_takeLeast_4 (F : Nat) (n_p0_weight : Nat) (p0_weight : Nat → Int32) (n_p0_open : Nat) (rec4 : Int32 → Int32 → Int32 → (Nat → Int32) → Option (Int32 × Int32 × (Nat → Int32))) (x1 : Int32) (x2 : Int32) (p0_openNumber : Int32) (p0_open : Nat → Int32) : Option (Int32 × Int32 × (Nat → Int32)) :=
  (if p0_openNumber ≤ x2 then (if x1 < 0 ∨ n_p0_open ≤ (x1).toNatClampNeg then none else (if (p0_openNumber - (1 : Int32)) < 0 ∨ n_p0_open ≤ ((p0_openNumber - (1 : Int32))).toNatClampNeg then none else (if x1 < 0 ∨ n_p0_open ≤ (x1).toNatClampNeg then none else some (p0_open (x1).toNatClampNeg, p0_openNumber - (1 : Int32), upd p0_open (x1).toNatClampNeg (p0_open ((p0_openNumber - (1 : Int32))).toNatClampNeg))))) else (if x2 < 0 ∨ n_p0_open ≤ (x2).toNatClampNeg then none else (if x1 < 0 ∨ n_p0_open ≤ (x1).toNatClampNeg then none else ((fn_X4_isBefore F n_p0_weight p0_weight (p0_open (x2).toNatClampNeg) (p0_open (x1).toNatClampNeg)).bind fun v25 => (if v25 = 0 then rec4 x1 (x2 + (1 : Int32)) p0_openNumber p0_open else rec4 x2 (x2 + (1 : Int32)) p0_openNumber p0_open)))))
set_option maxRecDepth 100000 in
set_option maxHeartbeats 4000000 in
theorem w_X4_takeLeast_4 (S : CallFix p m c cX4_takeLeast 3 s args wsX4_takeLeast RX4) (hK : K_ D vwCl [(cI, .int), (cZ, .boolean)] s) (hA : ∀ q, s.heap.size ≤ q → A q) {F : Nat} {p0_leavesTaken : Int32} {p0_madeFront : Int32} {n_p0_weight : Nat} {p0_weight : Nat → Int32} {n_p0_above : Nat} {p0_above : Nat → Int32} {n_p0_depth : Nat} {p0_depth : Nat → Int32} {n_p0_open : Nat} {h_p0 h_p0_weight h_p0_above h_p0_depth h_p0_open : Nat} {r : Int32 × Int32 × (Nat → Int32)} {Wp : va_W → Prop} (hend : ∀ (w1 : va_W) (pc : Nat) (lv : List (Nat × Value)), Wp w1 → decode cX4_takeLeast pc = .ok (.ireturn, 1) → X_ p l e ({ frames := 1, cells := 0, slots := 0, locals := 22 } : Room) s m args below meth c Q D vwCl A 3 0 0 w1 lv pc [.int r.1]) (hWp : Wp (W_X4 cI cZ h_p0 h_p0_weight h_p0_above h_p0_depth h_p0_open r.2.1 p0_leavesTaken p0_madeFront n_p0_weight p0_weight n_p0_above p0_above n_p0_depth p0_depth n_p0_open r.2.2)) {rec4 : Int32 → Int32 → Int32 → (Nat → Int32) → Option (Int32 × Int32 × (Nat → Int32))} (hrec4 : ∀ (x1 : Int32) (x2 : Int32) (p0_openNumber : Int32) (p0_open : Nat → Int32), rec4 x1 x2 p0_openNumber p0_open = some r → X_ p l e ({ frames := 1, cells := 0, slots := 0, locals := 22 } : Room) s m args below meth c Q D vwCl A 3 0 0 (W_X4 cI cZ h_p0 h_p0_weight h_p0_above h_p0_depth h_p0_open p0_openNumber p0_leavesTaken p0_madeFront n_p0_weight p0_weight n_p0_above p0_above n_p0_depth p0_depth n_p0_open p0_open) [(0, .ref h_p0), (1, .int x1), (2, .int x2)] 4 []) : ∀ (x1 : Int32) (x2 : Int32) (p0_openNumber : Int32) (p0_open : Nat → Int32), bf_X4_takeLeast_4 F n_p0_weight p0_weight n_p0_open rec4 x1 x2 p0_openNumber p0_open = some r → X_ p l e ({ frames := 1, cells := 0, slots := 0, locals := 22 } : Room) s m args below meth c Q D vwCl A 3 0 0 (W_X4 cI cZ h_p0 h_p0_weight h_p0_above h_p0_depth h_p0_open p0_openNumber p0_leavesTaken p0_madeFront n_p0_weight p0_weight n_p0_above p0_above n_p0_depth p0_depth n_p0_open p0_open) [(0, .ref h_p0), (1, .int x1), (2, .int x2)] 4 [] := by
  intro x1 x2 p0_openNumber p0_open h
  unfold bf_X4_takeLeast_4 at h
  refine x_iload_n S dX4_takeLeast_4 rfl 2 rfl ?_
  refine x_aload_n S dX4_takeLeast_5 rfl 0 rfl ?_
  refine x_get S hK i_X4_takeLeast_X4 0 rfl rfl 4 (by decide) k_X4_takeLeast_35 rfl rfl dX4_takeLeast_6 ?_
  refine x_icmp_ge S 39 dX4_takeLeast_9 (by decide) h (fun h => ?_) (fun h => ?_)
  · refine x_aload_n S dX4_takeLeast_39 rfl 0 rfl ?_
    refine x_get S hK i_X4_takeLeast_X4 0 rfl rfl 3 (by decide) k_X4_takeLeast_19 rfl rfl dX4_takeLeast_40 ?_
    refine x_iload_n S dX4_takeLeast_43 rfl 1 rfl ?_
    refine x_iald S hK 4 0 rfl rfl dX4_takeLeast_44 h (fun h => ?_)
    refine x_istore_n (lv' := [(2, .int (p0_open (x1).toNatClampNeg)), (0, .ref h_p0), (1, .int x1)]) S dX4_takeLeast_45 rfl (by decide) rfl ?_
    refine x_aload_n S dX4_takeLeast_46 rfl 1 rfl ?_
    refine x_dup S dX4_takeLeast_47 rfl ?_
    refine x_get S hK i_X4_takeLeast_X4 0 rfl rfl 4 (by decide) k_X4_takeLeast_35 rfl rfl dX4_takeLeast_48 ?_
    refine x_iconst (v := 1) S dX4_takeLeast_51 (by decide) ?_
    refine x_isub S dX4_takeLeast_52 ?_
    refine x_put (ty := .int) S hK i_X4_takeLeast_X4 tyX4 tyX4_ok nmX4 0 rfl rfl 4 (by decide) k_X4_takeLeast_35 rfl rfl (by decide +kernel) rfl rfl (Nat.le_of_ble_eq_true rfl) dX4_takeLeast_53 rfl ?_
    refine x_aload_n S dX4_takeLeast_56 rfl 1 rfl ?_
    refine x_get S hK i_X4_takeLeast_X4 0 rfl rfl 3 (by decide) k_X4_takeLeast_19 rfl rfl dX4_takeLeast_57 ?_
    refine x_iload_n S dX4_takeLeast_60 rfl 2 rfl ?_
    refine x_aload_n S dX4_takeLeast_61 rfl 1 rfl ?_
    refine x_get S hK i_X4_takeLeast_X4 0 rfl rfl 3 (by decide) k_X4_takeLeast_19 rfl rfl dX4_takeLeast_62 ?_
    refine x_aload_n S dX4_takeLeast_65 rfl 1 rfl ?_
    refine x_get S hK i_X4_takeLeast_X4 0 rfl rfl 4 (by decide) k_X4_takeLeast_35 rfl rfl dX4_takeLeast_66 ?_
    refine x_iald S hK 4 0 rfl rfl dX4_takeLeast_69 h (fun h => ?_)
    refine x_iast S hK 4 0 rfl rfl dX4_takeLeast_70 h rfl (fun h => ?_)
    refine x_iload_n S dX4_takeLeast_71 rfl 0 rfl ?_
    obtain rfl := Option.some.inj h
    exact hend _ _ _ hWp dX4_takeLeast_72
  · refine x_aload_n S dX4_takeLeast_12 rfl 0 rfl ?_
    refine x_aload_n S dX4_takeLeast_13 rfl 0 rfl ?_
    refine x_get S hK i_X4_takeLeast_X4 0 rfl rfl 3 (by decide) k_X4_takeLeast_19 rfl rfl dX4_takeLeast_14 ?_
    refine x_iload_n S dX4_takeLeast_17 rfl 2 rfl ?_
    refine x_iald S hK 4 0 rfl rfl dX4_takeLeast_18 h (fun h => ?_)
    refine x_aload_n S dX4_takeLeast_19 rfl 0 rfl ?_
    refine x_get S hK i_X4_takeLeast_X4 0 rfl rfl 3 (by decide) k_X4_takeLeast_19 rfl rfl dX4_takeLeast_20 ?_
    refine x_iload_n S dX4_takeLeast_23 rfl 1 rfl ?_
    refine x_iald S hK 4 0 rfl rfl dX4_takeLeast_24 h (fun h => ?_)
    obtain ⟨v25, h25, h⟩ := gbind h
    refine x_callVi S hK hA (c_X4_isBefore l D cI cZ F h_p0 h_p0_weight h_p0_above h_p0_depth h_p0_open p0_openNumber p0_leavesTaken p0_madeFront n_p0_weight p0_weight n_p0_above p0_above n_p0_depth p0_depth n_p0_open p0_open (p0_open (x2).toNatClampNeg) (p0_open (x1).toNatClampNeg) v25 h25) (cwV 2 S.2.2.2.2 gX4_takeLeast_X4_isBefore rfl rfl rfl (by decide +kernel) ⟨(Nat.le_of_ble_eq_true rfl), (Nat.le_of_ble_eq_true rfl)⟩) [0, 1, 2, 3, 4] [] rfl (by decide) rfl (by decide) (by decide) 0 4 rfl rfl rfl (Nat.le_of_ble_eq_true rfl) rfl dX4_takeLeast_25 ⟨(Nat.le_of_ble_eq_true rfl), (Nat.le_of_ble_eq_true rfl)⟩ (fun w1 hw1 => ?_)
    subst hw1
    refine x_ws (ws' := (W_X4 cI cZ h_p0 h_p0_weight h_p0_above h_p0_depth h_p0_open p0_openNumber p0_leavesTaken p0_madeFront n_p0_weight p0_weight n_p0_above p0_above n_p0_depth p0_depth n_p0_open p0_open)) [0, 1, 2, 3, 4] (by decide) (by rfl) ?_
    refine x_if_eq S 33 dX4_takeLeast_28 (by decide) h (fun h => ?_) (fun h => ?_)
    · refine x_iinc (v := x2 + (1 : Int32)) (lv' := [(2, .int (x2 + (1 : Int32))), (0, .ref h_p0), (1, .int x1)]) S dX4_takeLeast_33 2 rfl rfl (by decide) rfl ?_
      refine x_goto S 4 dX4_takeLeast_36 (by decide) ?_
      refine x_lv [1, 2, 0] (by rfl) ?_
      exact hrec4 x1 (x2 + (1 : Int32)) p0_openNumber p0_open h
    · refine x_iload_n S dX4_takeLeast_31 rfl 2 rfl ?_
      refine x_istore_n (lv' := [(1, .int x2), (0, .ref h_p0), (2, .int x2)]) S dX4_takeLeast_32 rfl (by decide) rfl ?_
      refine x_iinc (v := x2 + (1 : Int32)) (lv' := [(2, .int (x2 + (1 : Int32))), (1, .int x2), (0, .ref h_p0)]) S dX4_takeLeast_33 2 rfl rfl (by decide) rfl ?_
      refine x_goto S 4 dX4_takeLeast_36 (by decide) ?_
      refine x_lv [2, 1, 0] (by rfl) ?_
      exact hrec4 x2 (x2 + (1 : Int32)) p0_openNumber p0_open h
noncomputable def lf_X4_takeLeast_4 (F : Nat) (n_p0_weight : Nat) (p0_weight : Nat → Int32) (n_p0_open : Nat)  (k : Nat) (x1 : Int32) (x2 : Int32) (p0_openNumber : Int32) (p0_open : Nat → Int32) : Option (Int32 × Int32 × (Nat → Int32)) :=
  lp (fun (rec : Int32 × Int32 × Int32 × (Nat → Int32) → Option (Int32 × Int32 × (Nat → Int32))) (z : Int32 × Int32 × Int32 × (Nat → Int32)) => bf_X4_takeLeast_4 F n_p0_weight p0_weight n_p0_open (fun x1 x2 p0_openNumber p0_open => rec (x1, x2, p0_openNumber, p0_open)) z.1 z.2.1 z.2.2.1 z.2.2.2) k (x1, x2, p0_openNumber, p0_open)
set_option maxRecDepth 100000 in
set_option maxHeartbeats 4000000 in
theorem wl_X4_takeLeast_4 (S : CallFix p m c cX4_takeLeast 3 s args wsX4_takeLeast RX4) (hK : K_ D vwCl [(cI, .int), (cZ, .boolean)] s) (hA : ∀ q, s.heap.size ≤ q → A q) {F : Nat} {p0_leavesTaken : Int32} {p0_madeFront : Int32} {n_p0_weight : Nat} {p0_weight : Nat → Int32} {n_p0_above : Nat} {p0_above : Nat → Int32} {n_p0_depth : Nat} {p0_depth : Nat → Int32} {n_p0_open : Nat} {h_p0 h_p0_weight h_p0_above h_p0_depth h_p0_open : Nat} {r : Int32 × Int32 × (Nat → Int32)} {Wp : va_W → Prop} (hend : ∀ (w1 : va_W) (pc : Nat) (lv : List (Nat × Value)), Wp w1 → decode cX4_takeLeast pc = .ok (.ireturn, 1) → X_ p l e ({ frames := 1, cells := 0, slots := 0, locals := 22 } : Room) s m args below meth c Q D vwCl A 3 0 0 w1 lv pc [.int r.1]) (hWp : Wp (W_X4 cI cZ h_p0 h_p0_weight h_p0_above h_p0_depth h_p0_open r.2.1 p0_leavesTaken p0_madeFront n_p0_weight p0_weight n_p0_above p0_above n_p0_depth p0_depth n_p0_open r.2.2))   (k : Nat) : ∀ (x1 : Int32) (x2 : Int32) (p0_openNumber : Int32) (p0_open : Nat → Int32), lf_X4_takeLeast_4 F n_p0_weight p0_weight n_p0_open k x1 x2 p0_openNumber p0_open = some r → X_ p l e ({ frames := 1, cells := 0, slots := 0, locals := 22 } : Room) s m args below meth c Q D vwCl A 3 0 0 (W_X4 cI cZ h_p0 h_p0_weight h_p0_above h_p0_depth h_p0_open p0_openNumber p0_leavesTaken p0_madeFront n_p0_weight p0_weight n_p0_above p0_above n_p0_depth p0_depth n_p0_open p0_open) [(0, .ref h_p0), (1, .int x1), (2, .int x2)] 4 [] := by
  intro x1 x2 p0_openNumber p0_open h
  exact lp_W (P := fun z => X_ p l e ({ frames := 1, cells := 0, slots := 0, locals := 22 } : Room) s m args below meth c Q D vwCl A 3 0 0 (W_X4 cI cZ h_p0 h_p0_weight h_p0_above h_p0_depth h_p0_open z.2.2.1 p0_leavesTaken p0_madeFront n_p0_weight p0_weight n_p0_above p0_above n_p0_depth p0_depth n_p0_open z.2.2.2) [(0, .ref h_p0), (1, .int z.1), (2, .int z.2.1)] 4 []) (fun rec ih z hz => w_X4_takeLeast_4 S hK hA hend hWp (fun x1 x2 p0_openNumber p0_open hh => ih (x1, x2, p0_openNumber, p0_open) hh)  z.1 z.2.1 z.2.2.1 z.2.2.2 hz) k (x1, x2, p0_openNumber, p0_open) h 
noncomputable def bf_X4_takeLeast_0 (F : Nat) (n_p0_weight : Nat) (p0_weight : Nat → Int32) (n_p0_open : Nat)  (p0_openNumber : Int32) (p0_open : Nat → Int32) : Option (Int32 × Int32 × (Nat → Int32)) :=
  lf_X4_takeLeast_4 F n_p0_weight p0_weight n_p0_open F (0 : Int32) (1 : Int32) p0_openNumber p0_open
set_option maxRecDepth 100000 in
set_option maxHeartbeats 4000000 in
theorem w_X4_takeLeast_0 (S : CallFix p m c cX4_takeLeast 3 s args wsX4_takeLeast RX4) (hK : K_ D vwCl [(cI, .int), (cZ, .boolean)] s) (hA : ∀ q, s.heap.size ≤ q → A q) {F : Nat} {p0_leavesTaken : Int32} {p0_madeFront : Int32} {n_p0_weight : Nat} {p0_weight : Nat → Int32} {n_p0_above : Nat} {p0_above : Nat → Int32} {n_p0_depth : Nat} {p0_depth : Nat → Int32} {n_p0_open : Nat} {h_p0 h_p0_weight h_p0_above h_p0_depth h_p0_open : Nat} {r : Int32 × Int32 × (Nat → Int32)} {Wp : va_W → Prop} (hend : ∀ (w1 : va_W) (pc : Nat) (lv : List (Nat × Value)), Wp w1 → decode cX4_takeLeast pc = .ok (.ireturn, 1) → X_ p l e ({ frames := 1, cells := 0, slots := 0, locals := 22 } : Room) s m args below meth c Q D vwCl A 3 0 0 w1 lv pc [.int r.1]) (hWp : Wp (W_X4 cI cZ h_p0 h_p0_weight h_p0_above h_p0_depth h_p0_open r.2.1 p0_leavesTaken p0_madeFront n_p0_weight p0_weight n_p0_above p0_above n_p0_depth p0_depth n_p0_open r.2.2))   : ∀ (p0_openNumber : Int32) (p0_open : Nat → Int32), bf_X4_takeLeast_0 F n_p0_weight p0_weight n_p0_open p0_openNumber p0_open = some r → X_ p l e ({ frames := 1, cells := 0, slots := 0, locals := 22 } : Room) s m args below meth c Q D vwCl A 3 0 0 (W_X4 cI cZ h_p0 h_p0_weight h_p0_above h_p0_depth h_p0_open p0_openNumber p0_leavesTaken p0_madeFront n_p0_weight p0_weight n_p0_above p0_above n_p0_depth p0_depth n_p0_open p0_open) [(0, .ref h_p0)] 0 [] := by
  intro p0_openNumber p0_open h
  unfold bf_X4_takeLeast_0 at h
  refine x_iconst (v := 0) S dX4_takeLeast_0 (by decide) ?_
  refine x_istore_n (lv' := [(1, .int (0 : Int32)), (0, .ref h_p0)]) S dX4_takeLeast_1 rfl (by decide) rfl ?_
  refine x_iconst (v := 1) S dX4_takeLeast_2 (by decide) ?_
  refine x_istore_n (lv' := [(2, .int (1 : Int32)), (1, .int (0 : Int32)), (0, .ref h_p0)]) S dX4_takeLeast_3 rfl (by decide) rfl ?_
  refine x_lv [2, 1, 0] (by rfl) ?_
  exact wl_X4_takeLeast_4 S hK hA hend hWp  F (0 : Int32) (1 : Int32) p0_openNumber p0_open h
noncomputable def fn_X4_takeLeast (F : Nat) (n_p0_weight : Nat) (p0_weight : Nat → Int32) (n_p0_open : Nat) (p0_openNumber : Int32) (p0_open : Nat → Int32)  : Option (Int32 × Int32 × (Nat → Int32)) :=
  bf_X4_takeLeast_0 F n_p0_weight p0_weight n_p0_open p0_openNumber p0_open
set_option maxRecDepth 100000 in
set_option maxHeartbeats 4000000 in
theorem c_X4_takeLeast (l : Launch) (D : va_G) (cI cZ : ClassId) (F : Nat) (h_p0 h_p0_weight h_p0_above h_p0_depth h_p0_open : Nat) (p0_openNumber : Int32) (p0_leavesTaken : Int32) (p0_madeFront : Int32) (n_p0_weight : Nat) (p0_weight : Nat → Int32) (n_p0_above : Nat) (p0_above : Nat → Int32) (n_p0_depth : Nat) (p0_depth : Nat → Int32) (n_p0_open : Nat) (p0_open : Nat → Int32)  (r : Int32 × Int32 × (Nat → Int32)) (h : fn_X4_takeLeast F n_p0_weight p0_weight n_p0_open p0_openNumber p0_open = some r) : Ci l yX4_takeLeast wsX4_takeLeast ({ frames := 1, cells := 0, slots := 0, locals := 22 } : Room) D vwCl [(cI, .int), (cZ, .boolean)] [.ref h_p0] (W_X4 cI cZ h_p0 h_p0_weight h_p0_above h_p0_depth h_p0_open p0_openNumber p0_leavesTaken p0_madeFront n_p0_weight p0_weight n_p0_above p0_above n_p0_depth p0_depth n_p0_open p0_open) r.1 (fun w => w = (W_X4 cI cZ h_p0 h_p0_weight h_p0_above h_p0_depth h_p0_open r.2.1 p0_leavesTaken p0_madeFront n_p0_weight p0_weight n_p0_above p0_above n_p0_depth p0_depth n_p0_open r.2.2)) 0 0 :=
  Ci.ofi (by decide) rfl (Nat.le_of_ble_eq_true rfl) (fun p e s m args below meth c Q A S hK hA hname hend => w_X4_takeLeast_0 S hK hA hend rfl p0_openNumber p0_open h)
end

/-! ===== PrefixSmith$Merging.takeFront(LPrefixSmith$Leaves;I)I ===== -/
abbrev W_X4_X3 (cI cZ : ClassId) (h_p0 h_p0_weight h_p0_above h_p0_depth h_p0_open h_p1 h_p1_symbol h_p1_weight h_p1_depth h_p1_line : Nat) (p0_openNumber : Int32) (p0_leavesTaken : Int32) (p0_madeFront : Int32) (n_p0_weight : Nat) (p0_weight : Nat → Int32) (n_p0_above : Nat) (p0_above : Nat → Int32) (n_p0_depth : Nat) (p0_depth : Nat → Int32) (n_p0_open : Nat) (p0_open : Nat → Int32) (p1_size : Int32) (n_p1_symbol : Nat) (p1_symbol : Nat → Int32) (n_p1_weight : Nat) (p1_weight : Nat → Int32) (n_p1_depth : Nat) (p1_depth : Nat → Int32) (n_p1_line : Nat) (p1_line : Nat → Int32) : va_W := [(h_p0, .inr (4, [.ref h_p0_weight, .ref h_p0_above, .ref h_p0_depth, .ref h_p0_open, .int p0_openNumber, .int p0_leavesTaken, .int p0_madeFront])), (h_p0_weight, .inl (cI, n_p0_weight, .inl p0_weight)), (h_p0_above, .inl (cI, n_p0_above, .inl p0_above)), (h_p0_depth, .inl (cI, n_p0_depth, .inl p0_depth)), (h_p0_open, .inl (cI, n_p0_open, .inl p0_open)), (h_p1, .inr (3, [.ref h_p1_symbol, .ref h_p1_weight, .ref h_p1_depth, .ref h_p1_line, .int p1_size])), (h_p1_symbol, .inl (cI, n_p1_symbol, .inl p1_symbol)), (h_p1_weight, .inl (cI, n_p1_weight, .inl p1_weight)), (h_p1_depth, .inl (cI, n_p1_depth, .inl p1_depth)), (h_p1_line, .inl (cI, n_p1_line, .inl p1_line))]
theorem i_X4_takeFront_X4 : ∀ w ∈ u_ws RX4 TX4 7, w ∈ wsX4_takeFront := by decide +kernel
theorem k_X4_takeFront_57 : Cond.fieldLink RX4 57 "PrefixSmith$Merging" "leavesTaken" "I" ∈ wsX4_takeFront := by decide +kernel
theorem i_X4_takeFront_X3 : ∀ w ∈ u_ws RX3 TX3 5, w ∈ wsX4_takeFront := by decide +kernel
theorem k_X4_takeFront_60 : Cond.fieldLink RX4 60 "PrefixSmith$Merging" "madeFront" "I" ∈ wsX4_takeFront := by decide +kernel
theorem k_X4_takeFront_7 : Cond.fieldLink RX4 7 "PrefixSmith$Merging" "weight" "[I" ∈ wsX4_takeFront := by decide +kernel
section
variable {p : Program} {l : Launch} {e : Env} {s : State} {m : MethodId} {args : Array Value} {below : List Frame} {meth : Method} {c : Code} {Q : State → Prop} {D : va_G} {A : Nat → Prop} {cI cZ : ClassId}
noncomputable def bf_X4_takeFront_50 (F : Nat) (n_p0_weight : Nat) (p0_weight : Nat → Int32) (p1_size : Int32) (n_p1_line : Nat) (p1_line : Nat → Int32)  (s0 : Int32) (p0_leavesTaken : Int32) (p0_madeFront : Int32) : Option (Int32 × Int32 × Int32) :=
  (if s0 = 0 then some ((p0_madeFront + (1 : Int32)) - (1 : Int32), p0_leavesTaken, p0_madeFront + (1 : Int32)) else (if ((p0_leavesTaken + (1 : Int32)) - (1 : Int32)) < 0 ∨ n_p1_line ≤ (((p0_leavesTaken + (1 : Int32)) - (1 : Int32))).toNatClampNeg then none else some (p1_line (((p0_leavesTaken + (1 : Int32)) - (1 : Int32))).toNatClampNeg, p0_leavesTaken + (1 : Int32), p0_madeFront)))
set_option maxRecDepth 100000 in
set_option maxHeartbeats 4000000 in
theorem w_X4_takeFront_50 (S : CallFix p m c cX4_takeFront 4 s args wsX4_takeFront RX4) (hK : K_ D vwCl [(cI, .int), (cZ, .boolean)] s) (hA : ∀ q, s.heap.size ≤ q → A q) {F : Nat} {p0_openNumber : Int32} {n_p0_weight : Nat} {p0_weight : Nat → Int32} {n_p0_above : Nat} {p0_above : Nat → Int32} {n_p0_depth : Nat} {p0_depth : Nat → Int32} {n_p0_open : Nat} {p0_open : Nat → Int32} {p1_size : Int32} {n_p1_symbol : Nat} {p1_symbol : Nat → Int32} {n_p1_weight : Nat} {p1_weight : Nat → Int32} {n_p1_depth : Nat} {p1_depth : Nat → Int32} {n_p1_line : Nat} {p1_line : Nat → Int32} {h_p0 h_p1 h_p0_weight h_p0_above h_p0_depth h_p0_open h_p1_symbol h_p1_weight h_p1_depth h_p1_line : Nat} {r : Int32 × Int32 × Int32} {Wp : va_W → Prop} (hend : ∀ (w1 : va_W) (pc : Nat) (lv : List (Nat × Value)), Wp w1 → decode cX4_takeFront pc = .ok (.ireturn, 1) → X_ p l e ({ frames := 0, cells := 0, slots := 0, locals := 0 } : Room) s m args below meth c Q D vwCl A 4 0 0 w1 lv pc [.int r.1]) (hWp : Wp (W_X4_X3 cI cZ h_p0 h_p0_weight h_p0_above h_p0_depth h_p0_open h_p1 h_p1_symbol h_p1_weight h_p1_depth h_p1_line p0_openNumber r.2.1 r.2.2 n_p0_weight p0_weight n_p0_above p0_above n_p0_depth p0_depth n_p0_open p0_open p1_size n_p1_symbol p1_symbol n_p1_weight p1_weight n_p1_depth p1_depth n_p1_line p1_line))   : ∀ (s0 : Int32) (p0_leavesTaken : Int32) (p0_madeFront : Int32), bf_X4_takeFront_50 F n_p0_weight p0_weight p1_size n_p1_line p1_line s0 p0_leavesTaken p0_madeFront = some r → X_ p l e ({ frames := 0, cells := 0, slots := 0, locals := 0 } : Room) s m args below meth c Q D vwCl A 4 0 0 (W_X4_X3 cI cZ h_p0 h_p0_weight h_p0_above h_p0_depth h_p0_open h_p1 h_p1_symbol h_p1_weight h_p1_depth h_p1_line p0_openNumber p0_leavesTaken p0_madeFront n_p0_weight p0_weight n_p0_above p0_above n_p0_depth p0_depth n_p0_open p0_open p1_size n_p1_symbol p1_symbol n_p1_weight p1_weight n_p1_depth p1_depth n_p1_line p1_line) [(0, .ref h_p0), (1, .ref h_p1)] 50 [.int s0] := by
  intro s0 p0_leavesTaken p0_madeFront h
  unfold bf_X4_takeFront_50 at h
  refine x_istore_n (lv' := [(3, .int s0), (0, .ref h_p0), (1, .ref h_p1)]) S dX4_takeFront_50 rfl (by decide) rfl ?_
  refine x_iload_n S dX4_takeFront_51 rfl 0 rfl ?_
  refine x_if_eq S 77 dX4_takeFront_52 (by decide) h (fun h => ?_) (fun h => ?_)
  · refine x_aload_n S dX4_takeFront_77 rfl 1 rfl ?_
    refine x_dup S dX4_takeFront_78 rfl ?_
    refine x_get S hK i_X4_takeFront_X4 0 rfl rfl 6 (by decide) k_X4_takeFront_60 rfl rfl dX4_takeFront_79 ?_
    refine x_iconst (v := 1) S dX4_takeFront_82 (by decide) ?_
    refine x_iadd S dX4_takeFront_83 ?_
    refine x_put (ty := .int) S hK i_X4_takeFront_X4 tyX4 tyX4_ok nmX4 0 rfl rfl 6 (by decide) k_X4_takeFront_60 rfl rfl (by decide +kernel) rfl rfl (Nat.le_of_ble_eq_true rfl) dX4_takeFront_84 rfl ?_
    refine x_aload_n S dX4_takeFront_87 rfl 1 rfl ?_
    refine x_get S hK i_X4_takeFront_X4 0 rfl rfl 6 (by decide) k_X4_takeFront_60 rfl rfl dX4_takeFront_88 ?_
    refine x_iconst (v := 1) S dX4_takeFront_91 (by decide) ?_
    refine x_isub S dX4_takeFront_92 ?_
    obtain rfl := Option.some.inj h
    exact hend _ _ _ hWp dX4_takeFront_93
  · refine x_aload_n S dX4_takeFront_55 rfl 1 rfl ?_
    refine x_dup S dX4_takeFront_56 rfl ?_
    refine x_get S hK i_X4_takeFront_X4 0 rfl rfl 5 (by decide) k_X4_takeFront_57 rfl rfl dX4_takeFront_57 ?_
    refine x_iconst (v := 1) S dX4_takeFront_60 (by decide) ?_
    refine x_iadd S dX4_takeFront_61 ?_
    refine x_put (ty := .int) S hK i_X4_takeFront_X4 tyX4 tyX4_ok nmX4 0 rfl rfl 5 (by decide) k_X4_takeFront_57 rfl rfl (by decide +kernel) rfl rfl (Nat.le_of_ble_eq_true rfl) dX4_takeFront_62 rfl ?_
    refine x_aload_n S dX4_takeFront_65 rfl 2 rfl ?_
    refine x_getN S hK i_X4_takeFront_X3 5 rfl rfl 3 (by decide) nf_X4_67 rfl rfl dX4_takeFront_66 ?_
    refine x_aload_n S dX4_takeFront_69 rfl 1 rfl ?_
    refine x_get S hK i_X4_takeFront_X4 0 rfl rfl 5 (by decide) k_X4_takeFront_57 rfl rfl dX4_takeFront_70 ?_
    refine x_iconst (v := 1) S dX4_takeFront_73 (by decide) ?_
    refine x_isub S dX4_takeFront_74 ?_
    refine x_iald S hK 9 0 rfl rfl dX4_takeFront_75 h (fun h => ?_)
    obtain rfl := Option.some.inj h
    exact hend _ _ _ hWp dX4_takeFront_76
noncomputable def bf_X4_takeFront_0 (F : Nat) (n_p0_weight : Nat) (p0_weight : Nat → Int32) (p1_size : Int32) (n_p1_line : Nat) (p1_line : Nat → Int32)  (x2 : Int32) (p0_leavesTaken : Int32) (p0_madeFront : Int32) : Option (Int32 × Int32 × Int32) :=
  (if p1_size ≤ p0_leavesTaken then bf_X4_takeFront_50 F n_p0_weight p0_weight p1_size n_p1_line p1_line (0 : Int32) p0_leavesTaken p0_madeFront else (if x2 ≤ p0_madeFront then bf_X4_takeFront_50 F n_p0_weight p0_weight p1_size n_p1_line p1_line (1 : Int32) p0_leavesTaken p0_madeFront else (if p0_leavesTaken < 0 ∨ n_p1_line ≤ (p0_leavesTaken).toNatClampNeg then none else (if (p1_line (p0_leavesTaken).toNatClampNeg) < 0 ∨ n_p0_weight ≤ ((p1_line (p0_leavesTaken).toNatClampNeg)).toNatClampNeg then none else (if p0_madeFront < 0 ∨ n_p0_weight ≤ (p0_madeFront).toNatClampNeg then none else (if (p0_weight (p0_madeFront).toNatClampNeg) < (p0_weight ((p1_line (p0_leavesTaken).toNatClampNeg)).toNatClampNeg) then bf_X4_takeFront_50 F n_p0_weight p0_weight p1_size n_p1_line p1_line (0 : Int32) p0_leavesTaken p0_madeFront else bf_X4_takeFront_50 F n_p0_weight p0_weight p1_size n_p1_line p1_line (1 : Int32) p0_leavesTaken p0_madeFront))))))
set_option maxRecDepth 100000 in
set_option maxHeartbeats 4000000 in
theorem w_X4_takeFront_0 (S : CallFix p m c cX4_takeFront 4 s args wsX4_takeFront RX4) (hK : K_ D vwCl [(cI, .int), (cZ, .boolean)] s) (hA : ∀ q, s.heap.size ≤ q → A q) {F : Nat} {p0_openNumber : Int32} {n_p0_weight : Nat} {p0_weight : Nat → Int32} {n_p0_above : Nat} {p0_above : Nat → Int32} {n_p0_depth : Nat} {p0_depth : Nat → Int32} {n_p0_open : Nat} {p0_open : Nat → Int32} {p1_size : Int32} {n_p1_symbol : Nat} {p1_symbol : Nat → Int32} {n_p1_weight : Nat} {p1_weight : Nat → Int32} {n_p1_depth : Nat} {p1_depth : Nat → Int32} {n_p1_line : Nat} {p1_line : Nat → Int32} {h_p0 h_p1 h_p0_weight h_p0_above h_p0_depth h_p0_open h_p1_symbol h_p1_weight h_p1_depth h_p1_line : Nat} {r : Int32 × Int32 × Int32} {Wp : va_W → Prop} (hend : ∀ (w1 : va_W) (pc : Nat) (lv : List (Nat × Value)), Wp w1 → decode cX4_takeFront pc = .ok (.ireturn, 1) → X_ p l e ({ frames := 0, cells := 0, slots := 0, locals := 0 } : Room) s m args below meth c Q D vwCl A 4 0 0 w1 lv pc [.int r.1]) (hWp : Wp (W_X4_X3 cI cZ h_p0 h_p0_weight h_p0_above h_p0_depth h_p0_open h_p1 h_p1_symbol h_p1_weight h_p1_depth h_p1_line p0_openNumber r.2.1 r.2.2 n_p0_weight p0_weight n_p0_above p0_above n_p0_depth p0_depth n_p0_open p0_open p1_size n_p1_symbol p1_symbol n_p1_weight p1_weight n_p1_depth p1_depth n_p1_line p1_line))   : ∀ (x2 : Int32) (p0_leavesTaken : Int32) (p0_madeFront : Int32), bf_X4_takeFront_0 F n_p0_weight p0_weight p1_size n_p1_line p1_line x2 p0_leavesTaken p0_madeFront = some r → X_ p l e ({ frames := 0, cells := 0, slots := 0, locals := 0 } : Room) s m args below meth c Q D vwCl A 4 0 0 (W_X4_X3 cI cZ h_p0 h_p0_weight h_p0_above h_p0_depth h_p0_open h_p1 h_p1_symbol h_p1_weight h_p1_depth h_p1_line p0_openNumber p0_leavesTaken p0_madeFront n_p0_weight p0_weight n_p0_above p0_above n_p0_depth p0_depth n_p0_open p0_open p1_size n_p1_symbol p1_symbol n_p1_weight p1_weight n_p1_depth p1_depth n_p1_line p1_line) [(0, .ref h_p0), (1, .ref h_p1), (2, .int x2)] 0 [] := by
  intro x2 p0_leavesTaken p0_madeFront h
  unfold bf_X4_takeFront_0 at h
  refine x_aload_n S dX4_takeFront_0 rfl 0 rfl ?_
  refine x_get S hK i_X4_takeFront_X4 0 rfl rfl 5 (by decide) k_X4_takeFront_57 rfl rfl dX4_takeFront_1 ?_
  refine x_aload_n S dX4_takeFront_4 rfl 1 rfl ?_
  refine x_getN S hK i_X4_takeFront_X3 5 rfl rfl 4 (by decide) nf_X4_25 rfl rfl dX4_takeFront_5 ?_
  refine x_icmp_ge S 49 dX4_takeFront_8 (by decide) h (fun h => ?_) (fun h => ?_)
  · refine x_iconst (v := 0) S dX4_takeFront_49 (by decide) ?_
    refine x_lv [0, 1] (by rfl) ?_
    exact w_X4_takeFront_50 S hK hA hend hWp  (0 : Int32) p0_leavesTaken p0_madeFront h
  · refine x_aload_n S dX4_takeFront_11 rfl 0 rfl ?_
    refine x_get S hK i_X4_takeFront_X4 0 rfl rfl 6 (by decide) k_X4_takeFront_60 rfl rfl dX4_takeFront_12 ?_
    refine x_iload_n S dX4_takeFront_15 rfl 2 rfl ?_
    refine x_icmp_ge S 45 dX4_takeFront_16 (by decide) h (fun h => ?_) (fun h => ?_)
    · refine x_iconst (v := 1) S dX4_takeFront_45 (by decide) ?_
      refine x_goto S 50 dX4_takeFront_46 (by decide) ?_
      refine x_lv [0, 1] (by rfl) ?_
      exact w_X4_takeFront_50 S hK hA hend hWp  (1 : Int32) p0_leavesTaken p0_madeFront h
    · refine x_aload_n S dX4_takeFront_19 rfl 0 rfl ?_
      refine x_get S hK i_X4_takeFront_X4 0 rfl rfl 0 (by decide) k_X4_takeFront_7 rfl rfl dX4_takeFront_20 ?_
      refine x_aload_n S dX4_takeFront_23 rfl 1 rfl ?_
      refine x_getN S hK i_X4_takeFront_X3 5 rfl rfl 3 (by decide) nf_X4_67 rfl rfl dX4_takeFront_24 ?_
      refine x_aload_n S dX4_takeFront_27 rfl 0 rfl ?_
      refine x_get S hK i_X4_takeFront_X4 0 rfl rfl 5 (by decide) k_X4_takeFront_57 rfl rfl dX4_takeFront_28 ?_
      refine x_iald S hK 9 0 rfl rfl dX4_takeFront_31 h (fun h => ?_)
      refine x_iald S hK 1 0 rfl rfl dX4_takeFront_32 h (fun h => ?_)
      refine x_aload_n S dX4_takeFront_33 rfl 0 rfl ?_
      refine x_get S hK i_X4_takeFront_X4 0 rfl rfl 0 (by decide) k_X4_takeFront_7 rfl rfl dX4_takeFront_34 ?_
      refine x_aload_n S dX4_takeFront_37 rfl 0 rfl ?_
      refine x_get S hK i_X4_takeFront_X4 0 rfl rfl 6 (by decide) k_X4_takeFront_60 rfl rfl dX4_takeFront_38 ?_
      refine x_iald S hK 1 0 rfl rfl dX4_takeFront_41 h (fun h => ?_)
      refine x_icmp_gt S 49 dX4_takeFront_42 (by decide) h (fun h => ?_) (fun h => ?_)
      · refine x_iconst (v := 0) S dX4_takeFront_49 (by decide) ?_
        refine x_lv [0, 1] (by rfl) ?_
        exact w_X4_takeFront_50 S hK hA hend hWp  (0 : Int32) p0_leavesTaken p0_madeFront h
      · refine x_iconst (v := 1) S dX4_takeFront_45 (by decide) ?_
        refine x_goto S 50 dX4_takeFront_46 (by decide) ?_
        refine x_lv [0, 1] (by rfl) ?_
        exact w_X4_takeFront_50 S hK hA hend hWp  (1 : Int32) p0_leavesTaken p0_madeFront h
noncomputable def fn_X4_takeFront (F : Nat) (n_p0_weight : Nat) (p0_weight : Nat → Int32) (p1_size : Int32) (n_p1_line : Nat) (p1_line : Nat → Int32) (p0_leavesTaken : Int32) (p0_madeFront : Int32) (x2 : Int32) : Option (Int32 × Int32 × Int32) :=
  bf_X4_takeFront_0 F n_p0_weight p0_weight p1_size n_p1_line p1_line x2 p0_leavesTaken p0_madeFront
set_option maxRecDepth 100000 in
set_option maxHeartbeats 4000000 in
theorem c_X4_takeFront (l : Launch) (D : va_G) (cI cZ : ClassId) (F : Nat) (h_p0 h_p0_weight h_p0_above h_p0_depth h_p0_open h_p1 h_p1_symbol h_p1_weight h_p1_depth h_p1_line : Nat) (p0_openNumber : Int32) (p0_leavesTaken : Int32) (p0_madeFront : Int32) (n_p0_weight : Nat) (p0_weight : Nat → Int32) (n_p0_above : Nat) (p0_above : Nat → Int32) (n_p0_depth : Nat) (p0_depth : Nat → Int32) (n_p0_open : Nat) (p0_open : Nat → Int32) (p1_size : Int32) (n_p1_symbol : Nat) (p1_symbol : Nat → Int32) (n_p1_weight : Nat) (p1_weight : Nat → Int32) (n_p1_depth : Nat) (p1_depth : Nat → Int32) (n_p1_line : Nat) (p1_line : Nat → Int32) (x2 : Int32) (r : Int32 × Int32 × Int32) (h : fn_X4_takeFront F n_p0_weight p0_weight p1_size n_p1_line p1_line p0_leavesTaken p0_madeFront x2 = some r) : Ci l yX4_takeFront wsX4_takeFront ({ frames := 0, cells := 0, slots := 0, locals := 0 } : Room) D vwCl [(cI, .int), (cZ, .boolean)] [.ref h_p0, .ref h_p1, .int x2] (W_X4_X3 cI cZ h_p0 h_p0_weight h_p0_above h_p0_depth h_p0_open h_p1 h_p1_symbol h_p1_weight h_p1_depth h_p1_line p0_openNumber p0_leavesTaken p0_madeFront n_p0_weight p0_weight n_p0_above p0_above n_p0_depth p0_depth n_p0_open p0_open p1_size n_p1_symbol p1_symbol n_p1_weight p1_weight n_p1_depth p1_depth n_p1_line p1_line) r.1 (fun w => w = (W_X4_X3 cI cZ h_p0 h_p0_weight h_p0_above h_p0_depth h_p0_open h_p1 h_p1_symbol h_p1_weight h_p1_depth h_p1_line p0_openNumber r.2.1 r.2.2 n_p0_weight p0_weight n_p0_above p0_above n_p0_depth p0_depth n_p0_open p0_open p1_size n_p1_symbol p1_symbol n_p1_weight p1_weight n_p1_depth p1_depth n_p1_line p1_line)) 0 0 :=
  Ci.ofi (by decide) rfl (Nat.le_of_ble_eq_true rfl) (fun p e s m args below meth c Q A S hK hA hname hend => w_X4_takeFront_0 S hK hA hend rfl x2 p0_leavesTaken p0_madeFront h)
end

/-! ===== PrefixSmith$Merging.join(III)V ===== -/
theorem i_X4_join_X4 : ∀ w ∈ u_ws RX4 TX4 7, w ∈ wsX4_join := by decide +kernel
theorem k_X4_join_7 : Cond.fieldLink RX4 7 "PrefixSmith$Merging" "weight" "[I" ∈ wsX4_join := by decide +kernel
theorem k_X4_join_13 : Cond.fieldLink RX4 13 "PrefixSmith$Merging" "above" "[I" ∈ wsX4_join := by decide +kernel
section
variable {p : Program} {l : Launch} {e : Env} {s : State} {m : MethodId} {args : Array Value} {below : List Frame} {meth : Method} {c : Code} {Q : State → Prop} {D : va_G} {A : Nat → Prop} {cI cZ : ClassId}
noncomputable def bf_X4_join_0 (F : Nat) (n_p0_weight : Nat) (n_p0_above : Nat)  (x1 : Int32) (x2 : Int32) (x3 : Int32) (p0_weight : Nat → Int32) (p0_above : Nat → Int32) : Option ((Nat → Int32) × (Nat → Int32)) :=
  (if x1 < 0 ∨ n_p0_weight ≤ (x1).toNatClampNeg then none else (if x2 < 0 ∨ n_p0_weight ≤ (x2).toNatClampNeg then none else (if x3 < 0 ∨ n_p0_weight ≤ (x3).toNatClampNeg then none else (if x1 < 0 ∨ n_p0_above ≤ (x1).toNatClampNeg then none else (if x2 < 0 ∨ n_p0_above ≤ (x2).toNatClampNeg then none else some (upd p0_weight (x3).toNatClampNeg ((p0_weight (x1).toNatClampNeg) + (p0_weight (x2).toNatClampNeg)), upd (upd p0_above (x1).toNatClampNeg x3) (x2).toNatClampNeg x3))))))
set_option maxRecDepth 100000 in
set_option maxHeartbeats 4000000 in
theorem w_X4_join_0 (S : CallFix p m c cX4_join 4 s args wsX4_join RX4) (hK : K_ D vwCl [(cI, .int), (cZ, .boolean)] s) (hA : ∀ q, s.heap.size ≤ q → A q) {F : Nat} {p0_openNumber : Int32} {p0_leavesTaken : Int32} {p0_madeFront : Int32} {n_p0_weight : Nat} {n_p0_above : Nat} {n_p0_depth : Nat} {p0_depth : Nat → Int32} {n_p0_open : Nat} {p0_open : Nat → Int32} {h_p0 h_p0_weight h_p0_above h_p0_depth h_p0_open : Nat} {r : (Nat → Int32) × (Nat → Int32)} {Wp : va_W → Prop} (hend : ∀ (w1 : va_W) (pc : Nat) (lv : List (Nat × Value)), Wp w1 → decode cX4_join pc = .ok (.return_, 1) → X_ p l e ({ frames := 0, cells := 0, slots := 0, locals := 0 } : Room) s m args below meth c Q D vwCl A 4 0 0 w1 lv pc []) (hWp : Wp (W_X4 cI cZ h_p0 h_p0_weight h_p0_above h_p0_depth h_p0_open p0_openNumber p0_leavesTaken p0_madeFront n_p0_weight r.1 n_p0_above r.2 n_p0_depth p0_depth n_p0_open p0_open))   : ∀ (x1 : Int32) (x2 : Int32) (x3 : Int32) (p0_weight : Nat → Int32) (p0_above : Nat → Int32), bf_X4_join_0 F n_p0_weight n_p0_above x1 x2 x3 p0_weight p0_above = some r → X_ p l e ({ frames := 0, cells := 0, slots := 0, locals := 0 } : Room) s m args below meth c Q D vwCl A 4 0 0 (W_X4 cI cZ h_p0 h_p0_weight h_p0_above h_p0_depth h_p0_open p0_openNumber p0_leavesTaken p0_madeFront n_p0_weight p0_weight n_p0_above p0_above n_p0_depth p0_depth n_p0_open p0_open) [(0, .ref h_p0), (1, .int x1), (2, .int x2), (3, .int x3)] 0 [] := by
  intro x1 x2 x3 p0_weight p0_above h
  unfold bf_X4_join_0 at h
  refine x_aload_n S dX4_join_0 rfl 0 rfl ?_
  refine x_get S hK i_X4_join_X4 0 rfl rfl 0 (by decide) k_X4_join_7 rfl rfl dX4_join_1 ?_
  refine x_iload_n S dX4_join_4 rfl 3 rfl ?_
  refine x_aload_n S dX4_join_5 rfl 0 rfl ?_
  refine x_get S hK i_X4_join_X4 0 rfl rfl 0 (by decide) k_X4_join_7 rfl rfl dX4_join_6 ?_
  refine x_iload_n S dX4_join_9 rfl 1 rfl ?_
  refine x_iald S hK 1 0 rfl rfl dX4_join_10 h (fun h => ?_)
  refine x_aload_n S dX4_join_11 rfl 0 rfl ?_
  refine x_get S hK i_X4_join_X4 0 rfl rfl 0 (by decide) k_X4_join_7 rfl rfl dX4_join_12 ?_
  refine x_iload_n S dX4_join_15 rfl 2 rfl ?_
  refine x_iald S hK 1 0 rfl rfl dX4_join_16 h (fun h => ?_)
  refine x_iadd S dX4_join_17 ?_
  refine x_iast S hK 1 0 rfl rfl dX4_join_18 h rfl (fun h => ?_)
  refine x_aload_n S dX4_join_19 rfl 0 rfl ?_
  refine x_get S hK i_X4_join_X4 0 rfl rfl 1 (by decide) k_X4_join_13 rfl rfl dX4_join_20 ?_
  refine x_iload_n S dX4_join_23 rfl 1 rfl ?_
  refine x_iload_n S dX4_join_24 rfl 3 rfl ?_
  refine x_iast S hK 2 0 rfl rfl dX4_join_25 h rfl (fun h => ?_)
  refine x_aload_n S dX4_join_26 rfl 0 rfl ?_
  refine x_get S hK i_X4_join_X4 0 rfl rfl 1 (by decide) k_X4_join_13 rfl rfl dX4_join_27 ?_
  refine x_iload_n S dX4_join_30 rfl 2 rfl ?_
  refine x_iload_n S dX4_join_31 rfl 3 rfl ?_
  refine x_iast S hK 2 0 rfl rfl dX4_join_32 h rfl (fun h => ?_)
  obtain rfl := Option.some.inj h
  exact hend _ _ _ hWp dX4_join_33
noncomputable def fn_X4_join (F : Nat) (n_p0_weight : Nat) (n_p0_above : Nat) (p0_weight : Nat → Int32) (p0_above : Nat → Int32) (x1 : Int32) (x2 : Int32) (x3 : Int32) : Option ((Nat → Int32) × (Nat → Int32)) :=
  bf_X4_join_0 F n_p0_weight n_p0_above x1 x2 x3 p0_weight p0_above
set_option maxRecDepth 100000 in
set_option maxHeartbeats 4000000 in
theorem c_X4_join (l : Launch) (D : va_G) (cI cZ : ClassId) (F : Nat) (h_p0 h_p0_weight h_p0_above h_p0_depth h_p0_open : Nat) (p0_openNumber : Int32) (p0_leavesTaken : Int32) (p0_madeFront : Int32) (n_p0_weight : Nat) (p0_weight : Nat → Int32) (n_p0_above : Nat) (p0_above : Nat → Int32) (n_p0_depth : Nat) (p0_depth : Nat → Int32) (n_p0_open : Nat) (p0_open : Nat → Int32) (x1 : Int32) (x2 : Int32) (x3 : Int32) (r : (Nat → Int32) × (Nat → Int32)) (h : fn_X4_join F n_p0_weight n_p0_above p0_weight p0_above x1 x2 x3 = some r) : Cv l yX4_join wsX4_join ({ frames := 0, cells := 0, slots := 0, locals := 0 } : Room) D vwCl [(cI, .int), (cZ, .boolean)] [.ref h_p0, .int x1, .int x2, .int x3] (W_X4 cI cZ h_p0 h_p0_weight h_p0_above h_p0_depth h_p0_open p0_openNumber p0_leavesTaken p0_madeFront n_p0_weight p0_weight n_p0_above p0_above n_p0_depth p0_depth n_p0_open p0_open) (fun w => w = (W_X4 cI cZ h_p0 h_p0_weight h_p0_above h_p0_depth h_p0_open p0_openNumber p0_leavesTaken p0_madeFront n_p0_weight r.1 n_p0_above r.2 n_p0_depth p0_depth n_p0_open p0_open)) 0 0 :=
  Cv.ofv (by decide) rfl (Nat.le_of_ble_eq_true rfl) (fun p e s m args below meth c Q A S hK hA hname hend => w_X4_join_0 S hK hA hend rfl x1 x2 x3 p0_weight p0_above h)
end

/-! ===== PrefixSmith$Merging.findDepths(LPrefixSmith$Leaves;)V ===== -/
theorem i_X4_findDepths_X3 : ∀ w ∈ u_ws RX3 TX3 5, w ∈ wsX4_findDepths := by decide +kernel
theorem i_X4_findDepths_X4 : ∀ w ∈ u_ws RX4 TX4 7, w ∈ wsX4_findDepths := by decide +kernel
theorem k_X4_findDepths_16 : Cond.fieldLink RX4 16 "PrefixSmith$Merging" "depth" "[I" ∈ wsX4_findDepths := by decide +kernel
theorem k_X4_findDepths_29 : Cond.methodLink RX4 29 arraycopyName ∈ wsX4_findDepths := by decide +kernel
theorem kn_X4_findDepths_cp : Cond.native arraycopyName ∈ wsX4_findDepths := by decide +kernel
theorem ks_X4_findDepths_cp : Cond.static arraycopyName ∈ wsX4_findDepths := by decide +kernel
theorem ki_X4_findDepths_Sys : Cond.initialized "java/lang/System" ∈ wsX4_findDepths := by decide +kernel
theorem k_X4_findDepths_13 : Cond.fieldLink RX4 13 "PrefixSmith$Merging" "above" "[I" ∈ wsX4_findDepths := by decide +kernel
section
variable {p : Program} {l : Launch} {e : Env} {s : State} {m : MethodId} {args : Array Value} {below : List Frame} {meth : Method} {c : Code} {Q : State → Prop} {D : va_G} {A : Nat → Prop} {cI cZ : ClassId}
noncomputable def bf_X4_findDepths_20 (F : Nat) (n_p0_above : Nat) (p0_above : Nat → Int32) (n_p0_depth : Nat) (p1_size : Int32) (n_p1_depth : Nat) (rec20 : Int32 → (Nat → Int32) → (Nat → Int32) → Option ((Nat → Int32) × (Nat → Int32))) (x3 : Int32) (p0_depth : Nat → Int32) (p1_depth : Nat → Int32) : Option ((Nat → Int32) × (Nat → Int32)) :=
  (if x3 < 0 then (if (0 : Int32) < 0 ∨ (0 : Int32) < 0 ∨ p1_size < 0 ∨ n_p0_depth < ((0 : Int32)).toNatClampNeg + (p1_size).toNatClampNeg ∨ n_p1_depth < ((0 : Int32)).toNatClampNeg + (p1_size).toNatClampNeg then none else some (p0_depth, va_cpy p0_depth p1_depth ((0 : Int32)).toNatClampNeg ((0 : Int32)).toNatClampNeg (p1_size).toNatClampNeg)) else (if x3 < 0 ∨ n_p0_above ≤ (x3).toNatClampNeg then none else (if (p0_above (x3).toNatClampNeg) < 0 ∨ n_p0_depth ≤ ((p0_above (x3).toNatClampNeg)).toNatClampNeg then none else (if x3 < 0 ∨ n_p0_depth ≤ (x3).toNatClampNeg then none else rec20 (x3 + (-1 : Int32)) (upd p0_depth (x3).toNatClampNeg ((p0_depth ((p0_above (x3).toNatClampNeg)).toNatClampNeg) + (1 : Int32))) p1_depth))))
set_option maxRecDepth 100000 in
set_option maxHeartbeats 4000000 in
theorem w_X4_findDepths_20 (S : CallFix p m c cX4_findDepths 4 s args wsX4_findDepths RX4) (hK : K_ D vwCl [(cI, .int), (cZ, .boolean)] s) (hA : ∀ q, s.heap.size ≤ q → A q) {F : Nat} {p0_openNumber : Int32} {p0_leavesTaken : Int32} {p0_madeFront : Int32} {n_p0_weight : Nat} {p0_weight : Nat → Int32} {n_p0_above : Nat} {p0_above : Nat → Int32} {n_p0_depth : Nat} {n_p0_open : Nat} {p0_open : Nat → Int32} {p1_size : Int32} {n_p1_symbol : Nat} {p1_symbol : Nat → Int32} {n_p1_weight : Nat} {p1_weight : Nat → Int32} {n_p1_depth : Nat} {n_p1_line : Nat} {p1_line : Nat → Int32} {h_p0 h_p1 h_p0_weight h_p0_above h_p0_depth h_p0_open h_p1_symbol h_p1_weight h_p1_depth h_p1_line : Nat} {r : (Nat → Int32) × (Nat → Int32)} {Wp : va_W → Prop} (hend : ∀ (w1 : va_W) (pc : Nat) (lv : List (Nat × Value)), Wp w1 → decode cX4_findDepths pc = .ok (.return_, 1) → X_ p l e ({ frames := 1, cells := 0, slots := 0, locals := 60 } : Room) s m args below meth c Q D vwCl A 4 0 0 w1 lv pc []) (hWp : Wp (W_X4_X3 cI cZ h_p0 h_p0_weight h_p0_above h_p0_depth h_p0_open h_p1 h_p1_symbol h_p1_weight h_p1_depth h_p1_line p0_openNumber p0_leavesTaken p0_madeFront n_p0_weight p0_weight n_p0_above p0_above n_p0_depth r.1 n_p0_open p0_open p1_size n_p1_symbol p1_symbol n_p1_weight p1_weight n_p1_depth r.2 n_p1_line p1_line)) {rec20 : Int32 → (Nat → Int32) → (Nat → Int32) → Option ((Nat → Int32) × (Nat → Int32))} (hrec20 : ∀ (x3 : Int32) (p0_depth : Nat → Int32) (p1_depth : Nat → Int32), rec20 x3 p0_depth p1_depth = some r → X_ p l e ({ frames := 1, cells := 0, slots := 0, locals := 60 } : Room) s m args below meth c Q D vwCl A 4 0 0 (W_X4_X3 cI cZ h_p0 h_p0_weight h_p0_above h_p0_depth h_p0_open h_p1 h_p1_symbol h_p1_weight h_p1_depth h_p1_line p0_openNumber p0_leavesTaken p0_madeFront n_p0_weight p0_weight n_p0_above p0_above n_p0_depth p0_depth n_p0_open p0_open p1_size n_p1_symbol p1_symbol n_p1_weight p1_weight n_p1_depth p1_depth n_p1_line p1_line) [(0, .ref h_p0), (1, .ref h_p1), (3, .int x3)] 20 []) : ∀ (x3 : Int32) (p0_depth : Nat → Int32) (p1_depth : Nat → Int32), bf_X4_findDepths_20 F n_p0_above p0_above n_p0_depth p1_size n_p1_depth rec20 x3 p0_depth p1_depth = some r → X_ p l e ({ frames := 1, cells := 0, slots := 0, locals := 60 } : Room) s m args below meth c Q D vwCl A 4 0 0 (W_X4_X3 cI cZ h_p0 h_p0_weight h_p0_above h_p0_depth h_p0_open h_p1 h_p1_symbol h_p1_weight h_p1_depth h_p1_line p0_openNumber p0_leavesTaken p0_madeFront n_p0_weight p0_weight n_p0_above p0_above n_p0_depth p0_depth n_p0_open p0_open p1_size n_p1_symbol p1_symbol n_p1_weight p1_weight n_p1_depth p1_depth n_p1_line p1_line) [(0, .ref h_p0), (1, .ref h_p1), (3, .int x3)] 20 [] := by
  intro x3 p0_depth p1_depth h
  unfold bf_X4_findDepths_20 at h
  refine x_iload_n S dX4_findDepths_20 rfl 2 rfl ?_
  refine x_if_lt S 49 dX4_findDepths_21 (by decide) h (fun h => ?_) (fun h => ?_)
  · refine x_aload_n S dX4_findDepths_49 rfl 0 rfl ?_
    refine x_get S hK i_X4_findDepths_X4 0 rfl rfl 2 (by decide) k_X4_findDepths_16 rfl rfl dX4_findDepths_50 ?_
    refine x_iconst (v := 0) S dX4_findDepths_53 (by decide) ?_
    refine x_aload_n S dX4_findDepths_54 rfl 1 rfl ?_
    refine x_getN S hK i_X4_findDepths_X3 5 rfl rfl 2 (by decide) nf_X4_70 rfl rfl dX4_findDepths_55 ?_
    refine x_iconst (v := 0) S dX4_findDepths_58 (by decide) ?_
    refine x_aload_n S dX4_findDepths_59 rfl 1 rfl ?_
    refine x_getN S hK i_X4_findDepths_X3 5 rfl rfl 4 (by decide) nf_X4_25 rfl rfl dX4_findDepths_60 ?_
    refine x_copyi S hK k_X4_findDepths_29 kn_X4_findDepths_cp ks_X4_findDepths_cp ki_X4_findDepths_Sys 3 8 0 0 rfl rfl rfl rfl h (Nat.le_of_ble_eq_true rfl) (by decide +kernel) dX4_findDepths_63 rfl (fun h => ?_)
    obtain rfl := Option.some.inj h
    exact hend _ _ _ hWp dX4_findDepths_66
  · refine x_aload_n S dX4_findDepths_24 rfl 0 rfl ?_
    refine x_get S hK i_X4_findDepths_X4 0 rfl rfl 2 (by decide) k_X4_findDepths_16 rfl rfl dX4_findDepths_25 ?_
    refine x_iload_n S dX4_findDepths_28 rfl 2 rfl ?_
    refine x_aload_n S dX4_findDepths_29 rfl 0 rfl ?_
    refine x_get S hK i_X4_findDepths_X4 0 rfl rfl 2 (by decide) k_X4_findDepths_16 rfl rfl dX4_findDepths_30 ?_
    refine x_aload_n S dX4_findDepths_33 rfl 0 rfl ?_
    refine x_get S hK i_X4_findDepths_X4 0 rfl rfl 1 (by decide) k_X4_findDepths_13 rfl rfl dX4_findDepths_34 ?_
    refine x_iload_n S dX4_findDepths_37 rfl 2 rfl ?_
    refine x_iald S hK 2 0 rfl rfl dX4_findDepths_38 h (fun h => ?_)
    refine x_iald S hK 3 0 rfl rfl dX4_findDepths_39 h (fun h => ?_)
    refine x_iconst (v := 1) S dX4_findDepths_40 (by decide) ?_
    refine x_iadd S dX4_findDepths_41 ?_
    refine x_iast S hK 3 0 rfl rfl dX4_findDepths_42 h rfl (fun h => ?_)
    refine x_iinc (v := x3 + (-1 : Int32)) (lv' := [(3, .int (x3 + (-1 : Int32))), (0, .ref h_p0), (1, .ref h_p1)]) S dX4_findDepths_43 2 rfl rfl (by decide) rfl ?_
    refine x_goto S 20 dX4_findDepths_46 (by decide) ?_
    refine x_lv [1, 2, 0] (by rfl) ?_
    exact hrec20 (x3 + (-1 : Int32)) (upd p0_depth (x3).toNatClampNeg ((p0_depth ((p0_above (x3).toNatClampNeg)).toNatClampNeg) + (1 : Int32))) p1_depth h
noncomputable def lf_X4_findDepths_20 (F : Nat) (n_p0_above : Nat) (p0_above : Nat → Int32) (n_p0_depth : Nat) (p1_size : Int32) (n_p1_depth : Nat)  (k : Nat) (x3 : Int32) (p0_depth : Nat → Int32) (p1_depth : Nat → Int32) : Option ((Nat → Int32) × (Nat → Int32)) :=
  lp (fun (rec : Int32 × (Nat → Int32) × (Nat → Int32) → Option ((Nat → Int32) × (Nat → Int32))) (z : Int32 × (Nat → Int32) × (Nat → Int32)) => bf_X4_findDepths_20 F n_p0_above p0_above n_p0_depth p1_size n_p1_depth (fun x3 p0_depth p1_depth => rec (x3, p0_depth, p1_depth)) z.1 z.2.1 z.2.2) k (x3, p0_depth, p1_depth)
set_option maxRecDepth 100000 in
set_option maxHeartbeats 4000000 in
theorem wl_X4_findDepths_20 (S : CallFix p m c cX4_findDepths 4 s args wsX4_findDepths RX4) (hK : K_ D vwCl [(cI, .int), (cZ, .boolean)] s) (hA : ∀ q, s.heap.size ≤ q → A q) {F : Nat} {p0_openNumber : Int32} {p0_leavesTaken : Int32} {p0_madeFront : Int32} {n_p0_weight : Nat} {p0_weight : Nat → Int32} {n_p0_above : Nat} {p0_above : Nat → Int32} {n_p0_depth : Nat} {n_p0_open : Nat} {p0_open : Nat → Int32} {p1_size : Int32} {n_p1_symbol : Nat} {p1_symbol : Nat → Int32} {n_p1_weight : Nat} {p1_weight : Nat → Int32} {n_p1_depth : Nat} {n_p1_line : Nat} {p1_line : Nat → Int32} {h_p0 h_p1 h_p0_weight h_p0_above h_p0_depth h_p0_open h_p1_symbol h_p1_weight h_p1_depth h_p1_line : Nat} {r : (Nat → Int32) × (Nat → Int32)} {Wp : va_W → Prop} (hend : ∀ (w1 : va_W) (pc : Nat) (lv : List (Nat × Value)), Wp w1 → decode cX4_findDepths pc = .ok (.return_, 1) → X_ p l e ({ frames := 1, cells := 0, slots := 0, locals := 60 } : Room) s m args below meth c Q D vwCl A 4 0 0 w1 lv pc []) (hWp : Wp (W_X4_X3 cI cZ h_p0 h_p0_weight h_p0_above h_p0_depth h_p0_open h_p1 h_p1_symbol h_p1_weight h_p1_depth h_p1_line p0_openNumber p0_leavesTaken p0_madeFront n_p0_weight p0_weight n_p0_above p0_above n_p0_depth r.1 n_p0_open p0_open p1_size n_p1_symbol p1_symbol n_p1_weight p1_weight n_p1_depth r.2 n_p1_line p1_line))   (k : Nat) : ∀ (x3 : Int32) (p0_depth : Nat → Int32) (p1_depth : Nat → Int32), lf_X4_findDepths_20 F n_p0_above p0_above n_p0_depth p1_size n_p1_depth k x3 p0_depth p1_depth = some r → X_ p l e ({ frames := 1, cells := 0, slots := 0, locals := 60 } : Room) s m args below meth c Q D vwCl A 4 0 0 (W_X4_X3 cI cZ h_p0 h_p0_weight h_p0_above h_p0_depth h_p0_open h_p1 h_p1_symbol h_p1_weight h_p1_depth h_p1_line p0_openNumber p0_leavesTaken p0_madeFront n_p0_weight p0_weight n_p0_above p0_above n_p0_depth p0_depth n_p0_open p0_open p1_size n_p1_symbol p1_symbol n_p1_weight p1_weight n_p1_depth p1_depth n_p1_line p1_line) [(0, .ref h_p0), (1, .ref h_p1), (3, .int x3)] 20 [] := by
  intro x3 p0_depth p1_depth h
  exact lp_W (P := fun z => X_ p l e ({ frames := 1, cells := 0, slots := 0, locals := 60 } : Room) s m args below meth c Q D vwCl A 4 0 0 (W_X4_X3 cI cZ h_p0 h_p0_weight h_p0_above h_p0_depth h_p0_open h_p1 h_p1_symbol h_p1_weight h_p1_depth h_p1_line p0_openNumber p0_leavesTaken p0_madeFront n_p0_weight p0_weight n_p0_above p0_above n_p0_depth z.2.1 n_p0_open p0_open p1_size n_p1_symbol p1_symbol n_p1_weight p1_weight n_p1_depth z.2.2 n_p1_line p1_line) [(0, .ref h_p0), (1, .ref h_p1), (3, .int z.1)] 20 []) (fun rec ih z hz => w_X4_findDepths_20 S hK hA hend hWp (fun x3 p0_depth p1_depth hh => ih (x3, p0_depth, p1_depth) hh)  z.1 z.2.1 z.2.2 hz) k (x3, p0_depth, p1_depth) h 
noncomputable def bf_X4_findDepths_0 (F : Nat) (n_p0_above : Nat) (p0_above : Nat → Int32) (n_p0_depth : Nat) (p1_size : Int32) (n_p1_depth : Nat)  (p0_depth : Nat → Int32) (p1_depth : Nat → Int32) : Option ((Nat → Int32) × (Nat → Int32)) :=
  (if (((2 : Int32) * p1_size) - (2 : Int32)) < 0 ∨ n_p0_depth ≤ ((((2 : Int32) * p1_size) - (2 : Int32))).toNatClampNeg then none else lf_X4_findDepths_20 F n_p0_above p0_above n_p0_depth p1_size n_p1_depth F ((((2 : Int32) * p1_size) - (2 : Int32)) - (1 : Int32)) (upd p0_depth ((((2 : Int32) * p1_size) - (2 : Int32))).toNatClampNeg (0 : Int32)) p1_depth)
set_option maxRecDepth 100000 in
set_option maxHeartbeats 4000000 in
theorem w_X4_findDepths_0 (S : CallFix p m c cX4_findDepths 4 s args wsX4_findDepths RX4) (hK : K_ D vwCl [(cI, .int), (cZ, .boolean)] s) (hA : ∀ q, s.heap.size ≤ q → A q) {F : Nat} {p0_openNumber : Int32} {p0_leavesTaken : Int32} {p0_madeFront : Int32} {n_p0_weight : Nat} {p0_weight : Nat → Int32} {n_p0_above : Nat} {p0_above : Nat → Int32} {n_p0_depth : Nat} {n_p0_open : Nat} {p0_open : Nat → Int32} {p1_size : Int32} {n_p1_symbol : Nat} {p1_symbol : Nat → Int32} {n_p1_weight : Nat} {p1_weight : Nat → Int32} {n_p1_depth : Nat} {n_p1_line : Nat} {p1_line : Nat → Int32} {h_p0 h_p1 h_p0_weight h_p0_above h_p0_depth h_p0_open h_p1_symbol h_p1_weight h_p1_depth h_p1_line : Nat} {r : (Nat → Int32) × (Nat → Int32)} {Wp : va_W → Prop} (hend : ∀ (w1 : va_W) (pc : Nat) (lv : List (Nat × Value)), Wp w1 → decode cX4_findDepths pc = .ok (.return_, 1) → X_ p l e ({ frames := 1, cells := 0, slots := 0, locals := 60 } : Room) s m args below meth c Q D vwCl A 4 0 0 w1 lv pc []) (hWp : Wp (W_X4_X3 cI cZ h_p0 h_p0_weight h_p0_above h_p0_depth h_p0_open h_p1 h_p1_symbol h_p1_weight h_p1_depth h_p1_line p0_openNumber p0_leavesTaken p0_madeFront n_p0_weight p0_weight n_p0_above p0_above n_p0_depth r.1 n_p0_open p0_open p1_size n_p1_symbol p1_symbol n_p1_weight p1_weight n_p1_depth r.2 n_p1_line p1_line))   : ∀ (p0_depth : Nat → Int32) (p1_depth : Nat → Int32), bf_X4_findDepths_0 F n_p0_above p0_above n_p0_depth p1_size n_p1_depth p0_depth p1_depth = some r → X_ p l e ({ frames := 1, cells := 0, slots := 0, locals := 60 } : Room) s m args below meth c Q D vwCl A 4 0 0 (W_X4_X3 cI cZ h_p0 h_p0_weight h_p0_above h_p0_depth h_p0_open h_p1 h_p1_symbol h_p1_weight h_p1_depth h_p1_line p0_openNumber p0_leavesTaken p0_madeFront n_p0_weight p0_weight n_p0_above p0_above n_p0_depth p0_depth n_p0_open p0_open p1_size n_p1_symbol p1_symbol n_p1_weight p1_weight n_p1_depth p1_depth n_p1_line p1_line) [(0, .ref h_p0), (1, .ref h_p1)] 0 [] := by
  intro p0_depth p1_depth h
  unfold bf_X4_findDepths_0 at h
  refine x_iconst (v := 2) S dX4_findDepths_0 (by decide) ?_
  refine x_aload_n S dX4_findDepths_1 rfl 1 rfl ?_
  refine x_getN S hK i_X4_findDepths_X3 5 rfl rfl 4 (by decide) nf_X4_25 rfl rfl dX4_findDepths_2 ?_
  refine x_imul S dX4_findDepths_5 ?_
  refine x_iconst (v := 2) S dX4_findDepths_6 (by decide) ?_
  refine x_isub S dX4_findDepths_7 ?_
  refine x_istore_n (lv' := [(2, .int (((2 : Int32) * p1_size) - (2 : Int32))), (0, .ref h_p0), (1, .ref h_p1)]) S dX4_findDepths_8 rfl (by decide) rfl ?_
  refine x_aload_n S dX4_findDepths_9 rfl 1 rfl ?_
  refine x_get S hK i_X4_findDepths_X4 0 rfl rfl 2 (by decide) k_X4_findDepths_16 rfl rfl dX4_findDepths_10 ?_
  refine x_iload_n S dX4_findDepths_13 rfl 0 rfl ?_
  refine x_iconst (v := 0) S dX4_findDepths_14 (by decide) ?_
  refine x_iast S hK 3 0 rfl rfl dX4_findDepths_15 h rfl (fun h => ?_)
  refine x_iload_n S dX4_findDepths_16 rfl 0 rfl ?_
  refine x_iconst (v := 1) S dX4_findDepths_17 (by decide) ?_
  refine x_isub S dX4_findDepths_18 ?_
  refine x_istore_n (lv' := [(3, .int ((((2 : Int32) * p1_size) - (2 : Int32)) - (1 : Int32))), (2, .int (((2 : Int32) * p1_size) - (2 : Int32))), (0, .ref h_p0), (1, .ref h_p1)]) S dX4_findDepths_19 rfl (by decide) rfl ?_
  refine x_lv [2, 3, 0] (by rfl) ?_
  exact wl_X4_findDepths_20 S hK hA hend hWp  F ((((2 : Int32) * p1_size) - (2 : Int32)) - (1 : Int32)) (upd p0_depth ((((2 : Int32) * p1_size) - (2 : Int32))).toNatClampNeg (0 : Int32)) p1_depth h
noncomputable def fn_X4_findDepths (F : Nat) (n_p0_above : Nat) (p0_above : Nat → Int32) (n_p0_depth : Nat) (p1_size : Int32) (n_p1_depth : Nat) (p0_depth : Nat → Int32) (p1_depth : Nat → Int32)  : Option ((Nat → Int32) × (Nat → Int32)) :=
  bf_X4_findDepths_0 F n_p0_above p0_above n_p0_depth p1_size n_p1_depth p0_depth p1_depth
set_option maxRecDepth 100000 in
set_option maxHeartbeats 4000000 in
theorem c_X4_findDepths (l : Launch) (D : va_G) (cI cZ : ClassId) (F : Nat) (h_p0 h_p0_weight h_p0_above h_p0_depth h_p0_open h_p1 h_p1_symbol h_p1_weight h_p1_depth h_p1_line : Nat) (p0_openNumber : Int32) (p0_leavesTaken : Int32) (p0_madeFront : Int32) (n_p0_weight : Nat) (p0_weight : Nat → Int32) (n_p0_above : Nat) (p0_above : Nat → Int32) (n_p0_depth : Nat) (p0_depth : Nat → Int32) (n_p0_open : Nat) (p0_open : Nat → Int32) (p1_size : Int32) (n_p1_symbol : Nat) (p1_symbol : Nat → Int32) (n_p1_weight : Nat) (p1_weight : Nat → Int32) (n_p1_depth : Nat) (p1_depth : Nat → Int32) (n_p1_line : Nat) (p1_line : Nat → Int32)  (r : (Nat → Int32) × (Nat → Int32)) (h : fn_X4_findDepths F n_p0_above p0_above n_p0_depth p1_size n_p1_depth p0_depth p1_depth = some r) : Cv l yX4_findDepths wsX4_findDepths ({ frames := 1, cells := 0, slots := 0, locals := 60 } : Room) D vwCl [(cI, .int), (cZ, .boolean)] [.ref h_p0, .ref h_p1] (W_X4_X3 cI cZ h_p0 h_p0_weight h_p0_above h_p0_depth h_p0_open h_p1 h_p1_symbol h_p1_weight h_p1_depth h_p1_line p0_openNumber p0_leavesTaken p0_madeFront n_p0_weight p0_weight n_p0_above p0_above n_p0_depth p0_depth n_p0_open p0_open p1_size n_p1_symbol p1_symbol n_p1_weight p1_weight n_p1_depth p1_depth n_p1_line p1_line) (fun w => w = (W_X4_X3 cI cZ h_p0 h_p0_weight h_p0_above h_p0_depth h_p0_open h_p1 h_p1_symbol h_p1_weight h_p1_depth h_p1_line p0_openNumber p0_leavesTaken p0_madeFront n_p0_weight p0_weight n_p0_above p0_above n_p0_depth r.1 n_p0_open p0_open p1_size n_p1_symbol p1_symbol n_p1_weight p1_weight n_p1_depth r.2 n_p1_line p1_line)) 0 0 :=
  Cv.ofv (by decide) rfl (Nat.le_of_ble_eq_true rfl) (fun p e s m args below meth c Q A S hK hA hname hend => w_X4_findDepths_0 S hK hA hend rfl p0_depth p1_depth h)
end

/-! ===== PrefixSmith$Merging.measureByHeap(LPrefixSmith$Leaves;)V ===== -/
theorem i_X4_measureByHeap_X3 : ∀ w ∈ u_ws RX3 TX3 5, w ∈ wsX4_measureByHeap := by decide +kernel
theorem i_X4_measureByHeap_X4 : ∀ w ∈ u_ws RX4 TX4 7, w ∈ wsX4_measureByHeap := by decide +kernel
theorem k_X4_measureByHeap_7 : Cond.fieldLink RX4 7 "PrefixSmith$Merging" "weight" "[I" ∈ wsX4_measureByHeap := by decide +kernel
theorem k_X4_measureByHeap_29 : Cond.methodLink RX4 29 arraycopyName ∈ wsX4_measureByHeap := by decide +kernel
theorem kn_X4_measureByHeap_cp : Cond.native arraycopyName ∈ wsX4_measureByHeap := by decide +kernel
theorem ks_X4_measureByHeap_cp : Cond.static arraycopyName ∈ wsX4_measureByHeap := by decide +kernel
theorem ki_X4_measureByHeap_Sys : Cond.initialized "java/lang/System" ∈ wsX4_measureByHeap := by decide +kernel
theorem k_X4_measureByHeap_35 : Cond.fieldLink RX4 35 "PrefixSmith$Merging" "openNumber" "I" ∈ wsX4_measureByHeap := by decide +kernel
theorem k_X4_measureByHeap_19 : Cond.fieldLink RX4 19 "PrefixSmith$Merging" "open" "[I" ∈ wsX4_measureByHeap := by decide +kernel
section
variable {p : Program} {l : Launch} {e : Env} {s : State} {m : MethodId} {args : Array Value} {below : List Frame} {meth : Method} {c : Code} {Q : State → Prop} {D : va_G} {A : Nat → Prop} {cI cZ : ClassId}
noncomputable def bf_X4_measureByHeap_53 (F : Nat) (n_p0_weight : Nat) (n_p0_above : Nat) (n_p0_depth : Nat) (n_p0_open : Nat) (p1_size : Int32) (n_p1_weight : Nat) (p1_weight : Nat → Int32) (n_p1_depth : Nat) (rec53 : Int32 → Int32 → (Nat → Int32) → (Nat → Int32) → (Nat → Int32) → (Nat → Int32) → (Nat → Int32) → Option (Int32 × (Nat → Int32) × (Nat → Int32) × (Nat → Int32) × (Nat → Int32) × (Nat → Int32))) (x2 : Int32) (p0_openNumber : Int32) (p0_weight : Nat → Int32) (p0_above : Nat → Int32) (p0_depth : Nat → Int32) (p0_open : Nat → Int32) (p1_depth : Nat → Int32) : Option (Int32 × (Nat → Int32) × (Nat → Int32) × (Nat → Int32) × (Nat → Int32) × (Nat → Int32)) :=
  (if (((2 : Int32) * p1_size) - (1 : Int32)) ≤ x2 then ((fn_X4_findDepths F n_p0_above p0_above n_p0_depth p1_size n_p1_depth p0_depth p1_depth).bind fun v106 => some (p0_openNumber, p0_weight, p0_above, v106.1, p0_open, v106.2)) else ((fn_X4_takeLeast F n_p0_weight p0_weight n_p0_open p0_openNumber p0_open).bind fun v67 => ((fn_X4_takeLeast F n_p0_weight p0_weight n_p0_open v67.2.1 v67.2.2).bind fun v71 => ((fn_X4_join F n_p0_weight n_p0_above p0_weight p0_above v67.1 v71.1 x2).bind fun v75 => (if v71.2.1 < 0 ∨ n_p0_open ≤ (v71.2.1).toNatClampNeg then none else rec53 (x2 + (1 : Int32)) (v71.2.1 + (1 : Int32)) v75.1 v75.2 p0_depth (upd v71.2.2 (v71.2.1).toNatClampNeg x2) p1_depth)))))
set_option maxRecDepth 100000 in
set_option maxHeartbeats 4000000 in
theorem w_X4_measureByHeap_53 (S : CallFix p m c cX4_measureByHeap 3 s args wsX4_measureByHeap RX4) (hK : K_ D vwCl [(cI, .int), (cZ, .boolean)] s) (hA : ∀ q, s.heap.size ≤ q → A q) {F : Nat} {p0_leavesTaken : Int32} {p0_madeFront : Int32} {n_p0_weight : Nat} {n_p0_above : Nat} {n_p0_depth : Nat} {n_p0_open : Nat} {p1_size : Int32} {n_p1_symbol : Nat} {p1_symbol : Nat → Int32} {n_p1_weight : Nat} {p1_weight : Nat → Int32} {n_p1_depth : Nat} {n_p1_line : Nat} {p1_line : Nat → Int32} {h_p0 h_p1 h_p0_weight h_p0_above h_p0_depth h_p0_open h_p1_symbol h_p1_weight h_p1_depth h_p1_line : Nat} {r : Int32 × (Nat → Int32) × (Nat → Int32) × (Nat → Int32) × (Nat → Int32) × (Nat → Int32)} {Wp : va_W → Prop} (hend : ∀ (w1 : va_W) (pc : Nat) (lv : List (Nat × Value)), Wp w1 → decode cX4_measureByHeap pc = .ok (.return_, 1) → X_ p l e ({ frames := 2, cells := 0, slots := 0, locals := 83 } : Room) s m args below meth c Q D vwCl A 3 0 0 w1 lv pc []) (hWp : Wp (W_X4_X3 cI cZ h_p0 h_p0_weight h_p0_above h_p0_depth h_p0_open h_p1 h_p1_symbol h_p1_weight h_p1_depth h_p1_line r.1 p0_leavesTaken p0_madeFront n_p0_weight r.2.1 n_p0_above r.2.2.1 n_p0_depth r.2.2.2.1 n_p0_open r.2.2.2.2.1 p1_size n_p1_symbol p1_symbol n_p1_weight p1_weight n_p1_depth r.2.2.2.2.2 n_p1_line p1_line)) {rec53 : Int32 → Int32 → (Nat → Int32) → (Nat → Int32) → (Nat → Int32) → (Nat → Int32) → (Nat → Int32) → Option (Int32 × (Nat → Int32) × (Nat → Int32) × (Nat → Int32) × (Nat → Int32) × (Nat → Int32))} (hrec53 : ∀ (x2 : Int32) (p0_openNumber : Int32) (p0_weight : Nat → Int32) (p0_above : Nat → Int32) (p0_depth : Nat → Int32) (p0_open : Nat → Int32) (p1_depth : Nat → Int32), rec53 x2 p0_openNumber p0_weight p0_above p0_depth p0_open p1_depth = some r → X_ p l e ({ frames := 2, cells := 0, slots := 0, locals := 83 } : Room) s m args below meth c Q D vwCl A 3 0 0 (W_X4_X3 cI cZ h_p0 h_p0_weight h_p0_above h_p0_depth h_p0_open h_p1 h_p1_symbol h_p1_weight h_p1_depth h_p1_line p0_openNumber p0_leavesTaken p0_madeFront n_p0_weight p0_weight n_p0_above p0_above n_p0_depth p0_depth n_p0_open p0_open p1_size n_p1_symbol p1_symbol n_p1_weight p1_weight n_p1_depth p1_depth n_p1_line p1_line) [(0, .ref h_p0), (1, .ref h_p1), (2, .int x2)] 53 []) : ∀ (x2 : Int32) (p0_openNumber : Int32) (p0_weight : Nat → Int32) (p0_above : Nat → Int32) (p0_depth : Nat → Int32) (p0_open : Nat → Int32) (p1_depth : Nat → Int32), bf_X4_measureByHeap_53 F n_p0_weight n_p0_above n_p0_depth n_p0_open p1_size n_p1_weight p1_weight n_p1_depth rec53 x2 p0_openNumber p0_weight p0_above p0_depth p0_open p1_depth = some r → X_ p l e ({ frames := 2, cells := 0, slots := 0, locals := 83 } : Room) s m args below meth c Q D vwCl A 3 0 0 (W_X4_X3 cI cZ h_p0 h_p0_weight h_p0_above h_p0_depth h_p0_open h_p1 h_p1_symbol h_p1_weight h_p1_depth h_p1_line p0_openNumber p0_leavesTaken p0_madeFront n_p0_weight p0_weight n_p0_above p0_above n_p0_depth p0_depth n_p0_open p0_open p1_size n_p1_symbol p1_symbol n_p1_weight p1_weight n_p1_depth p1_depth n_p1_line p1_line) [(0, .ref h_p0), (1, .ref h_p1), (2, .int x2)] 53 [] := by
  intro x2 p0_openNumber p0_weight p0_above p0_depth p0_open p1_depth h
  unfold bf_X4_measureByHeap_53 at h
  refine x_iload_n S dX4_measureByHeap_53 rfl 2 rfl ?_
  refine x_iconst (v := 2) S dX4_measureByHeap_54 (by decide) ?_
  refine x_aload_n S dX4_measureByHeap_55 rfl 1 rfl ?_
  refine x_getN S hK i_X4_measureByHeap_X3 5 rfl rfl 4 (by decide) nf_X4_25 rfl rfl dX4_measureByHeap_56 ?_
  refine x_imul S dX4_measureByHeap_59 ?_
  refine x_iconst (v := 1) S dX4_measureByHeap_60 (by decide) ?_
  refine x_isub S dX4_measureByHeap_61 ?_
  refine x_icmp_ge S 104 dX4_measureByHeap_62 (by decide) h (fun h => ?_) (fun h => ?_)
  · refine x_aload_n S dX4_measureByHeap_104 rfl 0 rfl ?_
    refine x_aload_n S dX4_measureByHeap_105 rfl 1 rfl ?_
    obtain ⟨v106, h106, h⟩ := gbind h
    refine x_callVv S hK hA (c_X4_findDepths l D cI cZ F h_p0 h_p0_weight h_p0_above h_p0_depth h_p0_open h_p1 h_p1_symbol h_p1_weight h_p1_depth h_p1_line p0_openNumber p0_leavesTaken p0_madeFront n_p0_weight p0_weight n_p0_above p0_above n_p0_depth p0_depth n_p0_open p0_open p1_size n_p1_symbol p1_symbol n_p1_weight p1_weight n_p1_depth p1_depth n_p1_line p1_line  v106 h106) (cwV 1 S.2.2.2.2 gX4_measureByHeap_X4_findDepths rfl rfl rfl (by decide +kernel) ⟨(Nat.le_of_ble_eq_true rfl), (Nat.le_of_ble_eq_true rfl)⟩) [0, 1, 2, 3, 4, 5, 6, 7, 8, 9] [] rfl (by decide) rfl (by decide) (by decide) 0 4 rfl rfl rfl (Nat.le_of_ble_eq_true rfl) rfl dX4_measureByHeap_106 ⟨(Nat.le_of_ble_eq_true rfl), (Nat.le_of_ble_eq_true rfl)⟩ (fun w1 hw1 => ?_)
    subst hw1
    refine x_ws (ws' := (W_X4_X3 cI cZ h_p0 h_p0_weight h_p0_above h_p0_depth h_p0_open h_p1 h_p1_symbol h_p1_weight h_p1_depth h_p1_line p0_openNumber p0_leavesTaken p0_madeFront n_p0_weight p0_weight n_p0_above p0_above n_p0_depth v106.1 n_p0_open p0_open p1_size n_p1_symbol p1_symbol n_p1_weight p1_weight n_p1_depth v106.2 n_p1_line p1_line)) [0, 1, 2, 3, 4, 5, 6, 7, 8, 9] (by decide) (by rfl) ?_
    obtain rfl := Option.some.inj h
    exact hend _ _ _ hWp dX4_measureByHeap_109
  · refine x_aload_n S dX4_measureByHeap_65 rfl 0 rfl ?_
    refine x_aload_n S dX4_measureByHeap_66 rfl 0 rfl ?_
    obtain ⟨v67, h67, h⟩ := gbind h
    refine x_callVi S hK hA (c_X4_takeLeast l D cI cZ F h_p0 h_p0_weight h_p0_above h_p0_depth h_p0_open p0_openNumber p0_leavesTaken p0_madeFront n_p0_weight p0_weight n_p0_above p0_above n_p0_depth p0_depth n_p0_open p0_open  v67 h67) (cwV 0 S.2.2.2.2 gX4_measureByHeap_X4_takeLeast rfl rfl rfl (by decide +kernel) ⟨(Nat.le_of_ble_eq_true rfl), (Nat.le_of_ble_eq_true rfl)⟩) [0, 1, 2, 3, 4] [5, 6, 7, 8, 9] rfl (by decide) rfl (by decide) (by decide) 0 4 rfl rfl rfl (Nat.le_of_ble_eq_true rfl) rfl dX4_measureByHeap_67 ⟨(Nat.le_of_ble_eq_true rfl), (Nat.le_of_ble_eq_true rfl)⟩ (fun w1 hw1 => ?_)
    subst hw1
    refine x_ws (ws' := (W_X4_X3 cI cZ h_p0 h_p0_weight h_p0_above h_p0_depth h_p0_open h_p1 h_p1_symbol h_p1_weight h_p1_depth h_p1_line v67.2.1 p0_leavesTaken p0_madeFront n_p0_weight p0_weight n_p0_above p0_above n_p0_depth p0_depth n_p0_open v67.2.2 p1_size n_p1_symbol p1_symbol n_p1_weight p1_weight n_p1_depth p1_depth n_p1_line p1_line)) [5, 6, 7, 8, 9, 0, 1, 2, 3, 4] (by decide) (by rfl) ?_
    refine x_aload_n S dX4_measureByHeap_70 rfl 0 rfl ?_
    obtain ⟨v71, h71, h⟩ := gbind h
    refine x_callVi S hK hA (c_X4_takeLeast l D cI cZ F h_p0 h_p0_weight h_p0_above h_p0_depth h_p0_open v67.2.1 p0_leavesTaken p0_madeFront n_p0_weight p0_weight n_p0_above p0_above n_p0_depth p0_depth n_p0_open v67.2.2  v71 h71) (cwV 0 S.2.2.2.2 gX4_measureByHeap_X4_takeLeast rfl rfl rfl (by decide +kernel) ⟨(Nat.le_of_ble_eq_true rfl), (Nat.le_of_ble_eq_true rfl)⟩) [0, 1, 2, 3, 4] [5, 6, 7, 8, 9] rfl (by decide) rfl (by decide) (by decide) 0 4 rfl rfl rfl (Nat.le_of_ble_eq_true rfl) rfl dX4_measureByHeap_71 ⟨(Nat.le_of_ble_eq_true rfl), (Nat.le_of_ble_eq_true rfl)⟩ (fun w1 hw1 => ?_)
    subst hw1
    refine x_ws (ws' := (W_X4_X3 cI cZ h_p0 h_p0_weight h_p0_above h_p0_depth h_p0_open h_p1 h_p1_symbol h_p1_weight h_p1_depth h_p1_line v71.2.1 p0_leavesTaken p0_madeFront n_p0_weight p0_weight n_p0_above p0_above n_p0_depth p0_depth n_p0_open v71.2.2 p1_size n_p1_symbol p1_symbol n_p1_weight p1_weight n_p1_depth p1_depth n_p1_line p1_line)) [5, 6, 7, 8, 9, 0, 1, 2, 3, 4] (by decide) (by rfl) ?_
    refine x_iload_n S dX4_measureByHeap_74 rfl 2 rfl ?_
    obtain ⟨v75, h75, h⟩ := gbind h
    refine x_callVv S hK hA (c_X4_join l D cI cZ F h_p0 h_p0_weight h_p0_above h_p0_depth h_p0_open v71.2.1 p0_leavesTaken p0_madeFront n_p0_weight p0_weight n_p0_above p0_above n_p0_depth p0_depth n_p0_open v71.2.2 v67.1 v71.1 x2 v75 h75) (cwV 3 S.2.2.2.2 gX4_measureByHeap_X4_join rfl rfl rfl (by decide +kernel) ⟨(Nat.le_of_ble_eq_true rfl), (Nat.le_of_ble_eq_true rfl)⟩) [0, 1, 2, 3, 4] [5, 6, 7, 8, 9] rfl (by decide) rfl (by decide) (by decide) 0 4 rfl rfl rfl (Nat.le_of_ble_eq_true rfl) rfl dX4_measureByHeap_75 ⟨(Nat.le_of_ble_eq_true rfl), (Nat.le_of_ble_eq_true rfl)⟩ (fun w1 hw1 => ?_)
    subst hw1
    refine x_ws (ws' := (W_X4_X3 cI cZ h_p0 h_p0_weight h_p0_above h_p0_depth h_p0_open h_p1 h_p1_symbol h_p1_weight h_p1_depth h_p1_line v71.2.1 p0_leavesTaken p0_madeFront n_p0_weight v75.1 n_p0_above v75.2 n_p0_depth p0_depth n_p0_open v71.2.2 p1_size n_p1_symbol p1_symbol n_p1_weight p1_weight n_p1_depth p1_depth n_p1_line p1_line)) [5, 6, 7, 8, 9, 0, 1, 2, 3, 4] (by decide) (by rfl) ?_
    refine x_aload_n S dX4_measureByHeap_78 rfl 0 rfl ?_
    refine x_get S hK i_X4_measureByHeap_X4 0 rfl rfl 3 (by decide) k_X4_measureByHeap_19 rfl rfl dX4_measureByHeap_79 ?_
    refine x_aload_n S dX4_measureByHeap_82 rfl 0 rfl ?_
    refine x_get S hK i_X4_measureByHeap_X4 0 rfl rfl 4 (by decide) k_X4_measureByHeap_35 rfl rfl dX4_measureByHeap_83 ?_
    refine x_iload_n S dX4_measureByHeap_86 rfl 2 rfl ?_
    refine x_iast S hK 4 0 rfl rfl dX4_measureByHeap_87 h rfl (fun h => ?_)
    refine x_aload_n S dX4_measureByHeap_88 rfl 0 rfl ?_
    refine x_dup S dX4_measureByHeap_89 rfl ?_
    refine x_get S hK i_X4_measureByHeap_X4 0 rfl rfl 4 (by decide) k_X4_measureByHeap_35 rfl rfl dX4_measureByHeap_90 ?_
    refine x_iconst (v := 1) S dX4_measureByHeap_93 (by decide) ?_
    refine x_iadd S dX4_measureByHeap_94 ?_
    refine x_put (ty := .int) S hK i_X4_measureByHeap_X4 tyX4 tyX4_ok nmX4 0 rfl rfl 4 (by decide) k_X4_measureByHeap_35 rfl rfl (by decide +kernel) rfl rfl (Nat.le_of_ble_eq_true rfl) dX4_measureByHeap_95 rfl ?_
    refine x_iinc (v := x2 + (1 : Int32)) (lv' := [(2, .int (x2 + (1 : Int32))), (0, .ref h_p0), (1, .ref h_p1)]) S dX4_measureByHeap_98 2 rfl rfl (by decide) rfl ?_
    refine x_goto S 53 dX4_measureByHeap_101 (by decide) ?_
    refine x_lv [1, 2, 0] (by rfl) ?_
    exact hrec53 (x2 + (1 : Int32)) (v71.2.1 + (1 : Int32)) v75.1 v75.2 p0_depth (upd v71.2.2 (v71.2.1).toNatClampNeg x2) p1_depth h
noncomputable def lf_X4_measureByHeap_53 (F : Nat) (n_p0_weight : Nat) (n_p0_above : Nat) (n_p0_depth : Nat) (n_p0_open : Nat) (p1_size : Int32) (n_p1_weight : Nat) (p1_weight : Nat → Int32) (n_p1_depth : Nat)  (k : Nat) (x2 : Int32) (p0_openNumber : Int32) (p0_weight : Nat → Int32) (p0_above : Nat → Int32) (p0_depth : Nat → Int32) (p0_open : Nat → Int32) (p1_depth : Nat → Int32) : Option (Int32 × (Nat → Int32) × (Nat → Int32) × (Nat → Int32) × (Nat → Int32) × (Nat → Int32)) :=
  lp (fun (rec : Int32 × Int32 × (Nat → Int32) × (Nat → Int32) × (Nat → Int32) × (Nat → Int32) × (Nat → Int32) → Option (Int32 × (Nat → Int32) × (Nat → Int32) × (Nat → Int32) × (Nat → Int32) × (Nat → Int32))) (z : Int32 × Int32 × (Nat → Int32) × (Nat → Int32) × (Nat → Int32) × (Nat → Int32) × (Nat → Int32)) => bf_X4_measureByHeap_53 F n_p0_weight n_p0_above n_p0_depth n_p0_open p1_size n_p1_weight p1_weight n_p1_depth (fun x2 p0_openNumber p0_weight p0_above p0_depth p0_open p1_depth => rec (x2, p0_openNumber, p0_weight, p0_above, p0_depth, p0_open, p1_depth)) z.1 z.2.1 z.2.2.1 z.2.2.2.1 z.2.2.2.2.1 z.2.2.2.2.2.1 z.2.2.2.2.2.2) k (x2, p0_openNumber, p0_weight, p0_above, p0_depth, p0_open, p1_depth)
set_option maxRecDepth 100000 in
set_option maxHeartbeats 4000000 in
theorem wl_X4_measureByHeap_53 (S : CallFix p m c cX4_measureByHeap 3 s args wsX4_measureByHeap RX4) (hK : K_ D vwCl [(cI, .int), (cZ, .boolean)] s) (hA : ∀ q, s.heap.size ≤ q → A q) {F : Nat} {p0_leavesTaken : Int32} {p0_madeFront : Int32} {n_p0_weight : Nat} {n_p0_above : Nat} {n_p0_depth : Nat} {n_p0_open : Nat} {p1_size : Int32} {n_p1_symbol : Nat} {p1_symbol : Nat → Int32} {n_p1_weight : Nat} {p1_weight : Nat → Int32} {n_p1_depth : Nat} {n_p1_line : Nat} {p1_line : Nat → Int32} {h_p0 h_p1 h_p0_weight h_p0_above h_p0_depth h_p0_open h_p1_symbol h_p1_weight h_p1_depth h_p1_line : Nat} {r : Int32 × (Nat → Int32) × (Nat → Int32) × (Nat → Int32) × (Nat → Int32) × (Nat → Int32)} {Wp : va_W → Prop} (hend : ∀ (w1 : va_W) (pc : Nat) (lv : List (Nat × Value)), Wp w1 → decode cX4_measureByHeap pc = .ok (.return_, 1) → X_ p l e ({ frames := 2, cells := 0, slots := 0, locals := 83 } : Room) s m args below meth c Q D vwCl A 3 0 0 w1 lv pc []) (hWp : Wp (W_X4_X3 cI cZ h_p0 h_p0_weight h_p0_above h_p0_depth h_p0_open h_p1 h_p1_symbol h_p1_weight h_p1_depth h_p1_line r.1 p0_leavesTaken p0_madeFront n_p0_weight r.2.1 n_p0_above r.2.2.1 n_p0_depth r.2.2.2.1 n_p0_open r.2.2.2.2.1 p1_size n_p1_symbol p1_symbol n_p1_weight p1_weight n_p1_depth r.2.2.2.2.2 n_p1_line p1_line))   (k : Nat) : ∀ (x2 : Int32) (p0_openNumber : Int32) (p0_weight : Nat → Int32) (p0_above : Nat → Int32) (p0_depth : Nat → Int32) (p0_open : Nat → Int32) (p1_depth : Nat → Int32), lf_X4_measureByHeap_53 F n_p0_weight n_p0_above n_p0_depth n_p0_open p1_size n_p1_weight p1_weight n_p1_depth k x2 p0_openNumber p0_weight p0_above p0_depth p0_open p1_depth = some r → X_ p l e ({ frames := 2, cells := 0, slots := 0, locals := 83 } : Room) s m args below meth c Q D vwCl A 3 0 0 (W_X4_X3 cI cZ h_p0 h_p0_weight h_p0_above h_p0_depth h_p0_open h_p1 h_p1_symbol h_p1_weight h_p1_depth h_p1_line p0_openNumber p0_leavesTaken p0_madeFront n_p0_weight p0_weight n_p0_above p0_above n_p0_depth p0_depth n_p0_open p0_open p1_size n_p1_symbol p1_symbol n_p1_weight p1_weight n_p1_depth p1_depth n_p1_line p1_line) [(0, .ref h_p0), (1, .ref h_p1), (2, .int x2)] 53 [] := by
  intro x2 p0_openNumber p0_weight p0_above p0_depth p0_open p1_depth h
  exact lp_W (P := fun z => X_ p l e ({ frames := 2, cells := 0, slots := 0, locals := 83 } : Room) s m args below meth c Q D vwCl A 3 0 0 (W_X4_X3 cI cZ h_p0 h_p0_weight h_p0_above h_p0_depth h_p0_open h_p1 h_p1_symbol h_p1_weight h_p1_depth h_p1_line z.2.1 p0_leavesTaken p0_madeFront n_p0_weight z.2.2.1 n_p0_above z.2.2.2.1 n_p0_depth z.2.2.2.2.1 n_p0_open z.2.2.2.2.2.1 p1_size n_p1_symbol p1_symbol n_p1_weight p1_weight n_p1_depth z.2.2.2.2.2.2 n_p1_line p1_line) [(0, .ref h_p0), (1, .ref h_p1), (2, .int z.1)] 53 []) (fun rec ih z hz => w_X4_measureByHeap_53 S hK hA hend hWp (fun x2 p0_openNumber p0_weight p0_above p0_depth p0_open p1_depth hh => ih (x2, p0_openNumber, p0_weight, p0_above, p0_depth, p0_open, p1_depth) hh)  z.1 z.2.1 z.2.2.1 z.2.2.2.1 z.2.2.2.2.1 z.2.2.2.2.2.1 z.2.2.2.2.2.2 hz) k (x2, p0_openNumber, p0_weight, p0_above, p0_depth, p0_open, p1_depth) h 
noncomputable def bf_X4_measureByHeap_19 (F : Nat) (n_p0_weight : Nat) (n_p0_above : Nat) (n_p0_depth : Nat) (n_p0_open : Nat) (p1_size : Int32) (n_p1_weight : Nat) (p1_weight : Nat → Int32) (n_p1_depth : Nat) (rec19 : Int32 → Int32 → (Nat → Int32) → (Nat → Int32) → (Nat → Int32) → (Nat → Int32) → (Nat → Int32) → Option (Int32 × (Nat → Int32) × (Nat → Int32) × (Nat → Int32) × (Nat → Int32) × (Nat → Int32))) (x2 : Int32) (p0_openNumber : Int32) (p0_weight : Nat → Int32) (p0_above : Nat → Int32) (p0_depth : Nat → Int32) (p0_open : Nat → Int32) (p1_depth : Nat → Int32) : Option (Int32 × (Nat → Int32) × (Nat → Int32) × (Nat → Int32) × (Nat → Int32) × (Nat → Int32)) :=
  (if p1_size ≤ x2 then lf_X4_measureByHeap_53 F n_p0_weight n_p0_above n_p0_depth n_p0_open p1_size n_p1_weight p1_weight n_p1_depth F p1_size p1_size p0_weight p0_above p0_depth p0_open p1_depth else (if x2 < 0 ∨ n_p0_open ≤ (x2).toNatClampNeg then none else rec19 (x2 + (1 : Int32)) p0_openNumber p0_weight p0_above p0_depth (upd p0_open (x2).toNatClampNeg x2) p1_depth))
set_option maxRecDepth 100000 in
set_option maxHeartbeats 4000000 in
theorem w_X4_measureByHeap_19 (S : CallFix p m c cX4_measureByHeap 3 s args wsX4_measureByHeap RX4) (hK : K_ D vwCl [(cI, .int), (cZ, .boolean)] s) (hA : ∀ q, s.heap.size ≤ q → A q) {F : Nat} {p0_leavesTaken : Int32} {p0_madeFront : Int32} {n_p0_weight : Nat} {n_p0_above : Nat} {n_p0_depth : Nat} {n_p0_open : Nat} {p1_size : Int32} {n_p1_symbol : Nat} {p1_symbol : Nat → Int32} {n_p1_weight : Nat} {p1_weight : Nat → Int32} {n_p1_depth : Nat} {n_p1_line : Nat} {p1_line : Nat → Int32} {h_p0 h_p1 h_p0_weight h_p0_above h_p0_depth h_p0_open h_p1_symbol h_p1_weight h_p1_depth h_p1_line : Nat} {r : Int32 × (Nat → Int32) × (Nat → Int32) × (Nat → Int32) × (Nat → Int32) × (Nat → Int32)} {Wp : va_W → Prop} (hend : ∀ (w1 : va_W) (pc : Nat) (lv : List (Nat × Value)), Wp w1 → decode cX4_measureByHeap pc = .ok (.return_, 1) → X_ p l e ({ frames := 2, cells := 0, slots := 0, locals := 83 } : Room) s m args below meth c Q D vwCl A 3 0 0 w1 lv pc []) (hWp : Wp (W_X4_X3 cI cZ h_p0 h_p0_weight h_p0_above h_p0_depth h_p0_open h_p1 h_p1_symbol h_p1_weight h_p1_depth h_p1_line r.1 p0_leavesTaken p0_madeFront n_p0_weight r.2.1 n_p0_above r.2.2.1 n_p0_depth r.2.2.2.1 n_p0_open r.2.2.2.2.1 p1_size n_p1_symbol p1_symbol n_p1_weight p1_weight n_p1_depth r.2.2.2.2.2 n_p1_line p1_line)) {rec19 : Int32 → Int32 → (Nat → Int32) → (Nat → Int32) → (Nat → Int32) → (Nat → Int32) → (Nat → Int32) → Option (Int32 × (Nat → Int32) × (Nat → Int32) × (Nat → Int32) × (Nat → Int32) × (Nat → Int32))} (hrec19 : ∀ (x2 : Int32) (p0_openNumber : Int32) (p0_weight : Nat → Int32) (p0_above : Nat → Int32) (p0_depth : Nat → Int32) (p0_open : Nat → Int32) (p1_depth : Nat → Int32), rec19 x2 p0_openNumber p0_weight p0_above p0_depth p0_open p1_depth = some r → X_ p l e ({ frames := 2, cells := 0, slots := 0, locals := 83 } : Room) s m args below meth c Q D vwCl A 3 0 0 (W_X4_X3 cI cZ h_p0 h_p0_weight h_p0_above h_p0_depth h_p0_open h_p1 h_p1_symbol h_p1_weight h_p1_depth h_p1_line p0_openNumber p0_leavesTaken p0_madeFront n_p0_weight p0_weight n_p0_above p0_above n_p0_depth p0_depth n_p0_open p0_open p1_size n_p1_symbol p1_symbol n_p1_weight p1_weight n_p1_depth p1_depth n_p1_line p1_line) [(0, .ref h_p0), (1, .ref h_p1), (2, .int x2)] 19 []) : ∀ (x2 : Int32) (p0_openNumber : Int32) (p0_weight : Nat → Int32) (p0_above : Nat → Int32) (p0_depth : Nat → Int32) (p0_open : Nat → Int32) (p1_depth : Nat → Int32), bf_X4_measureByHeap_19 F n_p0_weight n_p0_above n_p0_depth n_p0_open p1_size n_p1_weight p1_weight n_p1_depth rec19 x2 p0_openNumber p0_weight p0_above p0_depth p0_open p1_depth = some r → X_ p l e ({ frames := 2, cells := 0, slots := 0, locals := 83 } : Room) s m args below meth c Q D vwCl A 3 0 0 (W_X4_X3 cI cZ h_p0 h_p0_weight h_p0_above h_p0_depth h_p0_open h_p1 h_p1_symbol h_p1_weight h_p1_depth h_p1_line p0_openNumber p0_leavesTaken p0_madeFront n_p0_weight p0_weight n_p0_above p0_above n_p0_depth p0_depth n_p0_open p0_open p1_size n_p1_symbol p1_symbol n_p1_weight p1_weight n_p1_depth p1_depth n_p1_line p1_line) [(0, .ref h_p0), (1, .ref h_p1), (2, .int x2)] 19 [] := by
  intro x2 p0_openNumber p0_weight p0_above p0_depth p0_open p1_depth h
  unfold bf_X4_measureByHeap_19 at h
  refine x_iload_n S dX4_measureByHeap_19 rfl 2 rfl ?_
  refine x_aload_n S dX4_measureByHeap_20 rfl 1 rfl ?_
  refine x_getN S hK i_X4_measureByHeap_X3 5 rfl rfl 4 (by decide) nf_X4_25 rfl rfl dX4_measureByHeap_21 ?_
  refine x_icmp_ge S 40 dX4_measureByHeap_24 (by decide) h (fun h => ?_) (fun h => ?_)
  · refine x_aload_n S dX4_measureByHeap_40 rfl 0 rfl ?_
    refine x_aload_n S dX4_measureByHeap_41 rfl 1 rfl ?_
    refine x_getN S hK i_X4_measureByHeap_X3 5 rfl rfl 4 (by decide) nf_X4_25 rfl rfl dX4_measureByHeap_42 ?_
    refine x_put (ty := .int) S hK i_X4_measureByHeap_X4 tyX4 tyX4_ok nmX4 0 rfl rfl 4 (by decide) k_X4_measureByHeap_35 rfl rfl (by decide +kernel) rfl rfl (Nat.le_of_ble_eq_true rfl) dX4_measureByHeap_45 rfl ?_
    refine x_aload_n S dX4_measureByHeap_48 rfl 1 rfl ?_
    refine x_getN S hK i_X4_measureByHeap_X3 5 rfl rfl 4 (by decide) nf_X4_25 rfl rfl dX4_measureByHeap_49 ?_
    refine x_istore_n (lv' := [(2, .int p1_size), (0, .ref h_p0), (1, .ref h_p1)]) S dX4_measureByHeap_52 rfl (by decide) rfl ?_
    refine x_lv [1, 2, 0] (by rfl) ?_
    exact wl_X4_measureByHeap_53 S hK hA hend hWp  F p1_size p1_size p0_weight p0_above p0_depth p0_open p1_depth h
  · refine x_aload_n S dX4_measureByHeap_27 rfl 0 rfl ?_
    refine x_get S hK i_X4_measureByHeap_X4 0 rfl rfl 3 (by decide) k_X4_measureByHeap_19 rfl rfl dX4_measureByHeap_28 ?_
    refine x_iload_n S dX4_measureByHeap_31 rfl 2 rfl ?_
    refine x_iload_n S dX4_measureByHeap_32 rfl 2 rfl ?_
    refine x_iast S hK 4 0 rfl rfl dX4_measureByHeap_33 h rfl (fun h => ?_)
    refine x_iinc (v := x2 + (1 : Int32)) (lv' := [(2, .int (x2 + (1 : Int32))), (0, .ref h_p0), (1, .ref h_p1)]) S dX4_measureByHeap_34 2 rfl rfl (by decide) rfl ?_
    refine x_goto S 19 dX4_measureByHeap_37 (by decide) ?_
    refine x_lv [1, 2, 0] (by rfl) ?_
    exact hrec19 (x2 + (1 : Int32)) p0_openNumber p0_weight p0_above p0_depth (upd p0_open (x2).toNatClampNeg x2) p1_depth h
noncomputable def lf_X4_measureByHeap_19 (F : Nat) (n_p0_weight : Nat) (n_p0_above : Nat) (n_p0_depth : Nat) (n_p0_open : Nat) (p1_size : Int32) (n_p1_weight : Nat) (p1_weight : Nat → Int32) (n_p1_depth : Nat)  (k : Nat) (x2 : Int32) (p0_openNumber : Int32) (p0_weight : Nat → Int32) (p0_above : Nat → Int32) (p0_depth : Nat → Int32) (p0_open : Nat → Int32) (p1_depth : Nat → Int32) : Option (Int32 × (Nat → Int32) × (Nat → Int32) × (Nat → Int32) × (Nat → Int32) × (Nat → Int32)) :=
  lp (fun (rec : Int32 × Int32 × (Nat → Int32) × (Nat → Int32) × (Nat → Int32) × (Nat → Int32) × (Nat → Int32) → Option (Int32 × (Nat → Int32) × (Nat → Int32) × (Nat → Int32) × (Nat → Int32) × (Nat → Int32))) (z : Int32 × Int32 × (Nat → Int32) × (Nat → Int32) × (Nat → Int32) × (Nat → Int32) × (Nat → Int32)) => bf_X4_measureByHeap_19 F n_p0_weight n_p0_above n_p0_depth n_p0_open p1_size n_p1_weight p1_weight n_p1_depth (fun x2 p0_openNumber p0_weight p0_above p0_depth p0_open p1_depth => rec (x2, p0_openNumber, p0_weight, p0_above, p0_depth, p0_open, p1_depth)) z.1 z.2.1 z.2.2.1 z.2.2.2.1 z.2.2.2.2.1 z.2.2.2.2.2.1 z.2.2.2.2.2.2) k (x2, p0_openNumber, p0_weight, p0_above, p0_depth, p0_open, p1_depth)
set_option maxRecDepth 100000 in
set_option maxHeartbeats 4000000 in
theorem wl_X4_measureByHeap_19 (S : CallFix p m c cX4_measureByHeap 3 s args wsX4_measureByHeap RX4) (hK : K_ D vwCl [(cI, .int), (cZ, .boolean)] s) (hA : ∀ q, s.heap.size ≤ q → A q) {F : Nat} {p0_leavesTaken : Int32} {p0_madeFront : Int32} {n_p0_weight : Nat} {n_p0_above : Nat} {n_p0_depth : Nat} {n_p0_open : Nat} {p1_size : Int32} {n_p1_symbol : Nat} {p1_symbol : Nat → Int32} {n_p1_weight : Nat} {p1_weight : Nat → Int32} {n_p1_depth : Nat} {n_p1_line : Nat} {p1_line : Nat → Int32} {h_p0 h_p1 h_p0_weight h_p0_above h_p0_depth h_p0_open h_p1_symbol h_p1_weight h_p1_depth h_p1_line : Nat} {r : Int32 × (Nat → Int32) × (Nat → Int32) × (Nat → Int32) × (Nat → Int32) × (Nat → Int32)} {Wp : va_W → Prop} (hend : ∀ (w1 : va_W) (pc : Nat) (lv : List (Nat × Value)), Wp w1 → decode cX4_measureByHeap pc = .ok (.return_, 1) → X_ p l e ({ frames := 2, cells := 0, slots := 0, locals := 83 } : Room) s m args below meth c Q D vwCl A 3 0 0 w1 lv pc []) (hWp : Wp (W_X4_X3 cI cZ h_p0 h_p0_weight h_p0_above h_p0_depth h_p0_open h_p1 h_p1_symbol h_p1_weight h_p1_depth h_p1_line r.1 p0_leavesTaken p0_madeFront n_p0_weight r.2.1 n_p0_above r.2.2.1 n_p0_depth r.2.2.2.1 n_p0_open r.2.2.2.2.1 p1_size n_p1_symbol p1_symbol n_p1_weight p1_weight n_p1_depth r.2.2.2.2.2 n_p1_line p1_line))   (k : Nat) : ∀ (x2 : Int32) (p0_openNumber : Int32) (p0_weight : Nat → Int32) (p0_above : Nat → Int32) (p0_depth : Nat → Int32) (p0_open : Nat → Int32) (p1_depth : Nat → Int32), lf_X4_measureByHeap_19 F n_p0_weight n_p0_above n_p0_depth n_p0_open p1_size n_p1_weight p1_weight n_p1_depth k x2 p0_openNumber p0_weight p0_above p0_depth p0_open p1_depth = some r → X_ p l e ({ frames := 2, cells := 0, slots := 0, locals := 83 } : Room) s m args below meth c Q D vwCl A 3 0 0 (W_X4_X3 cI cZ h_p0 h_p0_weight h_p0_above h_p0_depth h_p0_open h_p1 h_p1_symbol h_p1_weight h_p1_depth h_p1_line p0_openNumber p0_leavesTaken p0_madeFront n_p0_weight p0_weight n_p0_above p0_above n_p0_depth p0_depth n_p0_open p0_open p1_size n_p1_symbol p1_symbol n_p1_weight p1_weight n_p1_depth p1_depth n_p1_line p1_line) [(0, .ref h_p0), (1, .ref h_p1), (2, .int x2)] 19 [] := by
  intro x2 p0_openNumber p0_weight p0_above p0_depth p0_open p1_depth h
  exact lp_W (P := fun z => X_ p l e ({ frames := 2, cells := 0, slots := 0, locals := 83 } : Room) s m args below meth c Q D vwCl A 3 0 0 (W_X4_X3 cI cZ h_p0 h_p0_weight h_p0_above h_p0_depth h_p0_open h_p1 h_p1_symbol h_p1_weight h_p1_depth h_p1_line z.2.1 p0_leavesTaken p0_madeFront n_p0_weight z.2.2.1 n_p0_above z.2.2.2.1 n_p0_depth z.2.2.2.2.1 n_p0_open z.2.2.2.2.2.1 p1_size n_p1_symbol p1_symbol n_p1_weight p1_weight n_p1_depth z.2.2.2.2.2.2 n_p1_line p1_line) [(0, .ref h_p0), (1, .ref h_p1), (2, .int z.1)] 19 []) (fun rec ih z hz => w_X4_measureByHeap_19 S hK hA hend hWp (fun x2 p0_openNumber p0_weight p0_above p0_depth p0_open p1_depth hh => ih (x2, p0_openNumber, p0_weight, p0_above, p0_depth, p0_open, p1_depth) hh)  z.1 z.2.1 z.2.2.1 z.2.2.2.1 z.2.2.2.2.1 z.2.2.2.2.2.1 z.2.2.2.2.2.2 hz) k (x2, p0_openNumber, p0_weight, p0_above, p0_depth, p0_open, p1_depth) h 
noncomputable def bf_X4_measureByHeap_0 (F : Nat) (n_p0_weight : Nat) (n_p0_above : Nat) (n_p0_depth : Nat) (n_p0_open : Nat) (p1_size : Int32) (n_p1_weight : Nat) (p1_weight : Nat → Int32) (n_p1_depth : Nat)  (p0_openNumber : Int32) (p0_weight : Nat → Int32) (p0_above : Nat → Int32) (p0_depth : Nat → Int32) (p0_open : Nat → Int32) (p1_depth : Nat → Int32) : Option (Int32 × (Nat → Int32) × (Nat → Int32) × (Nat → Int32) × (Nat → Int32) × (Nat → Int32)) :=
  (if (0 : Int32) < 0 ∨ (0 : Int32) < 0 ∨ p1_size < 0 ∨ n_p1_weight < ((0 : Int32)).toNatClampNeg + (p1_size).toNatClampNeg ∨ n_p0_weight < ((0 : Int32)).toNatClampNeg + (p1_size).toNatClampNeg then none else lf_X4_measureByHeap_19 F n_p0_weight n_p0_above n_p0_depth n_p0_open p1_size n_p1_weight p1_weight n_p1_depth F (0 : Int32) p0_openNumber (va_cpy p1_weight p0_weight ((0 : Int32)).toNatClampNeg ((0 : Int32)).toNatClampNeg (p1_size).toNatClampNeg) p0_above p0_depth p0_open p1_depth)
set_option maxRecDepth 100000 in
set_option maxHeartbeats 4000000 in
theorem w_X4_measureByHeap_0 (S : CallFix p m c cX4_measureByHeap 3 s args wsX4_measureByHeap RX4) (hK : K_ D vwCl [(cI, .int), (cZ, .boolean)] s) (hA : ∀ q, s.heap.size ≤ q → A q) {F : Nat} {p0_leavesTaken : Int32} {p0_madeFront : Int32} {n_p0_weight : Nat} {n_p0_above : Nat} {n_p0_depth : Nat} {n_p0_open : Nat} {p1_size : Int32} {n_p1_symbol : Nat} {p1_symbol : Nat → Int32} {n_p1_weight : Nat} {p1_weight : Nat → Int32} {n_p1_depth : Nat} {n_p1_line : Nat} {p1_line : Nat → Int32} {h_p0 h_p1 h_p0_weight h_p0_above h_p0_depth h_p0_open h_p1_symbol h_p1_weight h_p1_depth h_p1_line : Nat} {r : Int32 × (Nat → Int32) × (Nat → Int32) × (Nat → Int32) × (Nat → Int32) × (Nat → Int32)} {Wp : va_W → Prop} (hend : ∀ (w1 : va_W) (pc : Nat) (lv : List (Nat × Value)), Wp w1 → decode cX4_measureByHeap pc = .ok (.return_, 1) → X_ p l e ({ frames := 2, cells := 0, slots := 0, locals := 83 } : Room) s m args below meth c Q D vwCl A 3 0 0 w1 lv pc []) (hWp : Wp (W_X4_X3 cI cZ h_p0 h_p0_weight h_p0_above h_p0_depth h_p0_open h_p1 h_p1_symbol h_p1_weight h_p1_depth h_p1_line r.1 p0_leavesTaken p0_madeFront n_p0_weight r.2.1 n_p0_above r.2.2.1 n_p0_depth r.2.2.2.1 n_p0_open r.2.2.2.2.1 p1_size n_p1_symbol p1_symbol n_p1_weight p1_weight n_p1_depth r.2.2.2.2.2 n_p1_line p1_line))   : ∀ (p0_openNumber : Int32) (p0_weight : Nat → Int32) (p0_above : Nat → Int32) (p0_depth : Nat → Int32) (p0_open : Nat → Int32) (p1_depth : Nat → Int32), bf_X4_measureByHeap_0 F n_p0_weight n_p0_above n_p0_depth n_p0_open p1_size n_p1_weight p1_weight n_p1_depth p0_openNumber p0_weight p0_above p0_depth p0_open p1_depth = some r → X_ p l e ({ frames := 2, cells := 0, slots := 0, locals := 83 } : Room) s m args below meth c Q D vwCl A 3 0 0 (W_X4_X3 cI cZ h_p0 h_p0_weight h_p0_above h_p0_depth h_p0_open h_p1 h_p1_symbol h_p1_weight h_p1_depth h_p1_line p0_openNumber p0_leavesTaken p0_madeFront n_p0_weight p0_weight n_p0_above p0_above n_p0_depth p0_depth n_p0_open p0_open p1_size n_p1_symbol p1_symbol n_p1_weight p1_weight n_p1_depth p1_depth n_p1_line p1_line) [(0, .ref h_p0), (1, .ref h_p1)] 0 [] := by
  intro p0_openNumber p0_weight p0_above p0_depth p0_open p1_depth h
  unfold bf_X4_measureByHeap_0 at h
  refine x_aload_n S dX4_measureByHeap_0 rfl 1 rfl ?_
  refine x_getN S hK i_X4_measureByHeap_X3 5 rfl rfl 1 (by decide) nf_X4_22 rfl rfl dX4_measureByHeap_1 ?_
  refine x_iconst (v := 0) S dX4_measureByHeap_4 (by decide) ?_
  refine x_aload_n S dX4_measureByHeap_5 rfl 0 rfl ?_
  refine x_get S hK i_X4_measureByHeap_X4 0 rfl rfl 0 (by decide) k_X4_measureByHeap_7 rfl rfl dX4_measureByHeap_6 ?_
  refine x_iconst (v := 0) S dX4_measureByHeap_9 (by decide) ?_
  refine x_aload_n S dX4_measureByHeap_10 rfl 1 rfl ?_
  refine x_getN S hK i_X4_measureByHeap_X3 5 rfl rfl 4 (by decide) nf_X4_25 rfl rfl dX4_measureByHeap_11 ?_
  refine x_copyi S hK k_X4_measureByHeap_29 kn_X4_measureByHeap_cp ks_X4_measureByHeap_cp ki_X4_measureByHeap_Sys 7 1 0 0 rfl rfl rfl rfl h (Nat.le_of_ble_eq_true rfl) (by decide +kernel) dX4_measureByHeap_14 rfl (fun h => ?_)
  refine x_iconst (v := 0) S dX4_measureByHeap_17 (by decide) ?_
  refine x_istore_n (lv' := [(2, .int (0 : Int32)), (0, .ref h_p0), (1, .ref h_p1)]) S dX4_measureByHeap_18 rfl (by decide) rfl ?_
  refine x_lv [1, 2, 0] (by rfl) ?_
  exact wl_X4_measureByHeap_19 S hK hA hend hWp  F (0 : Int32) p0_openNumber (va_cpy p1_weight p0_weight ((0 : Int32)).toNatClampNeg ((0 : Int32)).toNatClampNeg (p1_size).toNatClampNeg) p0_above p0_depth p0_open p1_depth h
noncomputable def fn_X4_measureByHeap (F : Nat) (n_p0_weight : Nat) (n_p0_above : Nat) (n_p0_depth : Nat) (n_p0_open : Nat) (p1_size : Int32) (n_p1_weight : Nat) (p1_weight : Nat → Int32) (n_p1_depth : Nat) (p0_openNumber : Int32) (p0_weight : Nat → Int32) (p0_above : Nat → Int32) (p0_depth : Nat → Int32) (p0_open : Nat → Int32) (p1_depth : Nat → Int32)  : Option (Int32 × (Nat → Int32) × (Nat → Int32) × (Nat → Int32) × (Nat → Int32) × (Nat → Int32)) :=
  bf_X4_measureByHeap_0 F n_p0_weight n_p0_above n_p0_depth n_p0_open p1_size n_p1_weight p1_weight n_p1_depth p0_openNumber p0_weight p0_above p0_depth p0_open p1_depth
set_option maxRecDepth 100000 in
set_option maxHeartbeats 4000000 in
theorem c_X4_measureByHeap (l : Launch) (D : va_G) (cI cZ : ClassId) (F : Nat) (h_p0 h_p0_weight h_p0_above h_p0_depth h_p0_open h_p1 h_p1_symbol h_p1_weight h_p1_depth h_p1_line : Nat) (p0_openNumber : Int32) (p0_leavesTaken : Int32) (p0_madeFront : Int32) (n_p0_weight : Nat) (p0_weight : Nat → Int32) (n_p0_above : Nat) (p0_above : Nat → Int32) (n_p0_depth : Nat) (p0_depth : Nat → Int32) (n_p0_open : Nat) (p0_open : Nat → Int32) (p1_size : Int32) (n_p1_symbol : Nat) (p1_symbol : Nat → Int32) (n_p1_weight : Nat) (p1_weight : Nat → Int32) (n_p1_depth : Nat) (p1_depth : Nat → Int32) (n_p1_line : Nat) (p1_line : Nat → Int32)  (r : Int32 × (Nat → Int32) × (Nat → Int32) × (Nat → Int32) × (Nat → Int32) × (Nat → Int32)) (h : fn_X4_measureByHeap F n_p0_weight n_p0_above n_p0_depth n_p0_open p1_size n_p1_weight p1_weight n_p1_depth p0_openNumber p0_weight p0_above p0_depth p0_open p1_depth = some r) : Cv l yX4_measureByHeap wsX4_measureByHeap ({ frames := 2, cells := 0, slots := 0, locals := 83 } : Room) D vwCl [(cI, .int), (cZ, .boolean)] [.ref h_p0, .ref h_p1] (W_X4_X3 cI cZ h_p0 h_p0_weight h_p0_above h_p0_depth h_p0_open h_p1 h_p1_symbol h_p1_weight h_p1_depth h_p1_line p0_openNumber p0_leavesTaken p0_madeFront n_p0_weight p0_weight n_p0_above p0_above n_p0_depth p0_depth n_p0_open p0_open p1_size n_p1_symbol p1_symbol n_p1_weight p1_weight n_p1_depth p1_depth n_p1_line p1_line) (fun w => w = (W_X4_X3 cI cZ h_p0 h_p0_weight h_p0_above h_p0_depth h_p0_open h_p1 h_p1_symbol h_p1_weight h_p1_depth h_p1_line r.1 p0_leavesTaken p0_madeFront n_p0_weight r.2.1 n_p0_above r.2.2.1 n_p0_depth r.2.2.2.1 n_p0_open r.2.2.2.2.1 p1_size n_p1_symbol p1_symbol n_p1_weight p1_weight n_p1_depth r.2.2.2.2.2 n_p1_line p1_line)) 0 0 :=
  Cv.ofv (by decide) rfl (Nat.le_of_ble_eq_true rfl) (fun p e s m args below meth c Q A S hK hA hname hend => w_X4_measureByHeap_0 S hK hA hend rfl p0_openNumber p0_weight p0_above p0_depth p0_open p1_depth h)
end

/-! ===== PrefixSmith$Merging.measureByQueues(LPrefixSmith$Leaves;)V ===== -/
theorem i_X4_measureByQueues_X3 : ∀ w ∈ u_ws RX3 TX3 5, w ∈ wsX4_measureByQueues := by decide +kernel
theorem i_X4_measureByQueues_X4 : ∀ w ∈ u_ws RX4 TX4 7, w ∈ wsX4_measureByQueues := by decide +kernel
theorem k_X4_measureByQueues_7 : Cond.fieldLink RX4 7 "PrefixSmith$Merging" "weight" "[I" ∈ wsX4_measureByQueues := by decide +kernel
theorem k_X4_measureByQueues_29 : Cond.methodLink RX4 29 arraycopyName ∈ wsX4_measureByQueues := by decide +kernel
theorem kn_X4_measureByQueues_cp : Cond.native arraycopyName ∈ wsX4_measureByQueues := by decide +kernel
theorem ks_X4_measureByQueues_cp : Cond.static arraycopyName ∈ wsX4_measureByQueues := by decide +kernel
theorem ki_X4_measureByQueues_Sys : Cond.initialized "java/lang/System" ∈ wsX4_measureByQueues := by decide +kernel
theorem k_X4_measureByQueues_57 : Cond.fieldLink RX4 57 "PrefixSmith$Merging" "leavesTaken" "I" ∈ wsX4_measureByQueues := by decide +kernel
theorem k_X4_measureByQueues_60 : Cond.fieldLink RX4 60 "PrefixSmith$Merging" "madeFront" "I" ∈ wsX4_measureByQueues := by decide +kernel
section
variable {p : Program} {l : Launch} {e : Env} {s : State} {m : MethodId} {args : Array Value} {below : List Frame} {meth : Method} {c : Code} {Q : State → Prop} {D : va_G} {A : Nat → Prop} {cI cZ : ClassId}
noncomputable def bf_X4_measureByQueues_39 (F : Nat) (n_p0_weight : Nat) (n_p0_above : Nat) (n_p0_depth : Nat) (p1_size : Int32) (n_p1_weight : Nat) (p1_weight : Nat → Int32) (n_p1_depth : Nat) (n_p1_line : Nat) (rec39 : Int32 → Int32 → Int32 → (Nat → Int32) → (Nat → Int32) → (Nat → Int32) → (Nat → Int32) → (Nat → Int32) → Option (Int32 × Int32 × (Nat → Int32) × (Nat → Int32) × (Nat → Int32) × (Nat → Int32) × (Nat → Int32))) (x2 : Int32) (p0_leavesTaken : Int32) (p0_madeFront : Int32) (p0_weight : Nat → Int32) (p0_above : Nat → Int32) (p0_depth : Nat → Int32) (p1_depth : Nat → Int32) (p1_line : Nat → Int32) : Option (Int32 × Int32 × (Nat → Int32) × (Nat → Int32) × (Nat → Int32) × (Nat → Int32) × (Nat → Int32)) :=
  (if (((2 : Int32) * p1_size) - (1 : Int32)) ≤ x2 then ((fn_X4_findDepths F n_p0_above p0_above n_p0_depth p1_size n_p1_depth p0_depth p1_depth).bind fun v82 => some (p0_leavesTaken, p0_madeFront, p0_weight, p0_above, v82.1, v82.2, p1_line)) else ((fn_X4_takeFront F n_p0_weight p0_weight p1_size n_p1_line p1_line p0_leavesTaken p0_madeFront x2).bind fun v54 => ((fn_X4_takeFront F n_p0_weight p0_weight p1_size n_p1_line p1_line v54.2.1 v54.2.2 x2).bind fun v61 => ((fn_X4_join F n_p0_weight n_p0_above p0_weight p0_above v54.1 v61.1 x2).bind fun v71 => rec39 (x2 + (1 : Int32)) v61.2.1 v61.2.2 v71.1 v71.2 p0_depth p1_depth p1_line))))
set_option maxRecDepth 100000 in
set_option maxHeartbeats 4000000 in
theorem w_X4_measureByQueues_39 (S : CallFix p m c cX4_measureByQueues 5 s args wsX4_measureByQueues RX4) (hK : K_ D vwCl [(cI, .int), (cZ, .boolean)] s) (hA : ∀ q, s.heap.size ≤ q → A q) {F : Nat} {p0_openNumber : Int32} {n_p0_weight : Nat} {n_p0_above : Nat} {n_p0_depth : Nat} {n_p0_open : Nat} {p0_open : Nat → Int32} {p1_size : Int32} {n_p1_symbol : Nat} {p1_symbol : Nat → Int32} {n_p1_weight : Nat} {p1_weight : Nat → Int32} {n_p1_depth : Nat} {n_p1_line : Nat} {h_p0 h_p1 h_p0_weight h_p0_above h_p0_depth h_p0_open h_p1_symbol h_p1_weight h_p1_depth h_p1_line : Nat} {r : Int32 × Int32 × (Nat → Int32) × (Nat → Int32) × (Nat → Int32) × (Nat → Int32) × (Nat → Int32)} {Wp : va_W → Prop} (hend : ∀ (w1 : va_W) (pc : Nat) (lv : List (Nat × Value)), Wp w1 → decode cX4_measureByQueues pc = .ok (.return_, 1) → X_ p l e ({ frames := 2, cells := 0, slots := 0, locals := 83 } : Room) s m args below meth c Q D vwCl A 5 0 0 w1 lv pc []) (hWp : Wp (W_X4_X3 cI cZ h_p0 h_p0_weight h_p0_above h_p0_depth h_p0_open h_p1 h_p1_symbol h_p1_weight h_p1_depth h_p1_line p0_openNumber r.1 r.2.1 n_p0_weight r.2.2.1 n_p0_above r.2.2.2.1 n_p0_depth r.2.2.2.2.1 n_p0_open p0_open p1_size n_p1_symbol p1_symbol n_p1_weight p1_weight n_p1_depth r.2.2.2.2.2.1 n_p1_line r.2.2.2.2.2.2)) {rec39 : Int32 → Int32 → Int32 → (Nat → Int32) → (Nat → Int32) → (Nat → Int32) → (Nat → Int32) → (Nat → Int32) → Option (Int32 × Int32 × (Nat → Int32) × (Nat → Int32) × (Nat → Int32) × (Nat → Int32) × (Nat → Int32))} (hrec39 : ∀ (x2 : Int32) (p0_leavesTaken : Int32) (p0_madeFront : Int32) (p0_weight : Nat → Int32) (p0_above : Nat → Int32) (p0_depth : Nat → Int32) (p1_depth : Nat → Int32) (p1_line : Nat → Int32), rec39 x2 p0_leavesTaken p0_madeFront p0_weight p0_above p0_depth p1_depth p1_line = some r → X_ p l e ({ frames := 2, cells := 0, slots := 0, locals := 83 } : Room) s m args below meth c Q D vwCl A 5 0 0 (W_X4_X3 cI cZ h_p0 h_p0_weight h_p0_above h_p0_depth h_p0_open h_p1 h_p1_symbol h_p1_weight h_p1_depth h_p1_line p0_openNumber p0_leavesTaken p0_madeFront n_p0_weight p0_weight n_p0_above p0_above n_p0_depth p0_depth n_p0_open p0_open p1_size n_p1_symbol p1_symbol n_p1_weight p1_weight n_p1_depth p1_depth n_p1_line p1_line) [(0, .ref h_p0), (1, .ref h_p1), (2, .int x2)] 39 []) : ∀ (x2 : Int32) (p0_leavesTaken : Int32) (p0_madeFront : Int32) (p0_weight : Nat → Int32) (p0_above : Nat → Int32) (p0_depth : Nat → Int32) (p1_depth : Nat → Int32) (p1_line : Nat → Int32), bf_X4_measureByQueues_39 F n_p0_weight n_p0_above n_p0_depth p1_size n_p1_weight p1_weight n_p1_depth n_p1_line rec39 x2 p0_leavesTaken p0_madeFront p0_weight p0_above p0_depth p1_depth p1_line = some r → X_ p l e ({ frames := 2, cells := 0, slots := 0, locals := 83 } : Room) s m args below meth c Q D vwCl A 5 0 0 (W_X4_X3 cI cZ h_p0 h_p0_weight h_p0_above h_p0_depth h_p0_open h_p1 h_p1_symbol h_p1_weight h_p1_depth h_p1_line p0_openNumber p0_leavesTaken p0_madeFront n_p0_weight p0_weight n_p0_above p0_above n_p0_depth p0_depth n_p0_open p0_open p1_size n_p1_symbol p1_symbol n_p1_weight p1_weight n_p1_depth p1_depth n_p1_line p1_line) [(0, .ref h_p0), (1, .ref h_p1), (2, .int x2)] 39 [] := by
  intro x2 p0_leavesTaken p0_madeFront p0_weight p0_above p0_depth p1_depth p1_line h
  unfold bf_X4_measureByQueues_39 at h
  refine x_iload_n S dX4_measureByQueues_39 rfl 2 rfl ?_
  refine x_iconst (v := 2) S dX4_measureByQueues_40 (by decide) ?_
  refine x_aload_n S dX4_measureByQueues_41 rfl 1 rfl ?_
  refine x_getN S hK i_X4_measureByQueues_X3 5 rfl rfl 4 (by decide) nf_X4_25 rfl rfl dX4_measureByQueues_42 ?_
  refine x_imul S dX4_measureByQueues_45 ?_
  refine x_iconst (v := 1) S dX4_measureByQueues_46 (by decide) ?_
  refine x_isub S dX4_measureByQueues_47 ?_
  refine x_icmp_ge S 80 dX4_measureByQueues_48 (by decide) h (fun h => ?_) (fun h => ?_)
  · refine x_aload_n S dX4_measureByQueues_80 rfl 0 rfl ?_
    refine x_aload_n S dX4_measureByQueues_81 rfl 1 rfl ?_
    obtain ⟨v82, h82, h⟩ := gbind h
    refine x_callVv S hK hA (c_X4_findDepths l D cI cZ F h_p0 h_p0_weight h_p0_above h_p0_depth h_p0_open h_p1 h_p1_symbol h_p1_weight h_p1_depth h_p1_line p0_openNumber p0_leavesTaken p0_madeFront n_p0_weight p0_weight n_p0_above p0_above n_p0_depth p0_depth n_p0_open p0_open p1_size n_p1_symbol p1_symbol n_p1_weight p1_weight n_p1_depth p1_depth n_p1_line p1_line  v82 h82) (cwV 1 S.2.2.2.2 gX4_measureByQueues_X4_findDepths rfl rfl rfl (by decide +kernel) ⟨(Nat.le_of_ble_eq_true rfl), (Nat.le_of_ble_eq_true rfl)⟩) [0, 1, 2, 3, 4, 5, 6, 7, 8, 9] [] rfl (by decide) rfl (by decide) (by decide) 0 4 rfl rfl rfl (Nat.le_of_ble_eq_true rfl) rfl dX4_measureByQueues_82 ⟨(Nat.le_of_ble_eq_true rfl), (Nat.le_of_ble_eq_true rfl)⟩ (fun w1 hw1 => ?_)
    subst hw1
    refine x_ws (ws' := (W_X4_X3 cI cZ h_p0 h_p0_weight h_p0_above h_p0_depth h_p0_open h_p1 h_p1_symbol h_p1_weight h_p1_depth h_p1_line p0_openNumber p0_leavesTaken p0_madeFront n_p0_weight p0_weight n_p0_above p0_above n_p0_depth v82.1 n_p0_open p0_open p1_size n_p1_symbol p1_symbol n_p1_weight p1_weight n_p1_depth v82.2 n_p1_line p1_line)) [0, 1, 2, 3, 4, 5, 6, 7, 8, 9] (by decide) (by rfl) ?_
    obtain rfl := Option.some.inj h
    exact hend _ _ _ hWp dX4_measureByQueues_85
  · refine x_aload_n S dX4_measureByQueues_51 rfl 0 rfl ?_
    refine x_aload_n S dX4_measureByQueues_52 rfl 1 rfl ?_
    refine x_iload_n S dX4_measureByQueues_53 rfl 2 rfl ?_
    obtain ⟨v54, h54, h⟩ := gbind h
    refine x_callVi S hK hA (c_X4_takeFront l D cI cZ F h_p0 h_p0_weight h_p0_above h_p0_depth h_p0_open h_p1 h_p1_symbol h_p1_weight h_p1_depth h_p1_line p0_openNumber p0_leavesTaken p0_madeFront n_p0_weight p0_weight n_p0_above p0_above n_p0_depth p0_depth n_p0_open p0_open p1_size n_p1_symbol p1_symbol n_p1_weight p1_weight n_p1_depth p1_depth n_p1_line p1_line x2 v54 h54) (cwV 2 S.2.2.2.2 gX4_measureByQueues_X4_takeFront rfl rfl rfl (by decide +kernel) ⟨(Nat.le_of_ble_eq_true rfl), (Nat.le_of_ble_eq_true rfl)⟩) [0, 1, 2, 3, 4, 5, 6, 7, 8, 9] [] rfl (by decide) rfl (by decide) (by decide) 0 4 rfl rfl rfl (Nat.le_of_ble_eq_true rfl) rfl dX4_measureByQueues_54 ⟨(Nat.le_of_ble_eq_true rfl), (Nat.le_of_ble_eq_true rfl)⟩ (fun w1 hw1 => ?_)
    subst hw1
    refine x_ws (ws' := (W_X4_X3 cI cZ h_p0 h_p0_weight h_p0_above h_p0_depth h_p0_open h_p1 h_p1_symbol h_p1_weight h_p1_depth h_p1_line p0_openNumber v54.2.1 v54.2.2 n_p0_weight p0_weight n_p0_above p0_above n_p0_depth p0_depth n_p0_open p0_open p1_size n_p1_symbol p1_symbol n_p1_weight p1_weight n_p1_depth p1_depth n_p1_line p1_line)) [0, 1, 2, 3, 4, 5, 6, 7, 8, 9] (by decide) (by rfl) ?_
    refine x_istore_n (lv' := [(3, .int v54.1), (0, .ref h_p0), (1, .ref h_p1), (2, .int x2)]) S dX4_measureByQueues_57 rfl (by decide) rfl ?_
    refine x_aload_n S dX4_measureByQueues_58 rfl 1 rfl ?_
    refine x_aload_n S dX4_measureByQueues_59 rfl 2 rfl ?_
    refine x_iload_n S dX4_measureByQueues_60 rfl 3 rfl ?_
    obtain ⟨v61, h61, h⟩ := gbind h
    refine x_callVi S hK hA (c_X4_takeFront l D cI cZ F h_p0 h_p0_weight h_p0_above h_p0_depth h_p0_open h_p1 h_p1_symbol h_p1_weight h_p1_depth h_p1_line p0_openNumber v54.2.1 v54.2.2 n_p0_weight p0_weight n_p0_above p0_above n_p0_depth p0_depth n_p0_open p0_open p1_size n_p1_symbol p1_symbol n_p1_weight p1_weight n_p1_depth p1_depth n_p1_line p1_line x2 v61 h61) (cwV 2 S.2.2.2.2 gX4_measureByQueues_X4_takeFront rfl rfl rfl (by decide +kernel) ⟨(Nat.le_of_ble_eq_true rfl), (Nat.le_of_ble_eq_true rfl)⟩) [0, 1, 2, 3, 4, 5, 6, 7, 8, 9] [] rfl (by decide) rfl (by decide) (by decide) 0 4 rfl rfl rfl (Nat.le_of_ble_eq_true rfl) rfl dX4_measureByQueues_61 ⟨(Nat.le_of_ble_eq_true rfl), (Nat.le_of_ble_eq_true rfl)⟩ (fun w1 hw1 => ?_)
    subst hw1
    refine x_ws (ws' := (W_X4_X3 cI cZ h_p0 h_p0_weight h_p0_above h_p0_depth h_p0_open h_p1 h_p1_symbol h_p1_weight h_p1_depth h_p1_line p0_openNumber v61.2.1 v61.2.2 n_p0_weight p0_weight n_p0_above p0_above n_p0_depth p0_depth n_p0_open p0_open p1_size n_p1_symbol p1_symbol n_p1_weight p1_weight n_p1_depth p1_depth n_p1_line p1_line)) [0, 1, 2, 3, 4, 5, 6, 7, 8, 9] (by decide) (by rfl) ?_
    refine x_istore (lv' := [(4, .int v61.1), (3, .int v54.1), (0, .ref h_p0), (1, .ref h_p1), (2, .int x2)]) S dX4_measureByQueues_64 (by decide) rfl ?_
    refine x_aload_n S dX4_measureByQueues_66 rfl 2 rfl ?_
    refine x_iload_n S dX4_measureByQueues_67 rfl 1 rfl ?_
    refine x_iload S dX4_measureByQueues_68 0 rfl ?_
    refine x_iload_n S dX4_measureByQueues_70 rfl 4 rfl ?_
    obtain ⟨v71, h71, h⟩ := gbind h
    refine x_callVv S hK hA (c_X4_join l D cI cZ F h_p0 h_p0_weight h_p0_above h_p0_depth h_p0_open p0_openNumber v61.2.1 v61.2.2 n_p0_weight p0_weight n_p0_above p0_above n_p0_depth p0_depth n_p0_open p0_open v54.1 v61.1 x2 v71 h71) (cwV 3 S.2.2.2.2 gX4_measureByQueues_X4_join rfl rfl rfl (by decide +kernel) ⟨(Nat.le_of_ble_eq_true rfl), (Nat.le_of_ble_eq_true rfl)⟩) [0, 1, 2, 3, 4] [5, 6, 7, 8, 9] rfl (by decide) rfl (by decide) (by decide) 0 4 rfl rfl rfl (Nat.le_of_ble_eq_true rfl) rfl dX4_measureByQueues_71 ⟨(Nat.le_of_ble_eq_true rfl), (Nat.le_of_ble_eq_true rfl)⟩ (fun w1 hw1 => ?_)
    subst hw1
    refine x_ws (ws' := (W_X4_X3 cI cZ h_p0 h_p0_weight h_p0_above h_p0_depth h_p0_open h_p1 h_p1_symbol h_p1_weight h_p1_depth h_p1_line p0_openNumber v61.2.1 v61.2.2 n_p0_weight v71.1 n_p0_above v71.2 n_p0_depth p0_depth n_p0_open p0_open p1_size n_p1_symbol p1_symbol n_p1_weight p1_weight n_p1_depth p1_depth n_p1_line p1_line)) [5, 6, 7, 8, 9, 0, 1, 2, 3, 4] (by decide) (by rfl) ?_
    refine x_iinc (v := x2 + (1 : Int32)) (lv' := [(2, .int (x2 + (1 : Int32))), (4, .int v61.1), (3, .int v54.1), (0, .ref h_p0), (1, .ref h_p1)]) S dX4_measureByQueues_74 4 rfl rfl (by decide) rfl ?_
    refine x_goto S 39 dX4_measureByQueues_77 (by decide) ?_
    refine x_lv [3, 4, 0] (by rfl) ?_
    exact hrec39 (x2 + (1 : Int32)) v61.2.1 v61.2.2 v71.1 v71.2 p0_depth p1_depth p1_line h
noncomputable def lf_X4_measureByQueues_39 (F : Nat) (n_p0_weight : Nat) (n_p0_above : Nat) (n_p0_depth : Nat) (p1_size : Int32) (n_p1_weight : Nat) (p1_weight : Nat → Int32) (n_p1_depth : Nat) (n_p1_line : Nat)  (k : Nat) (x2 : Int32) (p0_leavesTaken : Int32) (p0_madeFront : Int32) (p0_weight : Nat → Int32) (p0_above : Nat → Int32) (p0_depth : Nat → Int32) (p1_depth : Nat → Int32) (p1_line : Nat → Int32) : Option (Int32 × Int32 × (Nat → Int32) × (Nat → Int32) × (Nat → Int32) × (Nat → Int32) × (Nat → Int32)) :=
  lp (fun (rec : Int32 × Int32 × Int32 × (Nat → Int32) × (Nat → Int32) × (Nat → Int32) × (Nat → Int32) × (Nat → Int32) → Option (Int32 × Int32 × (Nat → Int32) × (Nat → Int32) × (Nat → Int32) × (Nat → Int32) × (Nat → Int32))) (z : Int32 × Int32 × Int32 × (Nat → Int32) × (Nat → Int32) × (Nat → Int32) × (Nat → Int32) × (Nat → Int32)) => bf_X4_measureByQueues_39 F n_p0_weight n_p0_above n_p0_depth p1_size n_p1_weight p1_weight n_p1_depth n_p1_line (fun x2 p0_leavesTaken p0_madeFront p0_weight p0_above p0_depth p1_depth p1_line => rec (x2, p0_leavesTaken, p0_madeFront, p0_weight, p0_above, p0_depth, p1_depth, p1_line)) z.1 z.2.1 z.2.2.1 z.2.2.2.1 z.2.2.2.2.1 z.2.2.2.2.2.1 z.2.2.2.2.2.2.1 z.2.2.2.2.2.2.2) k (x2, p0_leavesTaken, p0_madeFront, p0_weight, p0_above, p0_depth, p1_depth, p1_line)
set_option maxRecDepth 100000 in
set_option maxHeartbeats 4000000 in
theorem wl_X4_measureByQueues_39 (S : CallFix p m c cX4_measureByQueues 5 s args wsX4_measureByQueues RX4) (hK : K_ D vwCl [(cI, .int), (cZ, .boolean)] s) (hA : ∀ q, s.heap.size ≤ q → A q) {F : Nat} {p0_openNumber : Int32} {n_p0_weight : Nat} {n_p0_above : Nat} {n_p0_depth : Nat} {n_p0_open : Nat} {p0_open : Nat → Int32} {p1_size : Int32} {n_p1_symbol : Nat} {p1_symbol : Nat → Int32} {n_p1_weight : Nat} {p1_weight : Nat → Int32} {n_p1_depth : Nat} {n_p1_line : Nat} {h_p0 h_p1 h_p0_weight h_p0_above h_p0_depth h_p0_open h_p1_symbol h_p1_weight h_p1_depth h_p1_line : Nat} {r : Int32 × Int32 × (Nat → Int32) × (Nat → Int32) × (Nat → Int32) × (Nat → Int32) × (Nat → Int32)} {Wp : va_W → Prop} (hend : ∀ (w1 : va_W) (pc : Nat) (lv : List (Nat × Value)), Wp w1 → decode cX4_measureByQueues pc = .ok (.return_, 1) → X_ p l e ({ frames := 2, cells := 0, slots := 0, locals := 83 } : Room) s m args below meth c Q D vwCl A 5 0 0 w1 lv pc []) (hWp : Wp (W_X4_X3 cI cZ h_p0 h_p0_weight h_p0_above h_p0_depth h_p0_open h_p1 h_p1_symbol h_p1_weight h_p1_depth h_p1_line p0_openNumber r.1 r.2.1 n_p0_weight r.2.2.1 n_p0_above r.2.2.2.1 n_p0_depth r.2.2.2.2.1 n_p0_open p0_open p1_size n_p1_symbol p1_symbol n_p1_weight p1_weight n_p1_depth r.2.2.2.2.2.1 n_p1_line r.2.2.2.2.2.2))   (k : Nat) : ∀ (x2 : Int32) (p0_leavesTaken : Int32) (p0_madeFront : Int32) (p0_weight : Nat → Int32) (p0_above : Nat → Int32) (p0_depth : Nat → Int32) (p1_depth : Nat → Int32) (p1_line : Nat → Int32), lf_X4_measureByQueues_39 F n_p0_weight n_p0_above n_p0_depth p1_size n_p1_weight p1_weight n_p1_depth n_p1_line k x2 p0_leavesTaken p0_madeFront p0_weight p0_above p0_depth p1_depth p1_line = some r → X_ p l e ({ frames := 2, cells := 0, slots := 0, locals := 83 } : Room) s m args below meth c Q D vwCl A 5 0 0 (W_X4_X3 cI cZ h_p0 h_p0_weight h_p0_above h_p0_depth h_p0_open h_p1 h_p1_symbol h_p1_weight h_p1_depth h_p1_line p0_openNumber p0_leavesTaken p0_madeFront n_p0_weight p0_weight n_p0_above p0_above n_p0_depth p0_depth n_p0_open p0_open p1_size n_p1_symbol p1_symbol n_p1_weight p1_weight n_p1_depth p1_depth n_p1_line p1_line) [(0, .ref h_p0), (1, .ref h_p1), (2, .int x2)] 39 [] := by
  intro x2 p0_leavesTaken p0_madeFront p0_weight p0_above p0_depth p1_depth p1_line h
  exact lp_W (P := fun z => X_ p l e ({ frames := 2, cells := 0, slots := 0, locals := 83 } : Room) s m args below meth c Q D vwCl A 5 0 0 (W_X4_X3 cI cZ h_p0 h_p0_weight h_p0_above h_p0_depth h_p0_open h_p1 h_p1_symbol h_p1_weight h_p1_depth h_p1_line p0_openNumber z.2.1 z.2.2.1 n_p0_weight z.2.2.2.1 n_p0_above z.2.2.2.2.1 n_p0_depth z.2.2.2.2.2.1 n_p0_open p0_open p1_size n_p1_symbol p1_symbol n_p1_weight p1_weight n_p1_depth z.2.2.2.2.2.2.1 n_p1_line z.2.2.2.2.2.2.2) [(0, .ref h_p0), (1, .ref h_p1), (2, .int z.1)] 39 []) (fun rec ih z hz => w_X4_measureByQueues_39 S hK hA hend hWp (fun x2 p0_leavesTaken p0_madeFront p0_weight p0_above p0_depth p1_depth p1_line hh => ih (x2, p0_leavesTaken, p0_madeFront, p0_weight, p0_above, p0_depth, p1_depth, p1_line) hh)  z.1 z.2.1 z.2.2.1 z.2.2.2.1 z.2.2.2.2.1 z.2.2.2.2.2.1 z.2.2.2.2.2.2.1 z.2.2.2.2.2.2.2 hz) k (x2, p0_leavesTaken, p0_madeFront, p0_weight, p0_above, p0_depth, p1_depth, p1_line) h 
noncomputable def bf_X4_measureByQueues_0 (F : Nat) (n_p0_weight : Nat) (n_p0_above : Nat) (n_p0_depth : Nat) (p1_size : Int32) (n_p1_weight : Nat) (p1_weight : Nat → Int32) (n_p1_depth : Nat) (n_p1_line : Nat)  (p0_leavesTaken : Int32) (p0_madeFront : Int32) (p0_weight : Nat → Int32) (p0_above : Nat → Int32) (p0_depth : Nat → Int32) (p1_depth : Nat → Int32) (p1_line : Nat → Int32) : Option (Int32 × Int32 × (Nat → Int32) × (Nat → Int32) × (Nat → Int32) × (Nat → Int32) × (Nat → Int32)) :=
  (if (0 : Int32) < 0 ∨ (0 : Int32) < 0 ∨ p1_size < 0 ∨ n_p1_weight < ((0 : Int32)).toNatClampNeg + (p1_size).toNatClampNeg ∨ n_p0_weight < ((0 : Int32)).toNatClampNeg + (p1_size).toNatClampNeg then none else ((fn_X3_lineUpRising F p1_size n_p1_weight p1_weight n_p1_line p1_line).bind fun v18 => lf_X4_measureByQueues_39 F n_p0_weight n_p0_above n_p0_depth p1_size n_p1_weight p1_weight n_p1_depth n_p1_line F p1_size (0 : Int32) p1_size (va_cpy p1_weight p0_weight ((0 : Int32)).toNatClampNeg ((0 : Int32)).toNatClampNeg (p1_size).toNatClampNeg) p0_above p0_depth p1_depth v18))
set_option maxRecDepth 100000 in
set_option maxHeartbeats 4000000 in
theorem w_X4_measureByQueues_0 (S : CallFix p m c cX4_measureByQueues 5 s args wsX4_measureByQueues RX4) (hK : K_ D vwCl [(cI, .int), (cZ, .boolean)] s) (hA : ∀ q, s.heap.size ≤ q → A q) {F : Nat} {p0_openNumber : Int32} {n_p0_weight : Nat} {n_p0_above : Nat} {n_p0_depth : Nat} {n_p0_open : Nat} {p0_open : Nat → Int32} {p1_size : Int32} {n_p1_symbol : Nat} {p1_symbol : Nat → Int32} {n_p1_weight : Nat} {p1_weight : Nat → Int32} {n_p1_depth : Nat} {n_p1_line : Nat} {h_p0 h_p1 h_p0_weight h_p0_above h_p0_depth h_p0_open h_p1_symbol h_p1_weight h_p1_depth h_p1_line : Nat} {r : Int32 × Int32 × (Nat → Int32) × (Nat → Int32) × (Nat → Int32) × (Nat → Int32) × (Nat → Int32)} {Wp : va_W → Prop} (hend : ∀ (w1 : va_W) (pc : Nat) (lv : List (Nat × Value)), Wp w1 → decode cX4_measureByQueues pc = .ok (.return_, 1) → X_ p l e ({ frames := 2, cells := 0, slots := 0, locals := 83 } : Room) s m args below meth c Q D vwCl A 5 0 0 w1 lv pc []) (hWp : Wp (W_X4_X3 cI cZ h_p0 h_p0_weight h_p0_above h_p0_depth h_p0_open h_p1 h_p1_symbol h_p1_weight h_p1_depth h_p1_line p0_openNumber r.1 r.2.1 n_p0_weight r.2.2.1 n_p0_above r.2.2.2.1 n_p0_depth r.2.2.2.2.1 n_p0_open p0_open p1_size n_p1_symbol p1_symbol n_p1_weight p1_weight n_p1_depth r.2.2.2.2.2.1 n_p1_line r.2.2.2.2.2.2))   : ∀ (p0_leavesTaken : Int32) (p0_madeFront : Int32) (p0_weight : Nat → Int32) (p0_above : Nat → Int32) (p0_depth : Nat → Int32) (p1_depth : Nat → Int32) (p1_line : Nat → Int32), bf_X4_measureByQueues_0 F n_p0_weight n_p0_above n_p0_depth p1_size n_p1_weight p1_weight n_p1_depth n_p1_line p0_leavesTaken p0_madeFront p0_weight p0_above p0_depth p1_depth p1_line = some r → X_ p l e ({ frames := 2, cells := 0, slots := 0, locals := 83 } : Room) s m args below meth c Q D vwCl A 5 0 0 (W_X4_X3 cI cZ h_p0 h_p0_weight h_p0_above h_p0_depth h_p0_open h_p1 h_p1_symbol h_p1_weight h_p1_depth h_p1_line p0_openNumber p0_leavesTaken p0_madeFront n_p0_weight p0_weight n_p0_above p0_above n_p0_depth p0_depth n_p0_open p0_open p1_size n_p1_symbol p1_symbol n_p1_weight p1_weight n_p1_depth p1_depth n_p1_line p1_line) [(0, .ref h_p0), (1, .ref h_p1)] 0 [] := by
  intro p0_leavesTaken p0_madeFront p0_weight p0_above p0_depth p1_depth p1_line h
  unfold bf_X4_measureByQueues_0 at h
  refine x_aload_n S dX4_measureByQueues_0 rfl 1 rfl ?_
  refine x_getN S hK i_X4_measureByQueues_X3 5 rfl rfl 1 (by decide) nf_X4_22 rfl rfl dX4_measureByQueues_1 ?_
  refine x_iconst (v := 0) S dX4_measureByQueues_4 (by decide) ?_
  refine x_aload_n S dX4_measureByQueues_5 rfl 0 rfl ?_
  refine x_get S hK i_X4_measureByQueues_X4 0 rfl rfl 0 (by decide) k_X4_measureByQueues_7 rfl rfl dX4_measureByQueues_6 ?_
  refine x_iconst (v := 0) S dX4_measureByQueues_9 (by decide) ?_
  refine x_aload_n S dX4_measureByQueues_10 rfl 1 rfl ?_
  refine x_getN S hK i_X4_measureByQueues_X3 5 rfl rfl 4 (by decide) nf_X4_25 rfl rfl dX4_measureByQueues_11 ?_
  refine x_copyi S hK k_X4_measureByQueues_29 kn_X4_measureByQueues_cp ks_X4_measureByQueues_cp ki_X4_measureByQueues_Sys 7 1 0 0 rfl rfl rfl rfl h (Nat.le_of_ble_eq_true rfl) (by decide +kernel) dX4_measureByQueues_14 rfl (fun h => ?_)
  refine x_aload_n S dX4_measureByQueues_17 rfl 1 rfl ?_
  obtain ⟨v18, h18, h⟩ := gbind h
  refine x_callVv S hK hA (c_X3_lineUpRising l D cI cZ F h_p1 h_p1_symbol h_p1_weight h_p1_depth h_p1_line p1_size n_p1_symbol p1_symbol n_p1_weight p1_weight n_p1_depth p1_depth n_p1_line p1_line  v18 h18) (cwV 0 S.2.2.2.2 gX4_measureByQueues_X3_lineUpRising rfl rfl rfl (by decide +kernel) ⟨(Nat.le_of_ble_eq_true rfl), (Nat.le_of_ble_eq_true rfl)⟩) [5, 6, 7, 8, 9] [0, 1, 2, 3, 4] rfl (by decide) rfl (by decide) (by decide) 0 3 rfl rfl rfl (Nat.le_of_ble_eq_true rfl) rfl dX4_measureByQueues_18 ⟨(Nat.le_of_ble_eq_true rfl), (Nat.le_of_ble_eq_true rfl)⟩ (fun w1 hw1 => ?_)
  subst hw1
  refine x_ws (ws' := (W_X4_X3 cI cZ h_p0 h_p0_weight h_p0_above h_p0_depth h_p0_open h_p1 h_p1_symbol h_p1_weight h_p1_depth h_p1_line p0_openNumber p0_leavesTaken p0_madeFront n_p0_weight (va_cpy p1_weight p0_weight ((0 : Int32)).toNatClampNeg ((0 : Int32)).toNatClampNeg (p1_size).toNatClampNeg) n_p0_above p0_above n_p0_depth p0_depth n_p0_open p0_open p1_size n_p1_symbol p1_symbol n_p1_weight p1_weight n_p1_depth p1_depth n_p1_line v18)) [0, 1, 2, 3, 4, 5, 6, 7, 8, 9] (by decide) (by rfl) ?_
  refine x_aload_n S dX4_measureByQueues_21 rfl 0 rfl ?_
  refine x_iconst (v := 0) S dX4_measureByQueues_22 (by decide) ?_
  refine x_put (ty := .int) S hK i_X4_measureByQueues_X4 tyX4 tyX4_ok nmX4 0 rfl rfl 5 (by decide) k_X4_measureByQueues_57 rfl rfl (by decide +kernel) rfl rfl (Nat.le_of_ble_eq_true rfl) dX4_measureByQueues_23 rfl ?_
  refine x_aload_n S dX4_measureByQueues_26 rfl 0 rfl ?_
  refine x_aload_n S dX4_measureByQueues_27 rfl 1 rfl ?_
  refine x_getN S hK i_X4_measureByQueues_X3 5 rfl rfl 4 (by decide) nf_X4_25 rfl rfl dX4_measureByQueues_28 ?_
  refine x_put (ty := .int) S hK i_X4_measureByQueues_X4 tyX4 tyX4_ok nmX4 0 rfl rfl 6 (by decide) k_X4_measureByQueues_60 rfl rfl (by decide +kernel) rfl rfl (Nat.le_of_ble_eq_true rfl) dX4_measureByQueues_31 rfl ?_
  refine x_aload_n S dX4_measureByQueues_34 rfl 1 rfl ?_
  refine x_getN S hK i_X4_measureByQueues_X3 5 rfl rfl 4 (by decide) nf_X4_25 rfl rfl dX4_measureByQueues_35 ?_
  refine x_istore_n (lv' := [(2, .int p1_size), (0, .ref h_p0), (1, .ref h_p1)]) S dX4_measureByQueues_38 rfl (by decide) rfl ?_
  refine x_lv [1, 2, 0] (by rfl) ?_
  exact wl_X4_measureByQueues_39 S hK hA hend hWp  F p1_size (0 : Int32) p1_size (va_cpy p1_weight p0_weight ((0 : Int32)).toNatClampNeg ((0 : Int32)).toNatClampNeg (p1_size).toNatClampNeg) p0_above p0_depth p1_depth v18 h
noncomputable def fn_X4_measureByQueues (F : Nat) (n_p0_weight : Nat) (n_p0_above : Nat) (n_p0_depth : Nat) (p1_size : Int32) (n_p1_weight : Nat) (p1_weight : Nat → Int32) (n_p1_depth : Nat) (n_p1_line : Nat) (p0_leavesTaken : Int32) (p0_madeFront : Int32) (p0_weight : Nat → Int32) (p0_above : Nat → Int32) (p0_depth : Nat → Int32) (p1_depth : Nat → Int32) (p1_line : Nat → Int32)  : Option (Int32 × Int32 × (Nat → Int32) × (Nat → Int32) × (Nat → Int32) × (Nat → Int32) × (Nat → Int32)) :=
  bf_X4_measureByQueues_0 F n_p0_weight n_p0_above n_p0_depth p1_size n_p1_weight p1_weight n_p1_depth n_p1_line p0_leavesTaken p0_madeFront p0_weight p0_above p0_depth p1_depth p1_line
set_option maxRecDepth 100000 in
set_option maxHeartbeats 4000000 in
theorem c_X4_measureByQueues (l : Launch) (D : va_G) (cI cZ : ClassId) (F : Nat) (h_p0 h_p0_weight h_p0_above h_p0_depth h_p0_open h_p1 h_p1_symbol h_p1_weight h_p1_depth h_p1_line : Nat) (p0_openNumber : Int32) (p0_leavesTaken : Int32) (p0_madeFront : Int32) (n_p0_weight : Nat) (p0_weight : Nat → Int32) (n_p0_above : Nat) (p0_above : Nat → Int32) (n_p0_depth : Nat) (p0_depth : Nat → Int32) (n_p0_open : Nat) (p0_open : Nat → Int32) (p1_size : Int32) (n_p1_symbol : Nat) (p1_symbol : Nat → Int32) (n_p1_weight : Nat) (p1_weight : Nat → Int32) (n_p1_depth : Nat) (p1_depth : Nat → Int32) (n_p1_line : Nat) (p1_line : Nat → Int32)  (r : Int32 × Int32 × (Nat → Int32) × (Nat → Int32) × (Nat → Int32) × (Nat → Int32) × (Nat → Int32)) (h : fn_X4_measureByQueues F n_p0_weight n_p0_above n_p0_depth p1_size n_p1_weight p1_weight n_p1_depth n_p1_line p0_leavesTaken p0_madeFront p0_weight p0_above p0_depth p1_depth p1_line = some r) : Cv l yX4_measureByQueues wsX4_measureByQueues ({ frames := 2, cells := 0, slots := 0, locals := 83 } : Room) D vwCl [(cI, .int), (cZ, .boolean)] [.ref h_p0, .ref h_p1] (W_X4_X3 cI cZ h_p0 h_p0_weight h_p0_above h_p0_depth h_p0_open h_p1 h_p1_symbol h_p1_weight h_p1_depth h_p1_line p0_openNumber p0_leavesTaken p0_madeFront n_p0_weight p0_weight n_p0_above p0_above n_p0_depth p0_depth n_p0_open p0_open p1_size n_p1_symbol p1_symbol n_p1_weight p1_weight n_p1_depth p1_depth n_p1_line p1_line) (fun w => w = (W_X4_X3 cI cZ h_p0 h_p0_weight h_p0_above h_p0_depth h_p0_open h_p1 h_p1_symbol h_p1_weight h_p1_depth h_p1_line p0_openNumber r.1 r.2.1 n_p0_weight r.2.2.1 n_p0_above r.2.2.2.1 n_p0_depth r.2.2.2.2.1 n_p0_open p0_open p1_size n_p1_symbol p1_symbol n_p1_weight p1_weight n_p1_depth r.2.2.2.2.2.1 n_p1_line r.2.2.2.2.2.2)) 0 0 :=
  Cv.ofv (by decide) rfl (Nat.le_of_ble_eq_true rfl) (fun p e s m args below meth c Q A S hK hA hname hend => w_X4_measureByQueues_0 S hK hA hend rfl p0_leavesTaken p0_madeFront p0_weight p0_above p0_depth p1_depth p1_line h)
end
