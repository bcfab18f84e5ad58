/-! ===== PrefixSmithModel.within(III)Z ===== -/
section
variable {p : Program} {l : Launch} {e : Env} {s : State} {m : MethodId} {args : Array Value} {below : List Frame} {meth : Method} {c : Code} {Q : State → Prop} {D : va_G} {A : Nat → Prop} {cI cZ : ClassId}
noncomputable def bf_X12_within_0 (F : Nat)   (x0 : Int32) (x1 : Int32) (x2 : Int32) : Option (Int32) :=
  (if x0 < x1 then some ((0 : Int32)) else (if x2 < x0 then some ((0 : Int32)) else some ((1 : Int32))))
set_option maxRecDepth 100000 in
set_option maxHeartbeats 4000000 in
theorem w_X12_within_0 (S : CallFix p m c cX12_within 3 s args wsX12_within RX12) (hK : K_ D vwCl [(cI, .int), (cZ, .boolean)] s) (hA : ∀ q, s.heap.size ≤ q → A q) {F : Nat}  {r : Int32} {Wp : va_W → Prop} (hend : ∀ (w1 : va_W) (pc : Nat) (lv : List (Nat × Value)), Wp w1 → narrow .boolean (.int r) = .int r → decode cX12_within pc = .ok (.ireturn, 1) → X_ p l e ({ frames := 0, cells := 0, slots := 0, locals := 0 } : Room) s m args below meth c Q D vwCl A 3 0 0 w1 lv pc [.int r]) (hWp : Wp [])   : ∀ (x0 : Int32) (x1 : Int32) (x2 : Int32), bf_X12_within_0 F x0 x1 x2 = some r → X_ p l e ({ frames := 0, cells := 0, slots := 0, locals := 0 } : Room) s m args below meth c Q D vwCl A 3 0 0 [] [(0, .int x0), (1, .int x1), (2, .int x2)] 0 [] := by
  intro x0 x1 x2 h
  unfold bf_X12_within_0 at h
  refine x_iload_n S dX12_within_0 rfl 0 rfl ?_
  refine x_iload_n S dX12_within_1 rfl 1 rfl ?_
  refine x_icmp_lt S 14 dX12_within_2 (by decide) h (fun h => ?_) (fun h => ?_)
  · refine x_iconst (v := 0) S dX12_within_14 (by decide) ?_
    obtain rfl := Option.some.inj h
    exact hend _ _ _ hWp (by decide) dX12_within_15
  · refine x_iload_n S dX12_within_5 rfl 0 rfl ?_
    refine x_iload_n S dX12_within_6 rfl 2 rfl ?_
    refine x_icmp_gt S 14 dX12_within_7 (by decide) h (fun h => ?_) (fun h => ?_)
    · refine x_iconst (v := 0) S dX12_within_14 (by decide) ?_
      obtain rfl := Option.some.inj h
      exact hend _ _ _ hWp (by decide) dX12_within_15
    · refine x_iconst (v := 1) S dX12_within_10 (by decide) ?_
      refine x_goto S 15 dX12_within_11 (by decide) ?_
      obtain rfl := Option.some.inj h
      exact hend _ _ _ hWp (by decide) dX12_within_15
noncomputable def fn_X12_within (F : Nat)  (x0 : Int32) (x1 : Int32) (x2 : Int32) : Option (Int32) :=
  bf_X12_within_0 F x0 x1 x2
set_option maxRecDepth 100000 in
set_option maxHeartbeats 4000000 in
theorem c_X12_within (l : Launch) (D : va_G) (cI cZ : ClassId) (F : Nat)  (x0 : Int32) (x1 : Int32) (x2 : Int32) (r : Int32) (h : fn_X12_within F x0 x1 x2 = some r) : Ci l yX12_within wsX12_within ({ frames := 0, cells := 0, slots := 0, locals := 0 } : Room) D vwCl [(cI, .int), (cZ, .boolean)] [.int x0, .int x1, .int x2] [] r (fun w => w = []) 0 0 :=
  Ci.ofz (by decide) rfl (Nat.le_of_ble_eq_true rfl) (fun p e s m args below meth c Q A S hK hA hname hend => w_X12_within_0 S hK hA hend rfl x0 x1 x2 h)
end
