/-! ===== PrefixSmith.sixBits(JI)I ===== -/
section
variable {p : Program} {l : Launch} {e : Env} {s : State} {m : MethodId} {args : Array Value} {below : List Frame} {meth : Method} {c : Code} {Q : State → Prop} {D : va_G} {A : Nat → Prop} {cI cZ : ClassId}
noncomputable def bf_X11_sixBits_0 (F : Nat)   (x0 : Int64) (x2 : Int32) : Option (Int32) :=
  some ((((((x0).toUInt64 >>> ((((6 : Int32) * x2)).toInt64.toUInt64 &&& Int64.toUInt64 63)).toInt64)).toInt32) &&& (63 : Int32))
set_option maxRecDepth 100000 in
set_option maxHeartbeats 4000000 in
theorem w_X11_sixBits_0 (S : CallFix p m c cX11_sixBits 3 s args wsX11_sixBits RX11) (hK : K_ D vwCl [(cI, .int), (cZ, .boolean)] s) (hA : ∀ q, s.heap.size ≤ q → A q) {F : Nat}  {r : Int32} {Wp : va_W → Prop} (hend : ∀ (w1 : va_W) (pc : Nat) (lv : List (Nat × Value)), Wp w1 → decode cX11_sixBits pc = .ok (.ireturn, 1) → X_ p l e ({ frames := 0, cells := 0, slots := 0, locals := 0 } : Room) s m args below meth c Q D vwCl A 3 0 0 w1 lv pc [.int r]) (hWp : Wp [])   : ∀ (x0 : Int64) (x2 : Int32), bf_X11_sixBits_0 F x0 x2 = some r → X_ p l e ({ frames := 0, cells := 0, slots := 0, locals := 0 } : Room) s m args below meth c Q D vwCl A 3 0 0 [] [(0, .long x0), (2, .int x2)] 0 [] := by
  intro x0 x2 h
  unfold bf_X11_sixBits_0 at h
  refine x_lload_n S dX11_sixBits_0 rfl 0 rfl ?_
  refine x_bipush (v := 6) S dX11_sixBits_1 (by decide) ?_
  refine x_iload_n S dX11_sixBits_3 rfl 1 rfl ?_
  refine x_imul S dX11_sixBits_4 ?_
  refine x_lushr S dX11_sixBits_5 ?_
  refine x_l2i S dX11_sixBits_6 ?_
  refine x_bipush (v := 63) S dX11_sixBits_7 (by decide) ?_
  refine x_iand S dX11_sixBits_9 ?_
  obtain rfl := Option.some.inj h
  exact hend _ _ _ hWp dX11_sixBits_10
noncomputable def fn_X11_sixBits (F : Nat)  (x0 : Int64) (x2 : Int32) : Option (Int32) :=
  bf_X11_sixBits_0 F x0 x2
set_option maxRecDepth 100000 in
set_option maxHeartbeats 4000000 in
theorem c_X11_sixBits (l : Launch) (D : va_G) (cI cZ : ClassId) (F : Nat)  (x0 : Int64) (x2 : Int32) (r : Int32) (h : fn_X11_sixBits F x0 x2 = some r) : Ci l yX11_sixBits wsX11_sixBits ({ frames := 0, cells := 0, slots := 0, locals := 0 } : Room) D vwCl [(cI, .int), (cZ, .boolean)] [.long x0, .int x2] [] r (fun w => w = []) 0 0 :=
  Ci.ofi (by decide) rfl (Nat.le_of_ble_eq_true rfl) (fun p e s m args below meth c Q A S hK hA hname hend => w_X11_sixBits_0 S hK hA hend rfl x0 x2 h)
end
