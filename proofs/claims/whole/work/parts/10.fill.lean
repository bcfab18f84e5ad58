/-! ===== java/util/Arrays.fill([II)V ===== -/
abbrev W_A (cI cZ : ClassId) (h_p0 : Nat) (n_p0 : Nat) (p0 : Nat → Int32) : va_W := [(h_p0, .inl (cI, n_p0, .inl p0))]
section
variable {p : Program} {l : Launch} {e : Env} {s : State} {m : MethodId} {args : Array Value} {below : List Frame} {meth : Method} {c : Code} {Q : State → Prop} {D : va_G} {A : Nat → Prop} {cI cZ : ClassId}
noncomputable def bf_J7_fill_53178_5 (F : Nat) (n_p0 : Nat) (rec5 : Int32 → Int32 → Int32 → (Nat → Int32) → Option ((Nat → Int32))) (x1 : Int32) (x2 : Int32) (x3 : Int32) (p0 : Nat → Int32) : Option ((Nat → Int32)) :=
  (if x3 ≤ x2 then some (p0) else (if x2 < 0 ∨ n_p0 ≤ (x2).toNatClampNeg then none else rec5 x1 (x2 + (1 : Int32)) x3 (upd p0 (x2).toNatClampNeg x1)))
set_option maxRecDepth 100000 in
set_option maxHeartbeats 4000000 in
theorem w_J7_fill_53178_5 (S : CallFix p m c cJ7_fill_53178 4 s args wsJ7_fill_53178 RJ7) (hK : K_ D vwCl [(cI, .int), (cZ, .boolean)] s) (hA : ∀ q, s.heap.size ≤ q → A q) {F : Nat} {n_p0 : Nat} {h_p0 : Nat} {r : (Nat → Int32)} {Wp : va_W → Prop} (hend : ∀ (w1 : va_W) (pc : Nat) (lv : List (Nat × Value)), Wp w1 → decode cJ7_fill_53178 pc = .ok (.return_, 1) → X_ p l e ({ frames := 0, cells := 0, slots := 0, locals := 0 } : Room) s m args below meth c Q D vwCl A 4 0 0 w1 lv pc []) (hWp : Wp (W_A cI cZ h_p0 n_p0 r)) {rec5 : Int32 → Int32 → Int32 → (Nat → Int32) → Option ((Nat → Int32))} (hrec5 : ∀ (x1 : Int32) (x2 : Int32) (x3 : Int32) (p0 : Nat → Int32), rec5 x1 x2 x3 p0 = some r → X_ p l e ({ frames := 0, cells := 0, slots := 0, locals := 0 } : Room) s m args below meth c Q D vwCl A 4 0 0 (W_A cI cZ h_p0 n_p0 p0) [(0, .ref h_p0), (1, .int x1), (2, .int x2), (3, .int x3)] 5 []) : ∀ (x1 : Int32) (x2 : Int32) (x3 : Int32) (p0 : Nat → Int32), bf_J7_fill_53178_5 F n_p0 rec5 x1 x2 x3 p0 = some r → X_ p l e ({ frames := 0, cells := 0, slots := 0, locals := 0 } : Room) s m args below meth c Q D vwCl A 4 0 0 (W_A cI cZ h_p0 n_p0 p0) [(0, .ref h_p0), (1, .int x1), (2, .int x2), (3, .int x3)] 5 [] := by
  intro x1 x2 x3 p0 h
  unfold bf_J7_fill_53178_5 at h
  refine x_iload_n S dJ7_fill_53178_5 rfl 2 rfl ?_
  refine x_iload_n S dJ7_fill_53178_6 rfl 3 rfl ?_
  refine x_icmp_ge S 20 dJ7_fill_53178_7 (by decide) h (fun h => ?_) (fun h => ?_)
  · obtain rfl := Option.some.inj h
    exact hend _ _ _ hWp dJ7_fill_53178_20
  · refine x_aload_n S dJ7_fill_53178_10 rfl 0 rfl ?_
    refine x_iload_n S dJ7_fill_53178_11 rfl 2 rfl ?_
    refine x_iload_n S dJ7_fill_53178_12 rfl 1 rfl ?_
    refine x_iast S hK 0 0 rfl rfl dJ7_fill_53178_13 h rfl (fun h => ?_)
    refine x_iinc (v := x2 + (1 : Int32)) (lv' := [(2, .int (x2 + (1 : Int32))), (0, .ref h_p0), (1, .int x1), (3, .int x3)]) S dJ7_fill_53178_14 2 rfl rfl (by decide) rfl ?_
    refine x_goto S 5 dJ7_fill_53178_17 (by decide) ?_
    refine x_lv [1, 2, 0, 3] (by rfl) ?_
    exact hrec5 x1 (x2 + (1 : Int32)) x3 (upd p0 (x2).toNatClampNeg x1) h
noncomputable def lf_J7_fill_53178_5 (F : Nat) (n_p0 : Nat)  (k : Nat) (x1 : Int32) (x2 : Int32) (x3 : Int32) (p0 : Nat → Int32) : Option ((Nat → Int32)) :=
  lp (fun (rec : Int32 × Int32 × Int32 × (Nat → Int32) → Option ((Nat → Int32))) (z : Int32 × Int32 × Int32 × (Nat → Int32)) => bf_J7_fill_53178_5 F n_p0 (fun x1 x2 x3 p0 => rec (x1, x2, x3, p0)) z.1 z.2.1 z.2.2.1 z.2.2.2) k (x1, x2, x3, p0)
set_option maxRecDepth 100000 in
set_option maxHeartbeats 4000000 in
theorem wl_J7_fill_53178_5 (S : CallFix p m c cJ7_fill_53178 4 s args wsJ7_fill_53178 RJ7) (hK : K_ D vwCl [(cI, .int), (cZ, .boolean)] s) (hA : ∀ q, s.heap.size ≤ q → A q) {F : Nat} {n_p0 : Nat} {h_p0 : Nat} {r : (Nat → Int32)} {Wp : va_W → Prop} (hend : ∀ (w1 : va_W) (pc : Nat) (lv : List (Nat × Value)), Wp w1 → decode cJ7_fill_53178 pc = .ok (.return_, 1) → X_ p l e ({ frames := 0, cells := 0, slots := 0, locals := 0 } : Room) s m args below meth c Q D vwCl A 4 0 0 w1 lv pc []) (hWp : Wp (W_A cI cZ h_p0 n_p0 r))   (k : Nat) : ∀ (x1 : Int32) (x2 : Int32) (x3 : Int32) (p0 : Nat → Int32), lf_J7_fill_53178_5 F n_p0 k x1 x2 x3 p0 = some r → X_ p l e ({ frames := 0, cells := 0, slots := 0, locals := 0 } : Room) s m args below meth c Q D vwCl A 4 0 0 (W_A cI cZ h_p0 n_p0 p0) [(0, .ref h_p0), (1, .int x1), (2, .int x2), (3, .int x3)] 5 [] := by
  intro x1 x2 x3 p0 h
  exact lp_W (P := fun z => X_ p l e ({ frames := 0, cells := 0, slots := 0, locals := 0 } : Room) s m args below meth c Q D vwCl A 4 0 0 (W_A cI cZ h_p0 n_p0 z.2.2.2) [(0, .ref h_p0), (1, .int z.1), (2, .int z.2.1), (3, .int z.2.2.1)] 5 []) (fun rec ih z hz => w_J7_fill_53178_5 S hK hA hend hWp (fun x1 x2 x3 p0 hh => ih (x1, x2, x3, p0) hh)  z.1 z.2.1 z.2.2.1 z.2.2.2 hz) k (x1, x2, x3, p0) h 
noncomputable def bf_J7_fill_53178_0 (F : Nat) (n_p0 : Nat)  (x1 : Int32) (p0 : Nat → Int32) : Option ((Nat → Int32)) :=
  lf_J7_fill_53178_5 F n_p0 F x1 (0 : Int32) (nI n_p0) p0
set_option maxRecDepth 100000 in
set_option maxHeartbeats 4000000 in
theorem w_J7_fill_53178_0 (S : CallFix p m c cJ7_fill_53178 4 s args wsJ7_fill_53178 RJ7) (hK : K_ D vwCl [(cI, .int), (cZ, .boolean)] s) (hA : ∀ q, s.heap.size ≤ q → A q) {F : Nat} {n_p0 : Nat} {h_p0 : Nat} {r : (Nat → Int32)} {Wp : va_W → Prop} (hend : ∀ (w1 : va_W) (pc : Nat) (lv : List (Nat × Value)), Wp w1 → decode cJ7_fill_53178 pc = .ok (.return_, 1) → X_ p l e ({ frames := 0, cells := 0, slots := 0, locals := 0 } : Room) s m args below meth c Q D vwCl A 4 0 0 w1 lv pc []) (hWp : Wp (W_A cI cZ h_p0 n_p0 r))   : ∀ (x1 : Int32) (p0 : Nat → Int32), bf_J7_fill_53178_0 F n_p0 x1 p0 = some r → X_ p l e ({ frames := 0, cells := 0, slots := 0, locals := 0 } : Room) s m args below meth c Q D vwCl A 4 0 0 (W_A cI cZ h_p0 n_p0 p0) [(0, .ref h_p0), (1, .int x1)] 0 [] := by
  intro x1 p0 h
  unfold bf_J7_fill_53178_0 at h
  refine x_iconst (v := 0) S dJ7_fill_53178_0 (by decide) ?_
  refine x_istore_n (lv' := [(2, .int (0 : Int32)), (0, .ref h_p0), (1, .int x1)]) S dJ7_fill_53178_1 rfl (by decide) rfl ?_
  refine x_aload_n S dJ7_fill_53178_2 rfl 1 rfl ?_
  refine x_alen S hK 0 0 rfl rfl dJ7_fill_53178_3 ?_
  refine x_istore_n (lv' := [(3, .int (nI n_p0)), (2, .int (0 : Int32)), (0, .ref h_p0), (1, .int x1)]) S dJ7_fill_53178_4 rfl (by decide) rfl ?_
  refine x_lv [2, 3, 1, 0] (by rfl) ?_
  exact wl_J7_fill_53178_5 S hK hA hend hWp  F x1 (0 : Int32) (nI n_p0) p0 h
noncomputable def fn_J7_fill_53178 (F : Nat) (n_p0 : Nat) (p0 : Nat → Int32) (x1 : Int32) : Option ((Nat → Int32)) :=
  bf_J7_fill_53178_0 F n_p0 x1 p0
set_option maxRecDepth 100000 in
set_option maxHeartbeats 4000000 in
theorem c_J7_fill_53178 (l : Launch) (D : va_G) (cI cZ : ClassId) (F : Nat) (h_p0 : Nat) (n_p0 : Nat) (p0 : Nat → Int32) (x1 : Int32) (r : (Nat → Int32)) (h : fn_J7_fill_53178 F n_p0 p0 x1 = some r) : Cv l yJ7_fill_53178 wsJ7_fill_53178 ({ frames := 0, cells := 0, slots := 0, locals := 0 } : Room) D vwCl [(cI, .int), (cZ, .boolean)] [.ref h_p0, .int x1] (W_A cI cZ h_p0 n_p0 p0) (fun w => w = (W_A cI cZ h_p0 n_p0 r)) 0 0 :=
  Cv.ofv (by decide) rfl (Nat.le_of_ble_eq_true rfl) (fun p e s m args below meth c Q A S hK hA hname hend => w_J7_fill_53178_0 S hK hA hend rfl x1 p0 h)
end
