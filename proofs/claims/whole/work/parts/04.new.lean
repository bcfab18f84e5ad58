/-! Rows for what makes objects and arrays. -/
section XN
variable {p : Program} {l : Launch} {e : Env} {R : Room} {s : State} {m : MethodId} {args : Array Value} {below : List Frame} {meth : Method} {c : Code} {Q : State → Prop} {D : va_G} {cl : List vw_C} {A : Nat → Prop} {nL cells slots : Nat} {ws : va_W} {lv : List (Nat × Value)} {pc : Nat} {st : List Value} {cc : ByteArray} {Ts : List Cond} {own : String} {tys : List (ClassId × FieldType)} {ρ : Type} {r : ρ}
theorem x_new (S : CallFix p m c cc nL s args Ts own) (hK : K_ D cl tys s) (hA : ∀ q, s.heap.size ≤ q → A q) {C : String} {T : u_T} {N ci index : Nat} {fs : List Value} (hin : ∀ w ∈ u_ws C T N, w ∈ Ts) (ty : Nat → FieldType) (hty : ∀ k, k < N → parseFieldDescriptor (T k).2.2.1 = some (ty k)) (hcl : Cond.classLink own index C ∈ Ts) (hinst : Cond.instantiable C N ∈ Ts) (hini : Cond.initialized C ∈ Ts) (hc : cl[ci]? = some (C, T, N)) (hfs : ∀ j, j < N → defaultValue (ty j) = vp_V fs j) (hcells : cells + 1 ≤ R.cells) (hslots : slots + N ≤ R.slots) (hdg : decode cc pc = .ok (.new index, 3))
    (k : ∀ q : Nat, X_ p l e R s m args below meth c Q D cl A nL (cells + 1) (slots + N) (ws ++ [(q, .inr (ci, fs))]) lv (pc + 3) (.ref q :: st)) : X_ p l e R s m args below meth c Q D cl A nL cells slots ws lv pc st := fun H locs ls hP hD hS hl => va_new S.1 S.2.1 S.2.2.2.2 hin ty hty S.2.2.2.1 (S.2.2.2.2 _ hcl) (S.2.2.2.2 _ hinst) (S.2.2.2.2 _ hini) hK.1 hP hD hS hA hc hfs hcells hslots hdg (fun q H1 hP hD hS => k q H1 locs ls hP hD hS hl)
theorem x_newI (S : CallFix p m c cc nL s args Ts own) (hK : K_ D cl tys s) (hA : ∀ q, s.heap.size ≤ q → A q) {n : Int32} {cA : ClassId} {u : Option ρ} (t0 : Nat) (ht : tys[t0]? = some (cA, .int)) (harr : Cond.arrayClass .int ∈ Ts) (bd : Nat) (h : (if n < 0 ∨ bd < n.toNatClampNeg then none else u) = some r) (hbd : bd ≤ 100000000) (hcells : cells + 1 ≤ R.cells) (hslots : slots + bd ≤ R.slots) (hdg : decode cc pc = .ok (.newarray .int, 2))
    (k : u = some r → ∀ q : Nat, X_ p l e R s m args below meth c Q D cl A nL (cells + 1) (slots + bd) (ws ++ [(q, .inl (cA, n.toNatClampNeg, .inl (fun _ => 0)))]) lv (pc + 2) (.ref q :: st)) : X_ p l e R s m args below meth c Q D cl A nL cells slots ws lv pc (.int n :: st) := by
  intro H locs ls hP hD hS hl
  obtain ⟨hg, hu⟩ := gd _ h
  have h1 : ¬ n < 0 := fun z => hg (Or.inl z)
  have h2 : n.toNatClampNeg ≤ bd := Nat.not_lt.mp (fun z => hg (Or.inr z))
  refine va_newa (atype := .int) (N' := n.toNatClampNeg) (a0 := (n.toNatClampNeg, .inl (fun _ => 0))) (ty := .int) (n := n) S.1 S.2.1 (S.2.2.2.2 _ harr) rfl hK.1 hP hD hS hA (fun _ => rfl) h1 rfl ?_ hcells (Nat.le_trans (Nat.add_le_add_left h2 _) hslots) hdg (fun q cB H1 hK1 hP hD hS => ?_)
  · have hcb : componentBytes .int ≤ 4 := by decide
    calc n.toNatClampNeg * componentBytes .int ≤ bd * 4 := Nat.mul_le_mul h2 hcb
      _ ≤ 536870912 := by omega
  · have e1 : s.vm.findClass ("[" ++ (FieldType.int).toString) = some cA := (hK.1.2 t0 _ ht).2
    have e2 : s.vm.findClass ("[" ++ (FieldType.int).toString) = some cB := (hK1.2 tys.length (cB, .int) (by simp)).2
    have e3 : cB = cA := Option.some.inj (e2.symm.trans e1)
    subst e3
    exact W.widen (Nat.le_refl _) (Nat.add_le_add_left h2 _) (k hu q H1 locs ls hP hD hS hl)
theorem x_newZ (S : CallFix p m c cc nL s args Ts own) (hK : K_ D cl tys s) (hA : ∀ q, s.heap.size ≤ q → A q) {n : Int32} {cA : ClassId} {u : Option ρ} (t0 : Nat) (ht : tys[t0]? = some (cA, .boolean)) (harr : Cond.arrayClass .boolean ∈ Ts) (bd : Nat) (h : (if n < 0 ∨ bd < n.toNatClampNeg then none else u) = some r) (hbd : bd ≤ 100000000) (hcells : cells + 1 ≤ R.cells) (hslots : slots + bd ≤ R.slots) (hdg : decode cc pc = .ok (.newarray .boolean, 2))
    (k : u = some r → ∀ q : Nat, X_ p l e R s m args below meth c Q D cl A nL (cells + 1) (slots + bd) (ws ++ [(q, .inl (cA, n.toNatClampNeg, .inl (fun _ => 0)))]) lv (pc + 2) (.ref q :: st)) : X_ p l e R s m args below meth c Q D cl A nL cells slots ws lv pc (.int n :: st) := by
  intro H locs ls hP hD hS hl
  obtain ⟨hg, hu⟩ := gd _ h
  have h1 : ¬ n < 0 := fun z => hg (Or.inl z)
  have h2 : n.toNatClampNeg ≤ bd := Nat.not_lt.mp (fun z => hg (Or.inr z))
  refine va_newa (atype := .boolean) (N' := n.toNatClampNeg) (a0 := (n.toNatClampNeg, .inl (fun _ => 0))) (ty := .boolean) (n := n) S.1 S.2.1 (S.2.2.2.2 _ harr) rfl hK.1 hP hD hS hA (fun _ => rfl) h1 rfl ?_ hcells (Nat.le_trans (Nat.add_le_add_left h2 _) hslots) hdg (fun q cB H1 hK1 hP hD hS => ?_)
  · have hcb : componentBytes .boolean ≤ 4 := by decide
    calc n.toNatClampNeg * componentBytes .boolean ≤ bd * 4 := Nat.mul_le_mul h2 hcb
      _ ≤ 536870912 := by omega
  · have e1 : s.vm.findClass ("[" ++ (FieldType.boolean).toString) = some cA := (hK.1.2 t0 _ ht).2
    have e2 : s.vm.findClass ("[" ++ (FieldType.boolean).toString) = some cB := (hK1.2 tys.length (cB, .boolean) (by simp)).2
    have e3 : cB = cA := Option.some.inj (e2.symm.trans e1)
    subst e3
    exact W.widen (Nat.le_refl _) (Nat.add_le_add_left h2 _) (k hu q H1 locs ls hP hD hS hl)
theorem x_obj (S : CallFix p m c cc nL s args Ts own) {a index : Nat} (hlink : Cond.methodLink own index Lib.objectInit ∈ Ts) (hinst : Cond.instanceMethod Lib.objectInit ∈ Ts) (hcode : Cond.code Lib.objectInit ⟨#[0xb1]⟩ 1 none ∈ Ts) (hframes : 1 ≤ R.frames) (hlocals : (st.map fun v => v.category).sum + 12 ≤ R.locals) (hdg : decode cc pc = .ok (.invokespecial index, 3))
    (k : X_ p l e R s m args below meth c Q D cl A nL cells slots ws lv (pc + 3) st) : X_ p l e R s m args below meth c Q D cl A nL cells slots ws lv pc (.ref a :: st) := fun H locs ls hP hD hS hl => by
  refine W.objInit S.1 S.2.1 S.2.2.2.1 (S.2.2.2.2 _ hlink) (S.2.2.2.2 _ hinst) (S.2.2.2.2 _ hcode) rfl (hl.1.trans S.2.2.1.symm) rfl hdg hframes (by show 2 * 0 + _ + 12 ≤ _; omega) ?_
  exact k H locs ls hP hD hS hl
theorem x_callIN (S : CallFix p m c cc nL s args Ts own) (hK : K_ D cl tys s) (hA : ∀ q, s.heap.size ≤ q → A q) {y : MethodName} {bytes : ByteArray} {maxL mc ms n index : Nat} {wsy : List Cond} {rm : Room} {wc : va_W} {Wp : va_W → Prop} {b : Nat} {As st0 : List Value} {host : String} (hC : Cv l y wsy rm D cl tys (.ref b :: As) wc Wp mc ms) (cw : va_CN R s args own index y host bytes maxL none wsy rm mc ms n ∧ y.name = "<init>" ∧ (Cond.instanceMethod y).before args s = true) (isC isR : List Nat) (hCw : isC.map (fun i => ws[i]?) = wc.map some) (hnC : va_nd isC = true) (hRw : isR.map (fun i => ws[i]?) = (isR.filterMap (fun i => ws[i]?)).map some) (hnR : va_nd isR = true) (hdis : ∀ i ∈ isR, i ∉ isC) (hn : As.length = n) (hrm : (st.map fun v => v.category).sum ≤ 8) (hst : st0 = As.reverse ++ .ref b :: st) (hdg : decode cc pc = .ok (.invokespecial index, 3)) (hf : cells + mc ≤ R.cells ∧ slots + ms ≤ R.slots)
    (k : ∀ w1, Wp w1 → X_ p l e R s m args below meth c Q D cl A nL (cells + mc) (slots + ms) (isR.filterMap (fun i => ws[i]?) ++ w1) lv (pc + 3) (st)) : X_ p l e R s m args below meth c Q D cl A nL cells slots ws lv pc st0 := by
  intro H locs ls hP hD hS hl
  subst hst
  have hPc := hP.sub isC (x_fm hCw)
  have hDc := hD.sub isC hnC hCw
  have hFc := va_free (wc := wc) hD hS hA isC hCw
  refine va_callv (va_runIN (As := As) (rest := st) S (hC H.size) cw ⟨cPre_blind, cPre_at hK hPc hDc⟩ rfl hn hl.1 rfl (lv_room hrm) hdg hf) hS (fun q _ h => hFc q h) hFc (fun u t H1 locs1 ht hvm hrq hB hz1 hk1 hS => ?_)
  obtain ⟨w1, hw1, hP1, hD1⟩ := hB
  rw [ht] at hP1
  obtain ⟨hP, hD⟩ := va_join (wr := isR.filterMap (fun i => ws[i]?)) (w1 := w1) hP hD isC isR hCw hRw hnR hdis hk1 hFc hP1 hD1
  exact k w1 hw1 H1 locs1 ls hP hD hS hl
end XN
