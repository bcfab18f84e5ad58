def nestF : List (String × Nat × String × String × String) := [("PrefixSmith", 219, "PrefixSmith$Row", "items", "[I"), ("PrefixSmith", 110, "PrefixSmith$Row", "size", "I"), ("PrefixSmith$Reader", 18, "PrefixSmith$Row", "size", "I"), ("PrefixSmith$Table", 39, "PrefixSmith$Leaves", "symbol", "[I"), ("PrefixSmith$Merging", 22, "PrefixSmith$Leaves", "weight", "[I"), ("PrefixSmith$Ordered", 26, "PrefixSmith$Leaves", "weight", "[I"), ("PrefixSmith$Halves", 19, "PrefixSmith$Leaves", "weight", "[I"), ("PrefixSmith$Packages", 55, "PrefixSmith$Leaves", "weight", "[I"), ("PrefixSmith$Table", 42, "PrefixSmith$Leaves", "depth", "[I"), ("PrefixSmith$Parting", 16, "PrefixSmith$Leaves", "depth", "[I"), ("PrefixSmith$Packages", 64, "PrefixSmith$Leaves", "depth", "[I"), ("PrefixSmith$Merging", 70, "PrefixSmith$Leaves", "depth", "[I"), ("PrefixSmith", 160, "PrefixSmith$Leaves", "depth", "[I"), ("PrefixSmith$Halves", 23, "PrefixSmith$Leaves", "line", "[I"), ("PrefixSmith$Packages", 58, "PrefixSmith$Leaves", "line", "[I"), ("PrefixSmith$Parting", 46, "PrefixSmith$Leaves", "line", "[I"), ("PrefixSmith$Merging", 67, "PrefixSmith$Leaves", "line", "[I"), ("PrefixSmith$Merging", 25, "PrefixSmith$Leaves", "size", "I"), ("PrefixSmith$Table", 34, "PrefixSmith$Leaves", "size", "I"), ("PrefixSmith$Ordered", 22, "PrefixSmith$Leaves", "size", "I"), ("PrefixSmith$Parting", 31, "PrefixSmith$Leaves", "size", "I"), ("PrefixSmith$Packages", 48, "PrefixSmith$Leaves", "size", "I"), ("PrefixSmith", 137, "PrefixSmith$Leaves", "size", "I"), ("PrefixSmith$Keys", 59, "PrefixSmith$BitRow", "room", "I"), ("PrefixSmith$Reader", 23, "PrefixSmith$BitRow", "size", "I"), ("PrefixSmith$Keys", 65, "PrefixSmith$BitRow", "size", "I"), ("PrefixSmith", 235, "PrefixSmith$BitRow", "size", "I"), ("PrefixSmith", 232, "PrefixSmith$BitRow", "over", "Z"), ("PrefixSmith", 243, "PrefixSmith$Reader", "place", "I"), ("PrefixSmith", 256, "PrefixSmith$Keys", "found", "LPrefixSmith$BitRow;"), ("PrefixSmith$Reader", 57, "PrefixSmith$Table", "symbols", "I"), ("PrefixSmith$Reader", 81, "PrefixSmith$Table", "most", "I"), ("PrefixSmith$Reader", 71, "PrefixSmith$Table", "lengths", "[I"), ("PrefixSmith", 171, "PrefixSmith$Table", "lengths", "[I"), ("PrefixSmith", 191, "PrefixSmith$Table", "codes", "[I"), ("PrefixSmith$Keys", 30, "PrefixSmith$Table", "nodes", "I"), ("PrefixSmith$Reader", 60, "PrefixSmith$Table", "inOrder", "Z"), ("PrefixSmith", 174, "PrefixSmith$Table", "inOrder", "Z"), ("PrefixSmith", 178, "PrefixSmith$Table", "loaded", "Z"), ("PrefixSmith", 249, "PrefixSmith$Table", "full", "Z")]
def nestM : List (String × Nat × MethodName) := [("PrefixSmith", 18, ⟨"PrefixSmith$Row", "<init>", "()V"⟩), ("PrefixSmith", 68, ⟨"PrefixSmith$Reader", "<init>", "()V"⟩), ("PrefixSmith", 75, ⟨"PrefixSmith$Keys", "<init>", "()V"⟩)]
def K_ (D : va_G) (cl : List vw_C) (tys : List (ClassId × FieldType)) (U : State) : Prop := va_K D cl tys U ∧ (∀ q ∈ nestF, va_Nw (.fieldLinkNest q.1 q.2.1 q.2.2.1 q.2.2.2.1 q.2.2.2.2 "PrefixSmith") U) ∧ (∀ q ∈ nestM, va_Nw (.methodLinkNest q.1 q.2.1 q.2.2 "PrefixSmith") U) ∧ va_Nw (.declares ⟨"PrefixSmith$Parting", "middle", "(LPrefixSmith$Leaves;II)I"⟩) U
theorem K_.warm {D : va_G} {cl : List vw_C} {tys : List (ClassId × FieldType)} {s U : State} (h : K_ D cl tys s) (hW : s.WarmedH U.vm) : K_ D cl tys U := ⟨va_K.moved hW.alike h.1, fun q hq => va_Nw.warmF hW (h.2.1 q hq), fun q hq => va_Nw.warmM hW (h.2.2.1 q hq), va_Nw.warmD hW h.2.2.2⟩
theorem K_.same {D : va_G} {cl : List vw_C} {tys : List (ClassId × FieldType)} {u U : State} (hv : u.vm = U.vm) (h : K_ D cl tys u) : K_ D cl tys U := ⟨va_K.moved (by rw [← hv]; exact Vm.Alike.refl u.vm) h.1, fun q hq => va_Nw.same rfl hv (h.2.1 q hq), fun q hq => va_Nw.same rfl hv (h.2.2.1 q hq), va_Nw.same rfl hv h.2.2.2⟩
/-! The derived judgement: at a place of a method's code, with these locals, this stack and these cells, whatever the heap is beside, the machine comes to Q; and the kit's rows said over it. A branch and a guard take the pure function's equation along. -/
def X_ (p : Program) (l : Launch) (e : Env) (R : Room) (s : State) (m : MethodId) (args : Array Value) (below : List Frame) (meth : Method) (c : Code) (Q : State → Prop) (D : va_G) (cl : List vw_C) (A : Nat → Prop) (nL cells slots : Nat) (ws : va_W) (lv : List (Nat × Value)) (pc : Nat) (st : List Value) : Prop :=
  ∀ (H : Heap) (locs : List Loc) (ls : Array Slot), va_P D cl ws H → va_D A ws → va_S A s.heap H locs → lv_has ls nL lv → W p l e R s m args below meth c H locs cells slots Q (F0 m pc ls st)
/-- a loop as a pure function: so many rounds at most -/
def lp {σ ρ : Type} (body : (σ → Option ρ) → σ → Option ρ) : Nat → σ → Option ρ
  | 0, _ => none
  | n + 1, z => body (lp body n) z
theorem lp_W {σ ρ : Type} {body : (σ → Option ρ) → σ → Option ρ} {r : ρ} {P : σ → Prop} (hb : ∀ rec : σ → Option ρ, (∀ z, rec z = some r → P z) → ∀ z, body rec z = some r → P z) : ∀ (n : Nat) (z : σ), lp body n z = some r → P z := by
  intro n
  induction n with
  | zero => intro z h; exact absurd h (by simp [lp])
  | succ n ih => intro z h; exact hb _ ih z h
theorem gd {α : Type} {q : Prop} (hq : Decidable q) {x : Option α} {r : α} (h : (if q then none else x) = some r) : ¬ q ∧ x = some r := by
  by_cases hc : q
  · rw [if_pos hc] at h; cases h
  · rw [if_neg hc] at h; exact ⟨hc, h⟩
theorem gbind {α β : Type} {x : Option α} {f : α → Option β} {r : β} (h : x.bind f = some r) : ∃ a, x = some a ∧ f a = some r := by
  cases x with
  | none => cases h
  | some a => exact ⟨a, rfl, h⟩
theorem x_fm {α β : Type} {f : α → Option β} : ∀ {l : List α} {w : List β}, l.map f = w.map some → l.filterMap f = w
  | [], [], _ => rfl
  | [], _ :: _, h => by simp at h
  | _ :: _, [], h => by simp at h
  | a :: l, b :: w, h => by
    simp only [List.map_cons, List.cons.injEq] at h
    rw [List.filterMap_cons, h.1, x_fm h.2]
theorem x_bool {v : Int32} (h : v = 0 ∨ v = 1) : narrow .boolean (.int v) = .int v ∧ fits .boolean (.int v) = true := by
  rcases h with rfl | rfl <;> exact ⟨by decide +kernel, by decide +kernel⟩
/-- what a method needs, what it leaves -/
def cPre (D : va_G) (cl : List vw_C) (tys : List (ClassId × FieldType)) (av : List Value) (wc : va_W) (sz : Nat) : Array Value → State → Prop := va_Pc av (fun U => U.heap.size = sz ∧ va_P D cl wc U.heap ∧ K_ D cl tys U ∧ va_D (fun _ => True) wc)
def cB (D : va_G) (cl : List vw_C) (tys : List (ClassId × FieldType)) (A : Nat → Prop) (Wp : va_W → Prop) (t : State) : Prop := ∃ w1, Wp w1 ∧ va_P D cl w1 t.heap ∧ va_D A w1
def Ci (l : Launch) (y : MethodName) (wsy : List Cond) (rm : Room) (D : va_G) (cl : List vw_C) (tys : List (ClassId × FieldType)) (av : List Value) (wc : va_W) (r : Int32) (Wp : va_W → Prop) (mc ms : Nat) : Prop := ∀ sz, Met l y wsy rm (cPre D cl tys av wc sz) (va_Qi (fun (q : Int32) (_ : Unit) => q = r) (fun _ t => cB D cl tys (va_A wc sz) Wp t) (va_A wc sz)) mc ms (va_A wc sz)
def Cl (l : Launch) (y : MethodName) (wsy : List Cond) (rm : Room) (D : va_G) (cl : List vw_C) (tys : List (ClassId × FieldType)) (av : List Value) (wc : va_W) (r : Int64) (Wp : va_W → Prop) (mc ms : Nat) : Prop := ∀ sz, Met l y wsy rm (cPre D cl tys av wc sz) (va_Ql (fun (q : Int64) (_ : Unit) => q = r) (fun _ t => cB D cl tys (va_A wc sz) Wp t) (va_A wc sz)) mc ms (va_A wc sz)
def Cv (l : Launch) (y : MethodName) (wsy : List Cond) (rm : Room) (D : va_G) (cl : List vw_C) (tys : List (ClassId × FieldType)) (av : List Value) (wc : va_W) (Wp : va_W → Prop) (mc ms : Nat) : Prop := ∀ sz, Met l y wsy rm (cPre D cl tys av wc sz) (va_Qv (fun (_ : Unit) => True) (fun _ t => cB D cl tys (va_A wc sz) Wp t) (va_A wc sz)) mc ms (va_A wc sz)
section XR
variable {p : Program} {l : Launch} {e : Env} {R : Room} {s : State} {m : MethodId} {args : Array Value} {below : List Frame} {meth : Method} {c : Code} {Q : State → Prop} {D : va_G} {cl : List vw_C} {A : Nat → Prop} {nL cells slots : Nat} {ws : va_W} {lv : List (Nat × Value)} {pc : Nat} {st : List Value} {cc : ByteArray} {Ts : List Cond} {own : String} {tys : List (ClassId × FieldType)} {ρ : Type} {r : ρ}
theorem x_iconst (S : CallFix p m c cc nL s args Ts own) {n : Int} {v : Int32} (hdg : decode cc pc = .ok (.iconst n, 1)) (hv : Int32.ofInt n = v)
    (k : X_ p l e R s m args below meth c Q D cl A nL cells slots ws lv (pc + 1) (.int v :: st)) : X_ p l e R s m args below meth c Q D cl A nL cells slots ws lv pc (st) := fun H locs ls hP hD hS hl => lv_iconst S.1 S.2.1 hdg hv (k H locs ls hP hD hS hl)
theorem x_bipush (S : CallFix p m c cc nL s args Ts own) {n : Int} {v : Int32} (hdg : decode cc pc = .ok (.bipush n, 2)) (hv : (Int8.ofInt n).toInt32 = v)
    (k : X_ p l e R s m args below meth c Q D cl A nL cells slots ws lv (pc + 2) (.int v :: st)) : X_ p l e R s m args below meth c Q D cl A nL cells slots ws lv pc (st) := fun H locs ls hP hD hS hl => lv_bipush S.1 S.2.1 hdg hv (k H locs ls hP hD hS hl)
theorem x_sipush (S : CallFix p m c cc nL s args Ts own) {n : Int} {v : Int32} (hdg : decode cc pc = .ok (.sipush n, 3)) (hv : (Int16.ofInt n).toInt32 = v)
    (k : X_ p l e R s m args below meth c Q D cl A nL cells slots ws lv (pc + 3) (.int v :: st)) : X_ p l e R s m args below meth c Q D cl A nL cells slots ws lv pc (st) := fun H locs ls hP hD hS hl => lv_sipush S.1 S.2.1 hdg hv (k H locs ls hP hD hS hl)
theorem x_lconst (S : CallFix p m c cc nL s args Ts own) {n : Fin 2} {v : Int64} (hdg : decode cc pc = .ok (.lconst n, 1)) (hv : Int64.ofNat (n : Nat) = v)
    (k : X_ p l e R s m args below meth c Q D cl A nL cells slots ws lv (pc + 1) (.long v :: st)) : X_ p l e R s m args below meth c Q D cl A nL cells slots ws lv pc (st) := fun H locs ls hP hD hS hl => lv_lconst S.1 S.2.1 hdg hv (k H locs ls hP hD hS hl)
theorem x_ldc (S : CallFix p m c cc nL s args Ts own) {index : Nat} {v : Int32} (hc : Jvm.Cond.constant own index v ∈ Ts) (hdg : decode cc pc = .ok (.ldc index, 2))
    (k : X_ p l e R s m args below meth c Q D cl A nL cells slots ws lv (pc + 2) (.int v :: st)) : X_ p l e R s m args below meth c Q D cl A nL cells slots ws lv pc st := fun H locs ls hP hD hS hl => lv_ldc S.1 S.2.1 S.2.2.2.1 (S.2.2.2.2 _ hc) hdg (k H locs ls hP hD hS hl)
theorem x_ldc2 (S : CallFix p m c cc nL s args Ts own) {index : Nat} {v : Int64} (hc : Jvm.Cond.constantLong own index v ∈ Ts) (hdg : decode cc pc = .ok (.ldc2_w index, 3))
    (k : X_ p l e R s m args below meth c Q D cl A nL cells slots ws lv (pc + 3) (.long v :: st)) : X_ p l e R s m args below meth c Q D cl A nL cells slots ws lv pc st := fun H locs ls hP hD hS hl => lv_ldc2 S.1 S.2.1 S.2.2.2.1 (S.2.2.2.2 _ hc) hdg (k H locs ls hP hD hS hl)
theorem x_iload_n (S : CallFix p m c cc nL s args Ts own) {k4 : Fin 4} {i : Nat} {x : Int32} (hdg : decode cc pc = .ok (.iload_n k4, 1)) (hi : (k4 : Nat) = i) (j : Nat) (hj : lv[j]? = some (i, .int x))
    (k : X_ p l e R s m args below meth c Q D cl A nL cells slots ws lv (pc + 1) (.int x :: st)) : X_ p l e R s m args below meth c Q D cl A nL cells slots ws lv pc st := fun H locs ls hP hD hS hl => lv_iload_n S.1 S.2.1 hdg hi (lv_at hl j hj) (k H locs ls hP hD hS hl)
theorem x_iload (S : CallFix p m c cc nL s args Ts own) {i : Nat} {x : Int32} (hdg : decode cc pc = .ok (.iload i, 2)) (j : Nat) (hj : lv[j]? = some (i, .int x))
    (k : X_ p l e R s m args below meth c Q D cl A nL cells slots ws lv (pc + 2) (.int x :: st)) : X_ p l e R s m args below meth c Q D cl A nL cells slots ws lv pc st := fun H locs ls hP hD hS hl => lv_iload S.1 S.2.1 hdg (lv_at hl j hj) (k H locs ls hP hD hS hl)
theorem x_istore_n (S : CallFix p m c cc nL s args Ts own) {k4 : Fin 4} {i : Nat} {x : Int32} {lv' : List (Nat × Value)} (hdg : decode cc pc = .ok (.istore_n k4, 1)) (hi : (k4 : Nat) = i) (hn : i < nL) (hl' : (i, Value.int x) :: lv.filter (fun q => !(q.1 == i) && !(q.1 + 1 == i && q.2.category == 2)) = lv')
    (k : X_ p l e R s m args below meth c Q D cl A nL cells slots ws lv' (pc + 1) st) : X_ p l e R s m args below meth c Q D cl A nL cells slots ws lv pc (.int x :: st) := fun H locs ls hP hD hS hl => lv_istore_n S.1 S.2.1 hdg hi hl hn hl' (fun ls hl => k H locs ls hP hD hS hl)
theorem x_istore (S : CallFix p m c cc nL s args Ts own) {i : Nat} {x : Int32} {lv' : List (Nat × Value)} (hdg : decode cc pc = .ok (.istore i, 2)) (hn : i < nL) (hl' : (i, Value.int x) :: lv.filter (fun q => !(q.1 == i) && !(q.1 + 1 == i && q.2.category == 2)) = lv')
    (k : X_ p l e R s m args below meth c Q D cl A nL cells slots ws lv' (pc + 2) st) : X_ p l e R s m args below meth c Q D cl A nL cells slots ws lv pc (.int x :: st) := fun H locs ls hP hD hS hl => lv_istore S.1 S.2.1 hdg hl hn hl' (fun ls hl => k H locs ls hP hD hS hl)
theorem x_lload_n (S : CallFix p m c cc nL s args Ts own) {k4 : Fin 4} {i : Nat} {x : Int64} (hdg : decode cc pc = .ok (.lload_n k4, 1)) (hi : (k4 : Nat) = i) (j : Nat) (hj : lv[j]? = some (i, .long x))
    (k : X_ p l e R s m args below meth c Q D cl A nL cells slots ws lv (pc + 1) (.long x :: st)) : X_ p l e R s m args below meth c Q D cl A nL cells slots ws lv pc st := fun H locs ls hP hD hS hl => lv_lload_n S.1 S.2.1 hdg hi (lv_at hl j hj) (k H locs ls hP hD hS hl)
theorem x_lload (S : CallFix p m c cc nL s args Ts own) {i : Nat} {x : Int64} (hdg : decode cc pc = .ok (.lload i, 2)) (j : Nat) (hj : lv[j]? = some (i, .long x))
    (k : X_ p l e R s m args below meth c Q D cl A nL cells slots ws lv (pc + 2) (.long x :: st)) : X_ p l e R s m args below meth c Q D cl A nL cells slots ws lv pc st := fun H locs ls hP hD hS hl => lv_lload S.1 S.2.1 hdg (lv_at hl j hj) (k H locs ls hP hD hS hl)
theorem x_lstore_n (S : CallFix p m c cc nL s args Ts own) {k4 : Fin 4} {i : Nat} {x : Int64} {lv' : List (Nat × Value)} (hdg : decode cc pc = .ok (.lstore_n k4, 1)) (hi : (k4 : Nat) = i) (hn : i + 1 < nL) (hl' : (i, Value.long x) :: lv.filter (fun q => !(q.1 == i) && (!(q.1 == i + 1) && !(q.1 + 1 == i && q.2.category == 2))) = lv')
    (k : X_ p l e R s m args below meth c Q D cl A nL cells slots ws lv' (pc + 1) st) : X_ p l e R s m args below meth c Q D cl A nL cells slots ws lv pc (.long x :: st) := fun H locs ls hP hD hS hl => lv_lstore_n S.1 S.2.1 hdg hi hl hn hl' (fun ls hl => k H locs ls hP hD hS hl)
theorem x_lstore (S : CallFix p m c cc nL s args Ts own) {i : Nat} {x : Int64} {lv' : List (Nat × Value)} (hdg : decode cc pc = .ok (.lstore i, 2)) (hn : i + 1 < nL) (hl' : (i, Value.long x) :: lv.filter (fun q => !(q.1 == i) && (!(q.1 == i + 1) && !(q.1 + 1 == i && q.2.category == 2))) = lv')
    (k : X_ p l e R s m args below meth c Q D cl A nL cells slots ws lv' (pc + 2) st) : X_ p l e R s m args below meth c Q D cl A nL cells slots ws lv pc (.long x :: st) := fun H locs ls hP hD hS hl => lv_lstore S.1 S.2.1 hdg hl hn hl' (fun ls hl => k H locs ls hP hD hS hl)
theorem x_aload_n (S : CallFix p m c cc nL s args Ts own) {k4 : Fin 4} {i : Nat} {x : Nat} (hdg : decode cc pc = .ok (.aload_n k4, 1)) (hi : (k4 : Nat) = i) (j : Nat) (hj : lv[j]? = some (i, .ref x))
    (k : X_ p l e R s m args below meth c Q D cl A nL cells slots ws lv (pc + 1) (.ref x :: st)) : X_ p l e R s m args below meth c Q D cl A nL cells slots ws lv pc st := fun H locs ls hP hD hS hl => lv_aload_n S.1 S.2.1 hdg hi (lv_at hl j hj) (k H locs ls hP hD hS hl)
theorem x_aload (S : CallFix p m c cc nL s args Ts own) {i : Nat} {x : Nat} (hdg : decode cc pc = .ok (.aload i, 2)) (j : Nat) (hj : lv[j]? = some (i, .ref x))
    (k : X_ p l e R s m args below meth c Q D cl A nL cells slots ws lv (pc + 2) (.ref x :: st)) : X_ p l e R s m args below meth c Q D cl A nL cells slots ws lv pc st := fun H locs ls hP hD hS hl => lv_aload S.1 S.2.1 hdg (lv_at hl j hj) (k H locs ls hP hD hS hl)
theorem x_astore_n (S : CallFix p m c cc nL s args Ts own) {k4 : Fin 4} {i : Nat} {x : Nat} {lv' : List (Nat × Value)} (hdg : decode cc pc = .ok (.astore_n k4, 1)) (hi : (k4 : Nat) = i) (hn : i < nL) (hl' : (i, Value.ref x) :: lv.filter (fun q => !(q.1 == i) && !(q.1 + 1 == i && q.2.category == 2)) = lv')
    (k : X_ p l e R s m args below meth c Q D cl A nL cells slots ws lv' (pc + 1) st) : X_ p l e R s m args below meth c Q D cl A nL cells slots ws lv pc (.ref x :: st) := fun H locs ls hP hD hS hl => lv_astore_n S.1 S.2.1 hdg hi hl hn hl' (fun ls hl => k H locs ls hP hD hS hl)
theorem x_astore (S : CallFix p m c cc nL s args Ts own) {i : Nat} {x : Nat} {lv' : List (Nat × Value)} (hdg : decode cc pc = .ok (.astore i, 2)) (hn : i < nL) (hl' : (i, Value.ref x) :: lv.filter (fun q => !(q.1 == i) && !(q.1 + 1 == i && q.2.category == 2)) = lv')
    (k : X_ p l e R s m args below meth c Q D cl A nL cells slots ws lv' (pc + 2) st) : X_ p l e R s m args below meth c Q D cl A nL cells slots ws lv pc (.ref x :: st) := fun H locs ls hP hD hS hl => lv_astore S.1 S.2.1 hdg hl hn hl' (fun ls hl => k H locs ls hP hD hS hl)
theorem x_iinc (S : CallFix p m c cc nL s args Ts own) {i : Nat} {n : Int} {x v : Int32} {lv' : List (Nat × Value)} (hdg : decode cc pc = .ok (.iinc i n, 3)) (j : Nat) (hj : lv[j]? = some (i, .int x)) (hv : x + Int32.ofInt n = v) (hn : i < nL) (hl' : (i, Value.int v) :: lv.filter (fun q => !(q.1 == i) && !(q.1 + 1 == i && q.2.category == 2)) = lv')
    (k : X_ p l e R s m args below meth c Q D cl A nL cells slots ws lv' (pc + 3) st) : X_ p l e R s m args below meth c Q D cl A nL cells slots ws lv pc st := fun H locs ls hP hD hS hl => lv_iinc S.1 S.2.1 hdg hl (k := j) hj hv hn hl' (fun ls hl => k H locs ls hP hD hS hl)
theorem x_iadd (S : CallFix p m c cc nL s args Ts own) {x y : Int32} (hdg : decode cc pc = .ok (.iadd, 1))
    (k : X_ p l e R s m args below meth c Q D cl A nL cells slots ws lv (pc + 1) (.int (x + y) :: st)) : X_ p l e R s m args below meth c Q D cl A nL cells slots ws lv pc (.int y :: .int x :: st) := fun H locs ls hP hD hS hl => lv_iadd S.1 S.2.1 hdg (k H locs ls hP hD hS hl)
theorem x_isub (S : CallFix p m c cc nL s args Ts own) {x y : Int32} (hdg : decode cc pc = .ok (.isub, 1))
    (k : X_ p l e R s m args below meth c Q D cl A nL cells slots ws lv (pc + 1) (.int (x - y) :: st)) : X_ p l e R s m args below meth c Q D cl A nL cells slots ws lv pc (.int y :: .int x :: st) := fun H locs ls hP hD hS hl => lv_isub S.1 S.2.1 hdg (k H locs ls hP hD hS hl)
theorem x_imul (S : CallFix p m c cc nL s args Ts own) {x y : Int32} (hdg : decode cc pc = .ok (.imul, 1))
    (k : X_ p l e R s m args below meth c Q D cl A nL cells slots ws lv (pc + 1) (.int (x * y) :: st)) : X_ p l e R s m args below meth c Q D cl A nL cells slots ws lv pc (.int y :: .int x :: st) := fun H locs ls hP hD hS hl => lv_imul S.1 S.2.1 hdg (k H locs ls hP hD hS hl)
theorem x_iand (S : CallFix p m c cc nL s args Ts own) {x y : Int32} (hdg : decode cc pc = .ok (.iand, 1))
    (k : X_ p l e R s m args below meth c Q D cl A nL cells slots ws lv (pc + 1) (.int (x &&& y) :: st)) : X_ p l e R s m args below meth c Q D cl A nL cells slots ws lv pc (.int y :: .int x :: st) := fun H locs ls hP hD hS hl => lv_iand S.1 S.2.1 hdg (k H locs ls hP hD hS hl)
theorem x_ior (S : CallFix p m c cc nL s args Ts own) {x y : Int32} (hdg : decode cc pc = .ok (.ior, 1))
    (k : X_ p l e R s m args below meth c Q D cl A nL cells slots ws lv (pc + 1) (.int (x ||| y) :: st)) : X_ p l e R s m args below meth c Q D cl A nL cells slots ws lv pc (.int y :: .int x :: st) := fun H locs ls hP hD hS hl => lv_ior S.1 S.2.1 hdg (k H locs ls hP hD hS hl)
theorem x_ixor (S : CallFix p m c cc nL s args Ts own) {x y : Int32} (hdg : decode cc pc = .ok (.ixor, 1))
    (k : X_ p l e R s m args below meth c Q D cl A nL cells slots ws lv (pc + 1) (.int (x ^^^ y) :: st)) : X_ p l e R s m args below meth c Q D cl A nL cells slots ws lv pc (.int y :: .int x :: st) := fun H locs ls hP hD hS hl => lv_ixor S.1 S.2.1 hdg (k H locs ls hP hD hS hl)
theorem x_ishl (S : CallFix p m c cc nL s args Ts own) {x y : Int32} (hdg : decode cc pc = .ok (.ishl, 1))
    (k : X_ p l e R s m args below meth c Q D cl A nL cells slots ws lv (pc + 1) (.int (x <<< (y &&& 31)) :: st)) : X_ p l e R s m args below meth c Q D cl A nL cells slots ws lv pc (.int y :: .int x :: st) := fun H locs ls hP hD hS hl => lv_ishl S.1 S.2.1 hdg (k H locs ls hP hD hS hl)
theorem x_ishr (S : CallFix p m c cc nL s args Ts own) {x y : Int32} (hdg : decode cc pc = .ok (.ishr, 1))
    (k : X_ p l e R s m args below meth c Q D cl A nL cells slots ws lv (pc + 1) (.int (x >>> (y &&& 31)) :: st)) : X_ p l e R s m args below meth c Q D cl A nL cells slots ws lv pc (.int y :: .int x :: st) := fun H locs ls hP hD hS hl => lv_ishr S.1 S.2.1 hdg (k H locs ls hP hD hS hl)
theorem x_ineg (S : CallFix p m c cc nL s args Ts own) {x : Int32} (hdg : decode cc pc = .ok (.ineg, 1))
    (k : X_ p l e R s m args below meth c Q D cl A nL cells slots ws lv (pc + 1) (.int (-x) :: st)) : X_ p l e R s m args below meth c Q D cl A nL cells slots ws lv pc (.int x :: st) := fun H locs ls hP hD hS hl => lv_ineg S.1 S.2.1 hdg (k H locs ls hP hD hS hl)
theorem x_iushr (S : CallFix p m c cc nL s args Ts own) {x y : Int32} (hdg : decode cc pc = .ok (.iushr, 1))
    (k : X_ p l e R s m args below meth c Q D cl A nL cells slots ws lv (pc + 1) (.int (x.toUInt32 >>> (y.toUInt32 &&& Int32.toUInt32 31)).toInt32 :: st)) : X_ p l e R s m args below meth c Q D cl A nL cells slots ws lv pc (.int y :: .int x :: st) := fun H locs ls hP hD hS hl => lv_iushr S.1 S.2.1 hdg rfl (k H locs ls hP hD hS hl)
theorem x_ladd (S : CallFix p m c cc nL s args Ts own) {x y : Int64} (hdg : decode cc pc = .ok (.ladd, 1))
    (k : X_ p l e R s m args below meth c Q D cl A nL cells slots ws lv (pc + 1) (.long (x + y) :: st)) : X_ p l e R s m args below meth c Q D cl A nL cells slots ws lv pc (.long y :: .long x :: st) := fun H locs ls hP hD hS hl => lv_ladd S.1 S.2.1 hdg (k H locs ls hP hD hS hl)
theorem x_lmul (S : CallFix p m c cc nL s args Ts own) {x y : Int64} (hdg : decode cc pc = .ok (.lmul, 1))
    (k : X_ p l e R s m args below meth c Q D cl A nL cells slots ws lv (pc + 1) (.long (x * y) :: st)) : X_ p l e R s m args below meth c Q D cl A nL cells slots ws lv pc (.long y :: .long x :: st) := fun H locs ls hP hD hS hl => lv_lmul S.1 S.2.1 hdg (k H locs ls hP hD hS hl)
theorem x_land (S : CallFix p m c cc nL s args Ts own) {x y : Int64} (hdg : decode cc pc = .ok (.land, 1))
    (k : X_ p l e R s m args below meth c Q D cl A nL cells slots ws lv (pc + 1) (.long (x &&& y) :: st)) : X_ p l e R s m args below meth c Q D cl A nL cells slots ws lv pc (.long y :: .long x :: st) := fun H locs ls hP hD hS hl => lv_land S.1 S.2.1 hdg (k H locs ls hP hD hS hl)
theorem x_lor (S : CallFix p m c cc nL s args Ts own) {x y : Int64} (hdg : decode cc pc = .ok (.lor, 1))
    (k : X_ p l e R s m args below meth c Q D cl A nL cells slots ws lv (pc + 1) (.long (x ||| y) :: st)) : X_ p l e R s m args below meth c Q D cl A nL cells slots ws lv pc (.long y :: .long x :: st) := fun H locs ls hP hD hS hl => lv_lor S.1 S.2.1 hdg (k H locs ls hP hD hS hl)
theorem x_lushr (S : CallFix p m c cc nL s args Ts own) {x : Int64} {y : Int32} (hdg : decode cc pc = .ok (.lushr, 1))
    (k : X_ p l e R s m args below meth c Q D cl A nL cells slots ws lv (pc + 1) (.long (x.toUInt64 >>> (y.toInt64.toUInt64 &&& Int64.toUInt64 63)).toInt64 :: st)) : X_ p l e R s m args below meth c Q D cl A nL cells slots ws lv pc (.int y :: .long x :: st) := fun H locs ls hP hD hS hl => lv_lushr S.1 S.2.1 hdg rfl (k H locs ls hP hD hS hl)
theorem x_lshl (S : CallFix p m c cc nL s args Ts own) {x : Int64} {y : Int32} (hdg : decode cc pc = .ok (.lshl, 1))
    (k : X_ p l e R s m args below meth c Q D cl A nL cells slots ws lv (pc + 1) (.long (x <<< (y.toInt64 &&& 63)) :: st)) : X_ p l e R s m args below meth c Q D cl A nL cells slots ws lv pc (.int y :: .long x :: st) := fun H locs ls hP hD hS hl => lv_lshl S.1 S.2.1 hdg rfl (k H locs ls hP hD hS hl)
theorem x_lshr (S : CallFix p m c cc nL s args Ts own) {x : Int64} {y : Int32} (hdg : decode cc pc = .ok (.lshr, 1))
    (k : X_ p l e R s m args below meth c Q D cl A nL cells slots ws lv (pc + 1) (.long (x >>> (y.toInt64 &&& 63)) :: st)) : X_ p l e R s m args below meth c Q D cl A nL cells slots ws lv pc (.int y :: .long x :: st) := fun H locs ls hP hD hS hl => lv_lshr S.1 S.2.1 hdg rfl (k H locs ls hP hD hS hl)
theorem x_l2i (S : CallFix p m c cc nL s args Ts own) {x : Int64} (hdg : decode cc pc = .ok (.l2i, 1))
    (k : X_ p l e R s m args below meth c Q D cl A nL cells slots ws lv (pc + 1) (.int x.toInt32 :: st)) : X_ p l e R s m args below meth c Q D cl A nL cells slots ws lv pc (.long x :: st) := fun H locs ls hP hD hS hl => lv_l2i S.1 S.2.1 hdg rfl (k H locs ls hP hD hS hl)
theorem x_i2l (S : CallFix p m c cc nL s args Ts own) {x : Int32} (hdg : decode cc pc = .ok (.i2l, 1))
    (k : X_ p l e R s m args below meth c Q D cl A nL cells slots ws lv (pc + 1) (.long x.toInt64 :: st)) : X_ p l e R s m args below meth c Q D cl A nL cells slots ws lv pc (.int x :: st) := fun H locs ls hP hD hS hl => lv_i2l S.1 S.2.1 hdg rfl (k H locs ls hP hD hS hl)
theorem x_lcmp (S : CallFix p m c cc nL s args Ts own) {x y : Int64} (hdg : decode cc pc = .ok (.lcmp, 1))
    (k : X_ p l e R s m args below meth c Q D cl A nL cells slots ws lv (pc + 1) (.int (lg_cmp x y) :: st)) : X_ p l e R s m args below meth c Q D cl A nL cells slots ws lv pc (.long y :: .long x :: st) := fun H locs ls hP hD hS hl => W.lcmp S.1 S.2.1 hdg (k H locs ls hP hD hS hl)
theorem x_dup (S : CallFix p m c cc nL s args Ts own) {va : Value} (hdg : decode cc pc = .ok (.dup, 1)) (hva : va.category = 1)
    (k : X_ p l e R s m args below meth c Q D cl A nL cells slots ws lv (pc + 1) (va :: va :: st)) : X_ p l e R s m args below meth c Q D cl A nL cells slots ws lv pc (va :: st) := fun H locs ls hP hD hS hl => lv_dup S.1 S.2.1 hdg hva (k H locs ls hP hD hS hl)
theorem x_pop (S : CallFix p m c cc nL s args Ts own) {va : Value} (hdg : decode cc pc = .ok (.pop, 1)) (hva : va.category = 1)
    (k : X_ p l e R s m args below meth c Q D cl A nL cells slots ws lv (pc + 1) (st)) : X_ p l e R s m args below meth c Q D cl A nL cells slots ws lv pc (va :: st) := fun H locs ls hP hD hS hl => lv_pop S.1 S.2.1 hdg hva (k H locs ls hP hD hS hl)
theorem x_dup2 (S : CallFix p m c cc nL s args Ts own) {va vb : Value} (hdg : decode cc pc = .ok (.dup2, 1)) (hva : va.category = 1) (hvb : vb.category = 1)
    (k : X_ p l e R s m args below meth c Q D cl A nL cells slots ws lv (pc + 1) (va :: vb :: va :: vb :: st)) : X_ p l e R s m args below meth c Q D cl A nL cells slots ws lv pc (va :: vb :: st) := fun H locs ls hP hD hS hl => lv_dup2_11 S.1 S.2.1 hdg hva hvb (k H locs ls hP hD hS hl)
theorem x_dup_x1 (S : CallFix p m c cc nL s args Ts own) {va vb : Value} (hdg : decode cc pc = .ok (.dup_x1, 1)) (hva : va.category = 1) (hvb : vb.category = 1)
    (k : X_ p l e R s m args below meth c Q D cl A nL cells slots ws lv (pc + 1) (va :: vb :: va :: st)) : X_ p l e R s m args below meth c Q D cl A nL cells slots ws lv pc (va :: vb :: st) := fun H locs ls hP hD hS hl => lv_dup_x1 S.1 S.2.1 hdg hva hvb (k H locs ls hP hD hS hl)
theorem x_idiv (S : CallFix p m c cc nL s args Ts own) {x y : Int32} {u : Option ρ} (hdg : decode cc pc = .ok (.idiv, 1)) (h : (if y = 0 then none else u) = some r)
    (k : u = some r → X_ p l e R s m args below meth c Q D cl A nL cells slots ws lv (pc + 1) (.int (x / y) :: st)) : X_ p l e R s m args below meth c Q D cl A nL cells slots ws lv pc (.int y :: .int x :: st) := fun H locs ls hP hD hS hl => lv_idiv S.1 S.2.1 hdg (gd _ h).1 (k (gd _ h).2 H locs ls hP hD hS hl)
theorem x_irem (S : CallFix p m c cc nL s args Ts own) {x y : Int32} {u : Option ρ} (hdg : decode cc pc = .ok (.irem, 1)) (h : (if y = 0 then none else u) = some r)
    (k : u = some r → X_ p l e R s m args below meth c Q D cl A nL cells slots ws lv (pc + 1) (.int (x - x / y * y) :: st)) : X_ p l e R s m args below meth c Q D cl A nL cells slots ws lv pc (.int y :: .int x :: st) := fun H locs ls hP hD hS hl => lv_irem S.1 S.2.1 hdg (gd _ h).1 (k (gd _ h).2 H locs ls hP hD hS hl)
theorem x_icmp_eq (S : CallFix p m c cc nL s args Ts own) {x y : Int32} {off : Int} {u v : Option ρ} (tgt : Nat) (hdg : decode cc pc = .ok (.if_icmp .eq off, 3)) (ht : (pc : Int) + off = (tgt : Int)) (h : (if x = y then u else v) = some r)
    (kt : u = some r → X_ p l e R s m args below meth c Q D cl A nL cells slots ws lv tgt st) (kf : v = some r → X_ p l e R s m args below meth c Q D cl A nL cells slots ws lv (pc + 3) st) : X_ p l e R s m args below meth c Q D cl A nL cells slots ws lv pc (.int y :: .int x :: st) := fun H locs ls hP hD hS hl => lv_icmp_eq S.1 S.2.1 hdg ht (fun hc => kt ((if_pos hc).symm.trans h) H locs ls hP hD hS hl) (fun hc => kf ((if_neg hc).symm.trans h) H locs ls hP hD hS hl)
theorem x_icmp_lt (S : CallFix p m c cc nL s args Ts own) {x y : Int32} {off : Int} {u v : Option ρ} (tgt : Nat) (hdg : decode cc pc = .ok (.if_icmp .lt off, 3)) (ht : (pc : Int) + off = (tgt : Int)) (h : (if x < y then u else v) = some r)
    (kt : u = some r → X_ p l e R s m args below meth c Q D cl A nL cells slots ws lv tgt st) (kf : v = some r → X_ p l e R s m args below meth c Q D cl A nL cells slots ws lv (pc + 3) st) : X_ p l e R s m args below meth c Q D cl A nL cells slots ws lv pc (.int y :: .int x :: st) := fun H locs ls hP hD hS hl => lv_icmp_lt S.1 S.2.1 hdg ht (fun hc => kt ((if_pos hc).symm.trans h) H locs ls hP hD hS hl) (fun hc => kf ((if_neg hc).symm.trans h) H locs ls hP hD hS hl)
theorem x_icmp_ge (S : CallFix p m c cc nL s args Ts own) {x y : Int32} {off : Int} {u v : Option ρ} (tgt : Nat) (hdg : decode cc pc = .ok (.if_icmp .ge off, 3)) (ht : (pc : Int) + off = (tgt : Int)) (h : (if y ≤ x then u else v) = some r)
    (kt : u = some r → X_ p l e R s m args below meth c Q D cl A nL cells slots ws lv tgt st) (kf : v = some r → X_ p l e R s m args below meth c Q D cl A nL cells slots ws lv (pc + 3) st) : X_ p l e R s m args below meth c Q D cl A nL cells slots ws lv pc (.int y :: .int x :: st) := fun H locs ls hP hD hS hl => lv_icmp_ge S.1 S.2.1 hdg ht (fun hc => kt ((if_pos hc).symm.trans h) H locs ls hP hD hS hl) (fun hc => kf ((if_neg hc).symm.trans h) H locs ls hP hD hS hl)
theorem x_icmp_gt (S : CallFix p m c cc nL s args Ts own) {x y : Int32} {off : Int} {u v : Option ρ} (tgt : Nat) (hdg : decode cc pc = .ok (.if_icmp .gt off, 3)) (ht : (pc : Int) + off = (tgt : Int)) (h : (if y < x then u else v) = some r)
    (kt : u = some r → X_ p l e R s m args below meth c Q D cl A nL cells slots ws lv tgt st) (kf : v = some r → X_ p l e R s m args below meth c Q D cl A nL cells slots ws lv (pc + 3) st) : X_ p l e R s m args below meth c Q D cl A nL cells slots ws lv pc (.int y :: .int x :: st) := fun H locs ls hP hD hS hl => lv_icmp_gt S.1 S.2.1 hdg ht (fun hc => kt ((if_pos hc).symm.trans h) H locs ls hP hD hS hl) (fun hc => kf ((if_neg hc).symm.trans h) H locs ls hP hD hS hl)
theorem x_icmp_le (S : CallFix p m c cc nL s args Ts own) {x y : Int32} {off : Int} {u v : Option ρ} (tgt : Nat) (hdg : decode cc pc = .ok (.if_icmp .le off, 3)) (ht : (pc : Int) + off = (tgt : Int)) (h : (if x ≤ y then u else v) = some r)
    (kt : u = some r → X_ p l e R s m args below meth c Q D cl A nL cells slots ws lv tgt st) (kf : v = some r → X_ p l e R s m args below meth c Q D cl A nL cells slots ws lv (pc + 3) st) : X_ p l e R s m args below meth c Q D cl A nL cells slots ws lv pc (.int y :: .int x :: st) := fun H locs ls hP hD hS hl => lv_icmp_le S.1 S.2.1 hdg ht (fun hc => kt ((if_pos hc).symm.trans h) H locs ls hP hD hS hl) (fun hc => kf ((if_neg hc).symm.trans h) H locs ls hP hD hS hl)
theorem x_icmp_ne (S : CallFix p m c cc nL s args Ts own) {x y : Int32} {off : Int} {u v : Option ρ} (tgt : Nat) (hdg : decode cc pc = .ok (.if_icmp .ne off, 3)) (ht : (pc : Int) + off = (tgt : Int)) (h : (if x = y then v else u) = some r)
    (kt : u = some r → X_ p l e R s m args below meth c Q D cl A nL cells slots ws lv tgt st) (kf : v = some r → X_ p l e R s m args below meth c Q D cl A nL cells slots ws lv (pc + 3) st) : X_ p l e R s m args below meth c Q D cl A nL cells slots ws lv pc (.int y :: .int x :: st) := fun H locs ls hP hD hS hl => lv_icmp_ne S.1 S.2.1 hdg ht (fun hc => kt ((if_neg hc).symm.trans h) H locs ls hP hD hS hl) (fun hc => kf ((if_pos hc).symm.trans h) H locs ls hP hD hS hl)
theorem x_if_eq (S : CallFix p m c cc nL s args Ts own) {x : Int32} {off : Int} {u v : Option ρ} (tgt : Nat) (hdg : decode cc pc = .ok (.ifCond .eq off, 3)) (ht : (pc : Int) + off = (tgt : Int)) (h : (if x = 0 then u else v) = some r)
    (kt : u = some r → X_ p l e R s m args below meth c Q D cl A nL cells slots ws lv tgt st) (kf : v = some r → X_ p l e R s m args below meth c Q D cl A nL cells slots ws lv (pc + 3) st) : X_ p l e R s m args below meth c Q D cl A nL cells slots ws lv pc (.int x :: st) := fun H locs ls hP hD hS hl => lv_if_eq S.1 S.2.1 hdg ht (fun hc => kt ((if_pos hc).symm.trans h) H locs ls hP hD hS hl) (fun hc => kf ((if_neg hc).symm.trans h) H locs ls hP hD hS hl)
theorem x_if_lt (S : CallFix p m c cc nL s args Ts own) {x : Int32} {off : Int} {u v : Option ρ} (tgt : Nat) (hdg : decode cc pc = .ok (.ifCond .lt off, 3)) (ht : (pc : Int) + off = (tgt : Int)) (h : (if x < 0 then u else v) = some r)
    (kt : u = some r → X_ p l e R s m args below meth c Q D cl A nL cells slots ws lv tgt st) (kf : v = some r → X_ p l e R s m args below meth c Q D cl A nL cells slots ws lv (pc + 3) st) : X_ p l e R s m args below meth c Q D cl A nL cells slots ws lv pc (.int x :: st) := fun H locs ls hP hD hS hl => lv_if_lt S.1 S.2.1 hdg ht (fun hc => kt ((if_pos hc).symm.trans h) H locs ls hP hD hS hl) (fun hc => kf ((if_neg hc).symm.trans h) H locs ls hP hD hS hl)
theorem x_if_ge (S : CallFix p m c cc nL s args Ts own) {x : Int32} {off : Int} {u v : Option ρ} (tgt : Nat) (hdg : decode cc pc = .ok (.ifCond .ge off, 3)) (ht : (pc : Int) + off = (tgt : Int)) (h : (if 0 ≤ x then u else v) = some r)
    (kt : u = some r → X_ p l e R s m args below meth c Q D cl A nL cells slots ws lv tgt st) (kf : v = some r → X_ p l e R s m args below meth c Q D cl A nL cells slots ws lv (pc + 3) st) : X_ p l e R s m args below meth c Q D cl A nL cells slots ws lv pc (.int x :: st) := fun H locs ls hP hD hS hl => lv_if_ge S.1 S.2.1 hdg ht (fun hc => kt ((if_pos hc).symm.trans h) H locs ls hP hD hS hl) (fun hc => kf ((if_neg hc).symm.trans h) H locs ls hP hD hS hl)
theorem x_if_gt (S : CallFix p m c cc nL s args Ts own) {x : Int32} {off : Int} {u v : Option ρ} (tgt : Nat) (hdg : decode cc pc = .ok (.ifCond .gt off, 3)) (ht : (pc : Int) + off = (tgt : Int)) (h : (if 0 < x then u else v) = some r)
    (kt : u = some r → X_ p l e R s m args below meth c Q D cl A nL cells slots ws lv tgt st) (kf : v = some r → X_ p l e R s m args below meth c Q D cl A nL cells slots ws lv (pc + 3) st) : X_ p l e R s m args below meth c Q D cl A nL cells slots ws lv pc (.int x :: st) := fun H locs ls hP hD hS hl => lv_if_gt S.1 S.2.1 hdg ht (fun hc => kt ((if_pos hc).symm.trans h) H locs ls hP hD hS hl) (fun hc => kf ((if_neg hc).symm.trans h) H locs ls hP hD hS hl)
theorem x_if_le (S : CallFix p m c cc nL s args Ts own) {x : Int32} {off : Int} {u v : Option ρ} (tgt : Nat) (hdg : decode cc pc = .ok (.ifCond .le off, 3)) (ht : (pc : Int) + off = (tgt : Int)) (h : (if x ≤ 0 then u else v) = some r)
    (kt : u = some r → X_ p l e R s m args below meth c Q D cl A nL cells slots ws lv tgt st) (kf : v = some r → X_ p l e R s m args below meth c Q D cl A nL cells slots ws lv (pc + 3) st) : X_ p l e R s m args below meth c Q D cl A nL cells slots ws lv pc (.int x :: st) := fun H locs ls hP hD hS hl => lv_if_le S.1 S.2.1 hdg ht (fun hc => kt ((if_pos hc).symm.trans h) H locs ls hP hD hS hl) (fun hc => kf ((if_neg hc).symm.trans h) H locs ls hP hD hS hl)
theorem x_if_ne (S : CallFix p m c cc nL s args Ts own) {x : Int32} {off : Int} {u v : Option ρ} (tgt : Nat) (hdg : decode cc pc = .ok (.ifCond .ne off, 3)) (ht : (pc : Int) + off = (tgt : Int)) (h : (if x = 0 then v else u) = some r)
    (kt : u = some r → X_ p l e R s m args below meth c Q D cl A nL cells slots ws lv tgt st) (kf : v = some r → X_ p l e R s m args below meth c Q D cl A nL cells slots ws lv (pc + 3) st) : X_ p l e R s m args below meth c Q D cl A nL cells slots ws lv pc (.int x :: st) := fun H locs ls hP hD hS hl => lv_if_ne S.1 S.2.1 hdg ht (fun hc => kt ((if_neg hc).symm.trans h) H locs ls hP hD hS hl) (fun hc => kf ((if_pos hc).symm.trans h) H locs ls hP hD hS hl)
theorem x_goto (S : CallFix p m c cc nL s args Ts own) {off : Int} (tgt : Nat) (hdg : decode cc pc = .ok (.goto off, 3)) (ht : (pc : Int) + off = (tgt : Int))
    (k : X_ p l e R s m args below meth c Q D cl A nL cells slots ws lv tgt st) : X_ p l e R s m args below meth c Q D cl A nL cells slots ws lv pc st := fun H locs ls hP hD hS hl => lv_goto S.1 S.2.1 hdg ht (k H locs ls hP hD hS hl)
theorem x_tableIn (S : CallFix p m c cc nL s args Ts own) {dflt lo hi : Int} {offs : Array Int} {len : Nat} {x : Int32} {off : Int} (tgt : Nat) (hdg : decode cc pc = .ok (.tableswitch dflt lo hi offs, len)) {kx : Int32} (hx : x = kx) (h1 : ¬ kx.toInt < lo) (h2 : ¬ hi < kx.toInt) (ho : offs[(kx.toInt - lo).toNat]? = some off) (ht : (pc : Int) + off = (tgt : Int))
    (k : X_ p l e R s m args below meth c Q D cl A nL cells slots ws lv tgt st) : X_ p l e R s m args below meth c Q D cl A nL cells slots ws lv pc (.int x :: st) := fun H locs ls hP hD hS hl => by subst hx; exact lv_tableIn S.1 S.2.1 hdg h1 h2 ho ht (k H locs ls hP hD hS hl)
theorem x_tableOut (S : CallFix p m c cc nL s args Ts own) {dflt lo hi : Int} {offs : Array Int} {len : Nat} {x : Int32} (tgt : Nat) (hdg : decode cc pc = .ok (.tableswitch dflt lo hi offs, len)) (hx : x.toInt < lo ∨ hi < x.toInt) (ht : (pc : Int) + dflt = (tgt : Int))
    (k : X_ p l e R s m args below meth c Q D cl A nL cells slots ws lv tgt st) : X_ p l e R s m args below meth c Q D cl A nL cells slots ws lv pc (.int x :: st) := fun H locs ls hP hD hS hl => lv_tableOut S.1 S.2.1 hdg hx ht (k H locs ls hP hD hS hl)
theorem x_get (S : CallFix p m c cc nL s args Ts own) (hK : K_ D cl tys s) {ref C : String} {T : u_T} {N ci index a : Nat} {fs : List Value} {v : Value} (hin : ∀ w ∈ u_ws C T N, w ∈ Ts) (q0 : Nat) (he : ws[q0]? = some (a, .inr (ci, fs))) (hc : cl[ci]? = some (C, T, N)) (kf : Nat) (hk : kf < N) (hlink : Cond.fieldLink own index ref (T kf).2.1 (T kf).2.2.1 ∈ Ts) (hsame : (T kf).1 = ref) (hv : fs[kf]? = some v) (hdg : decode cc pc = .ok (.getfield index, 3))
    (k : X_ p l e R s m args below meth c Q D cl A nL cells slots ws lv (pc + 3) (v :: st)) : X_ p l e R s m args below meth c Q D cl A nL cells slots ws lv pc (.ref a :: st) := fun H locs ls hP hD hS hl => va_get S.1 S.2.1 S.2.2.2.2 hin S.2.2.2.1 hK.1 hP q0 he hc kf hk (S.2.2.2.2 _ hlink) (fun x9 h9 => by rw [← hsame]; exact h9) hv hdg (k H locs ls hP hD hS hl)
theorem x_getN (S : CallFix p m c cc nL s args Ts own) (hK : K_ D cl tys s) {ref C : String} {T : u_T} {N ci index a : Nat} {fs : List Value} {v : Value} (hin : ∀ w ∈ u_ws C T N, w ∈ Ts) (q0 : Nat) (he : ws[q0]? = some (a, .inr (ci, fs))) (hc : cl[ci]? = some (C, T, N)) (kf : Nat) (hk : kf < N) (hlink : (own, index, ref, (T kf).2.1, (T kf).2.2.1) ∈ nestF) (hsame : (T kf).1 = ref) (hv : fs[kf]? = some v) (hdg : decode cc pc = .ok (.getfield index, 3))
    (k : X_ p l e R s m args below meth c Q D cl A nL cells slots ws lv (pc + 3) (v :: st)) : X_ p l e R s m args below meth c Q D cl A nL cells slots ws lv pc (.ref a :: st) := fun H locs ls hP hD hS hl => va_getN S.1 S.2.1 S.2.2.2.2 hin S.2.2.2.1 hK.1 hP q0 he hc kf hk (va_Nw.use rfl (hK.2.1 _ hlink)) (fun x9 h9 => by rw [← hsame]; exact h9) hv hdg (k H locs ls hP hD hS hl)
theorem x_put (S : CallFix p m c cc nL s args Ts own) (hK : K_ D cl tys s) {ref C : String} {T : u_T} {N ci index a : Nat} {fs : List Value} {v : Value} {ws' : va_W} {ty : FieldType} (hin : ∀ w ∈ u_ws C T N, w ∈ Ts) (ty0 : Nat → FieldType) (hty : ∀ k, k < N → parseFieldDescriptor (T k).2.2.1 = some (ty0 k)) (hnm : ∀ a, a < N → ∀ b, b < N → a ≠ b → (T a).2.1 ≠ (T b).2.1) (q0 : Nat) (he : ws[q0]? = some (a, .inr (ci, fs))) (hc : cl[ci]? = some (C, T, N)) (kf : Nat) (hk : kf < N) (hlink : Cond.fieldLink own index ref (T kf).2.1 (T kf).2.2.1 ∈ Ts) (hsame : (T kf).1 = ref) (hfin : (T kf).2.2.2 = false) (hd : parseFieldDescriptor (T kf).2.2.1 = some ty) (hn : narrow ty v = v) (hfit : fits ty v = true) (hlen : kf < fs.length) (hdg : decode cc pc = .ok (.putfield index, 3)) (hw : ws.set q0 (a, .inr (ci, fs.set kf v)) = ws')
    (k : X_ p l e R s m args below meth c Q D cl A nL cells slots ws' lv (pc + 3) st) : X_ p l e R s m args below meth c Q D cl A nL cells slots ws lv pc (v :: .ref a :: st) := fun H locs ls hP hD hS hl => va_put S.1 S.2.1 S.2.2.2.2 hin ty0 hty hnm S.2.2.2.1 hK.1 hP hD hS q0 he hc kf hk (S.2.2.2.2 _ hlink) (fun x9 h9 => by rw [← hsame]; exact h9) hfin hd hn hfit hlen hdg (fun H1 locs1 hP hD hS => by subst hw; exact k H1 locs1 ls hP hD hS hl)
theorem x_putF (S : CallFix p m c cc nL s args Ts own) (hK : K_ D cl tys s) {ref C : String} {T : u_T} {N ci index a : Nat} {fs : List Value} {v : Value} {ws' : va_W} {ty : FieldType} (hin : ∀ w ∈ u_ws C T N, w ∈ Ts) (ty0 : Nat → FieldType) (hty : ∀ k, k < N → parseFieldDescriptor (T k).2.2.1 = some (ty0 k)) (hnm : ∀ a, a < N → ∀ b, b < N → a ≠ b → (T a).2.1 ≠ (T b).2.1) (q0 : Nat) (he : ws[q0]? = some (a, .inr (ci, fs))) (hc : cl[ci]? = some (C, T, N)) (kf : Nat) (hk : kf < N) (hlink : Cond.fieldLink own index ref (T kf).2.1 (T kf).2.2.1 ∈ Ts) (hsame : (T kf).1 = ref) (hfin : (T kf).2.2.2 = true) (hini : meth.name = "<init>") (hdecl : (T kf).1 = own) (hd : parseFieldDescriptor (T kf).2.2.1 = some ty) (hn : narrow ty v = v) (hfit : fits ty v = true) (hlen : kf < fs.length) (hdg : decode cc pc = .ok (.putfield index, 3)) (hw : ws.set q0 (a, .inr (ci, fs.set kf v)) = ws')
    (k : X_ p l e R s m args below meth c Q D cl A nL cells slots ws' lv (pc + 3) st) : X_ p l e R s m args below meth c Q D cl A nL cells slots ws lv pc (v :: .ref a :: st) := fun H locs ls hP hD hS hl => va_putF S.1 S.2.1 S.2.2.2.2 hin ty0 hty hnm S.2.2.2.1 hK.1 hP hD hS q0 he hc kf hk (S.2.2.2.2 _ hlink) (fun x9 h9 => by rw [← hsame]; exact h9) hfin hini hdecl hd hn hfit hlen hdg (fun H1 locs1 hP hD hS => by subst hw; exact k H1 locs1 ls hP hD hS hl)
theorem x_putN (S : CallFix p m c cc nL s args Ts own) (hK : K_ D cl tys s) {ref C : String} {T : u_T} {N ci index a : Nat} {fs : List Value} {v : Value} {ws' : va_W} {ty : FieldType} (hin : ∀ w ∈ u_ws C T N, w ∈ Ts) (ty0 : Nat → FieldType) (hty : ∀ k, k < N → parseFieldDescriptor (T k).2.2.1 = some (ty0 k)) (hnm : ∀ a, a < N → ∀ b, b < N → a ≠ b → (T a).2.1 ≠ (T b).2.1) (q0 : Nat) (he : ws[q0]? = some (a, .inr (ci, fs))) (hc : cl[ci]? = some (C, T, N)) (kf : Nat) (hk : kf < N) (hlink : (own, index, ref, (T kf).2.1, (T kf).2.2.1) ∈ nestF) (hsame : (T kf).1 = ref) (hfin : (T kf).2.2.2 = false) (hd : parseFieldDescriptor (T kf).2.2.1 = some ty) (hn : narrow ty v = v) (hfit : fits ty v = true) (hlen : kf < fs.length) (hdg : decode cc pc = .ok (.putfield index, 3)) (hw : ws.set q0 (a, .inr (ci, fs.set kf v)) = ws')
    (k : X_ p l e R s m args below meth c Q D cl A nL cells slots ws' lv (pc + 3) st) : X_ p l e R s m args below meth c Q D cl A nL cells slots ws lv pc (v :: .ref a :: st) := fun H locs ls hP hD hS hl => va_putN S.1 S.2.1 S.2.2.2.2 hin ty0 hty hnm S.2.2.2.1 hK.1 hP hD hS q0 he hc kf hk (va_Nw.use rfl (hK.2.1 _ hlink)) (fun x9 h9 => by rw [← hsame]; exact h9) hfin hd hn hfit hlen hdg (fun H1 locs1 hP hD hS => by subst hw; exact k H1 locs1 ls hP hD hS hl)
theorem x_iald (S : CallFix p m c cc nL s args Ts own) (hK : K_ D cl tys s) {a n : Nat} {cA : ClassId} {f : Nat → Int32} {i : Int32} {u : Option ρ} (q0 t0 : Nat) (ha : ws[q0]? = some (a, .inl (cA, n, .inl f))) (ht : tys[t0]? = some (cA, .int)) (hdg : decode cc pc = .ok (.iaload, 1)) (h : (if i < 0 ∨ n ≤ i.toNatClampNeg then none else u) = some r)
    (k : u = some r → X_ p l e R s m args below meth c Q D cl A nL cells slots ws lv (pc + 1) (.int (f i.toNatClampNeg) :: st)) : X_ p l e R s m args below meth c Q D cl A nL cells slots ws lv pc (.int i :: .ref a :: st) := fun H locs ls hP hD hS hl => va_iald S.1 S.2.1 hK.1 hP q0 t0 ha ht (gd _ h).1 hdg (k (gd _ h).2 H locs ls hP hD hS hl)
theorem x_zald (S : CallFix p m c cc nL s args Ts own) (hK : K_ D cl tys s) {a n : Nat} {cA : ClassId} {f : Nat → Int32} {i : Int32} {u : Option ρ} (q0 t0 : Nat) (ha : ws[q0]? = some (a, .inl (cA, n, .inl f))) (ht : tys[t0]? = some (cA, .boolean)) (hdg : decode cc pc = .ok (.baload, 1)) (h : (if i < 0 ∨ n ≤ i.toNatClampNeg then none else u) = some r)
    (k : u = some r → X_ p l e R s m args below meth c Q D cl A nL cells slots ws lv (pc + 1) (.int (f i.toNatClampNeg) :: st)) : X_ p l e R s m args below meth c Q D cl A nL cells slots ws lv pc (.int i :: .ref a :: st) := fun H locs ls hP hD hS hl => va_zald S.1 S.2.1 hK.1 hP q0 t0 ha ht (gd _ h).1 hdg (k (gd _ h).2 H locs ls hP hD hS hl)
theorem x_iast (S : CallFix p m c cc nL s args Ts own) (hK : K_ D cl tys s) {a n : Nat} {cA : ClassId} {f : Nat → Int32} {i x : Int32} {u : Option ρ} {ws' : va_W} (q0 t0 : Nat) (ha : ws[q0]? = some (a, .inl (cA, n, .inl f))) (ht : tys[t0]? = some (cA, .int)) (hdg : decode cc pc = .ok (.iastore, 1)) (h : (if i < 0 ∨ n ≤ i.toNatClampNeg then none else u) = some r) (hw : ws.set q0 (a, .inl (cA, n, .inl (upd f i.toNatClampNeg x))) = ws')
    (k : u = some r → X_ p l e R s m args below meth c Q D cl A nL cells slots ws' lv (pc + 1) st) : X_ p l e R s m args below meth c Q D cl A nL cells slots ws lv pc (.int x :: .int i :: .ref a :: st) := fun H locs ls hP hD hS hl => va_iast S.1 S.2.1 hK.1 hP hD hS q0 t0 ha ht (gd _ h).1 hdg (fun H1 locs1 hP hD hS => by subst hw; exact k (gd _ h).2 H1 locs1 ls hP hD hS hl)
theorem x_zast (S : CallFix p m c cc nL s args Ts own) (hK : K_ D cl tys s) {a n : Nat} {cA : ClassId} {f : Nat → Int32} {i x : Int32} {u : Option ρ} {ws' : va_W} (q0 t0 : Nat) (ha : ws[q0]? = some (a, .inl (cA, n, .inl f))) (ht : tys[t0]? = some (cA, .boolean)) (hdg : decode cc pc = .ok (.bastore, 1)) (h : (if i < 0 ∨ n ≤ i.toNatClampNeg then none else u) = some r) (hw : ws.set q0 (a, .inl (cA, n, .inl (upd f i.toNatClampNeg (vp_nar .boolean x)))) = ws')
    (k : u = some r → X_ p l e R s m args below meth c Q D cl A nL cells slots ws' lv (pc + 1) st) : X_ p l e R s m args below meth c Q D cl A nL cells slots ws lv pc (.int x :: .int i :: .ref a :: st) := fun H locs ls hP hD hS hl => va_zast S.1 S.2.1 hK.1 hP hD hS q0 t0 ha ht (gd _ h).1 hdg (fun H1 locs1 hP hD hS => by subst hw; exact k (gd _ h).2 H1 locs1 ls hP hD hS hl)
theorem x_alen (S : CallFix p m c cc nL s args Ts own) (hK : K_ D cl tys s) {a : Nat} {cA : ClassId} {x : vp_A} {ty : FieldType} (q0 t0 : Nat) (ha : ws[q0]? = some (a, .inl (cA, x))) (ht : tys[t0]? = some (cA, ty)) (hdg : decode cc pc = .ok (.arraylength, 1))
    (k : X_ p l e R s m args below meth c Q D cl A nL cells slots ws lv (pc + 1) (.int (nI x.1) :: st)) : X_ p l e R s m args below meth c Q D cl A nL cells slots ws lv pc (.ref a :: st) := fun H locs ls hP hD hS hl => va_alen S.1 S.2.1 hK.1 hP q0 t0 ha ht rfl hdg (k H locs ls hP hD hS hl)
theorem x_lv {lv' : List (Nat × Value)} (ks : List Nat) (hl' : lv_pick lv ks = lv')
    (k : X_ p l e R s m args below meth c Q D cl A nL cells slots ws lv' pc st) : X_ p l e R s m args below meth c Q D cl A nL cells slots ws lv pc st := fun H locs ls hP hD hS hl => k H locs ls hP hD hS (lv_sub hl ks hl')
theorem x_ws {ws' : va_W} (is : List Nat) (hn : va_nd is = true) (hs : is.map (fun i => ws[i]?) = ws'.map some)
    (k : X_ p l e R s m args below meth c Q D cl A nL cells slots ws' lv pc st) : X_ p l e R s m args below meth c Q D cl A nL cells slots ws lv pc st := fun H locs ls hP hD hS hl => k H locs ls (hP.sub is (x_fm hs)) (hD.sub is hn hs) hS hl
theorem x_we {ws' : va_W} (hs : ws = ws')
    (k : X_ p l e R s m args below meth c Q D cl A nL cells slots ws' lv pc st) : X_ p l e R s m args below meth c Q D cl A nL cells slots ws lv pc st := hs ▸ k
theorem x_wd {k1 n1 : Nat} (h1 : cells ≤ k1) (h2 : slots ≤ n1)
    (k : X_ p l e R s m args below meth c Q D cl A nL k1 n1 ws lv pc st) : X_ p l e R s m args below meth c Q D cl A nL cells slots ws lv pc st := fun H locs ls hP hD hS hl => W.widen h1 h2 (k H locs ls hP hD hS hl)
theorem x_mmax (S : CallFix p m c cc nL s args Ts own) {index : Nat} {x y : Int32} (hlink : Cond.methodLink own index Lib.Math.max.name ∈ Ts) (hstat : Cond.static Lib.Math.max.name ∈ Ts) (hini : Cond.initialized "java/lang/Math" ∈ Ts) (hcode : Cond.code Lib.Math.max.name Lib.Math.max.code 2 (some .int) ∈ Ts) (hframes : 1 ≤ R.frames) (hlocals : (st.map fun v => v.category).sum + 13 ≤ R.locals) (hc : cells ≤ R.cells) (hs : slots ≤ R.slots) (hdg : decode cc pc = .ok (.invokestatic index, 3))
    (k : X_ p l e R s m args below meth c Q D cl A nL cells slots ws lv (pc + 3) (.int (if x < y then y else x) :: st)) : X_ p l e R s m args below meth c Q D cl A nL cells slots ws lv pc (.int y :: .int x :: st) := fun H locs ls hP hD hS hl => va_mmax S.1 S.2.1 (S.2.2.1.trans hl.1.symm) S.2.2.2.1 (S.2.2.2.2 _ hlink) (S.2.2.2.2 _ hstat) (S.2.2.2.2 _ hini) (S.2.2.2.2 _ hcode) hframes hlocals hc hs hdg (k H locs ls hP hD hS hl)
theorem x_mmin (S : CallFix p m c cc nL s args Ts own) {index : Nat} {x y : Int32} (hlink : Cond.methodLink own index Lib.Math.min.name ∈ Ts) (hstat : Cond.static Lib.Math.min.name ∈ Ts) (hini : Cond.initialized "java/lang/Math" ∈ Ts) (hcode : Cond.code Lib.Math.min.name Lib.Math.min.code 2 (some .int) ∈ Ts) (hframes : 1 ≤ R.frames) (hlocals : (st.map fun v => v.category).sum + 13 ≤ R.locals) (hc : cells ≤ R.cells) (hs : slots ≤ R.slots) (hdg : decode cc pc = .ok (.invokestatic index, 3))
    (k : X_ p l e R s m args below meth c Q D cl A nL cells slots ws lv (pc + 3) (.int (if y < x then y else x) :: st)) : X_ p l e R s m args below meth c Q D cl A nL cells slots ws lv pc (.int y :: .int x :: st) := fun H locs ls hP hD hS hl => va_mmin S.1 S.2.1 (S.2.2.1.trans hl.1.symm) S.2.2.2.1 (S.2.2.2.2 _ hlink) (S.2.2.2.2 _ hstat) (S.2.2.2.2 _ hini) (S.2.2.2.2 _ hcode) hframes hlocals hc hs hdg (k H locs ls hP hD hS hl)
theorem x_copyi (S : CallFix p m c cc nL s args Ts own) (hK : K_ D cl tys s) {index a a0 n0 n1 : Nat} {c0 c1 : ClassId} {f g : Nat → Int32} {sp dp n : Int32} {u : Option ρ} {ws' : va_W} (hlink : Cond.methodLink own index arraycopyName ∈ Ts) (hnat : Cond.native arraycopyName ∈ Ts) (hstat : Cond.static arraycopyName ∈ Ts) (hini : Cond.initialized "java/lang/System" ∈ Ts) (q0 q1 t0 t1 : Nat) (ha0 : ws[q0]? = some (a0, .inl (c0, n0, .inl f))) (ha1 : ws[q1]? = some (a, .inl (c1, n1, .inl g))) (ht0 : tys[t0]? = some (c0, .int)) (ht1 : tys[t1]? = some (c1, .int)) (h : (if sp < 0 ∨ dp < 0 ∨ n < 0 ∨ n0 < sp.toNatClampNeg + n.toNatClampNeg ∨ n1 < dp.toNatClampNeg + n.toNatClampNeg then none else u) = some r) (hframes : 1 ≤ R.frames) (hlocals : (st.map fun v => v.category).sum + (nativeFrameWords "java/lang/System" "arraycopy" 5 + 11) ≤ R.locals) (hdg : decode cc pc = .ok (.invokestatic index, 3)) (hw : ws.set q1 (a, .inl (c1, n1, .inl (va_cpy f g sp.toNatClampNeg dp.toNatClampNeg n.toNatClampNeg))) = ws')
    (k : u = some r → X_ p l e R s m args below meth c Q D cl A nL cells slots ws' lv (pc + 3) st) : X_ p l e R s m args below meth c Q D cl A nL cells slots ws lv pc (.int n :: .int dp :: .ref a :: .int sp :: .ref a0 :: st) := fun H locs ls hP hD hS hl => va_copyi S.1 S.2.1 (S.2.2.1.trans hl.1.symm) S.2.2.2.1 (S.2.2.2.2 _ hlink) (S.2.2.2.2 _ hnat) (S.2.2.2.2 _ hstat) (S.2.2.2.2 _ hini) hK.1 hP hD hS q0 q1 t0 t1 ha0 ha1 ht0 ht1 rfl (fun z => (gd _ h).1 (Or.inl z)) (fun z => (gd _ h).1 (Or.inr (Or.inl z))) (fun z => (gd _ h).1 (Or.inr (Or.inr (Or.inl z)))) (Nat.not_lt.mp (fun z => (gd _ h).1 (Or.inr (Or.inr (Or.inr (Or.inl z)))))) (Nat.not_lt.mp (fun z => (gd _ h).1 (Or.inr (Or.inr (Or.inr (Or.inr z)))))) (fun _ _ => rfl) hframes hlocals hdg (fun H1 locs1 hP hD hS => by subst hw; exact k (gd _ h).2 H1 locs1 ls hP hD hS hl)
theorem cPre_blind {av : List Value} {wc : va_W} {sz : Nat} : FrameBlind (cPre D cl tys av wc sz) := fun a U g mk q => by
  obtain ⟨q0, q1, qP, qK, qD⟩ := q
  exact ⟨q0, q1, qP, K_.same (u := U) (U := U.calling g mk a) rfl qK, qD⟩
theorem cPre_at (hK : K_ D cl tys s) {av : List Value} {wc : va_W} {H : Heap} (hP : va_P D cl wc H) (hD : va_D A wc) : ∀ U : State, U.heap = H → s.WarmedH U.vm → cPre D cl tys av wc H.size av.toArray U := fun U hU hW => ⟨rfl, by rw [hU], by rw [hU]; exact hP, hK.warm hW, hD.weaken (fun _ _ _ _ => trivial)⟩
theorem x_callVi (S : CallFix p m c cc nL s args Ts own) (hK : K_ D cl tys s) (hA : ∀ q, s.heap.size ≤ q → A q) {y : MethodName} {bytes : ByteArray} {maxL mc ms n index : Nat} {ret : Option FieldType} {wsy : List Cond} {rm : Room} {wc : va_W} {Wp : va_W → Prop} {C : String} {b : Nat} {As st0 : List Value} {rv : Int32} {T : u_T} {N : Nat} {fs : List Value} (hC : Ci l y wsy rm D cl tys (.ref b :: As) wc rv Wp mc ms) (cw : CallW R s args own C index y bytes maxL ret wsy rm mc ms n) (isC isR : List Nat) (hCw : isC.map (fun i => ws[i]?) = wc.map some) (hnC : va_nd isC = true) (hRw : isR.map (fun i => ws[i]?) = (isR.filterMap (fun i => ws[i]?)).map some) (hnR : va_nd isR = true) (hdis : ∀ i ∈ isR, i ∉ isC) (q0 ci : Nat) (hc : cl[ci]? = some (C, T, N)) (he : wc[q0]? = some (b, .inr (ci, fs))) (hn : As.length = n) (hrm : (st.map fun v => v.category).sum ≤ 8) (hst : st0 = As.reverse ++ .ref b :: st) (hdg : decode cc pc = .ok (.invokevirtual index, 3)) (hf : cells + mc ≤ R.cells ∧ slots + ms ≤ R.slots)
    (k : ∀ w1, Wp w1 → X_ p l e R s m args below meth c Q D cl A nL (cells + mc) (slots + ms) (isR.filterMap (fun i => ws[i]?) ++ w1) lv (pc + 3) (.int rv :: st)) : X_ p l e R s m args below meth c Q D cl A nL cells slots ws lv pc st0 := by
  intro H locs ls hP hD hS hl
  subst hst
  have hPc := hP.sub isC (x_fm hCw)
  have hDc := hD.sub isC hnC hCw
  have hFc := va_free (wc := wc) hD hS hA isC hCw
  refine va_calli (va_runV (As := As) (rest := st) S (hC H.size) cw ⟨cPre_blind, va_recv hK.1 hPc (ci := ci) (q0 := q0) hc he, cPre_at hK hPc hDc⟩ rfl hn hl.1 rfl (lv_room hrm) hdg hf) hS (fun q _ h => hFc q h) hFc (fun rq u t H1 locs1 ht hvm hrq hB hz1 hk1 hS => ?_)
  obtain ⟨w1, hw1, hP1, hD1⟩ := hB
  rw [ht] at hP1
  subst hrq
  obtain ⟨hP, hD⟩ := va_join (wr := isR.filterMap (fun i => ws[i]?)) (w1 := w1) hP hD isC isR hCw hRw hnR hdis hk1 hFc hP1 hD1
  exact k w1 hw1 H1 locs1 ls hP hD hS hl
theorem x_callUi (S : CallFix p m c cc nL s args Ts own) (hK : K_ D cl tys s) (hA : ∀ q, s.heap.size ≤ q → A q) {y : MethodName} {bytes : ByteArray} {maxL mc ms n index : Nat} {ret : Option FieldType} {wsy : List Cond} {rm : Room} {wc : va_W} {Wp : va_W → Prop} {x : MethodName} {C owner : String} {b : Nat} {As st0 : List Value} {rv : Int32} {T : u_T} {N : Nat} {fs : List Value} (hC : Ci l y wsy rm D cl tys (.ref b :: As) wc rv Wp mc ms) (cw : va_CU R s args own C owner index x y bytes maxL ret wsy rm mc ms n) (isC isR : List Nat) (hCw : isC.map (fun i => ws[i]?) = wc.map some) (hnC : va_nd isC = true) (hRw : isR.map (fun i => ws[i]?) = (isR.filterMap (fun i => ws[i]?)).map some) (hnR : va_nd isR = true) (hdis : ∀ i ∈ isR, i ∉ isC) (q0 ci : Nat) (hc : cl[ci]? = some (C, T, N)) (he : wc[q0]? = some (b, .inr (ci, fs))) (hn : As.length = n) (hrm : (st.map fun v => v.category).sum ≤ 8) (hst : st0 = As.reverse ++ .ref b :: st) (hdg : decode cc pc = .ok (.invokevirtual index, 3)) (hf : cells + mc ≤ R.cells ∧ slots + ms ≤ R.slots)
    (k : ∀ w1, Wp w1 → X_ p l e R s m args below meth c Q D cl A nL (cells + mc) (slots + ms) (isR.filterMap (fun i => ws[i]?) ++ w1) lv (pc + 3) (.int rv :: st)) : X_ p l e R s m args below meth c Q D cl A nL cells slots ws lv pc st0 := by
  intro H locs ls hP hD hS hl
  subst hst
  have hPc := hP.sub isC (x_fm hCw)
  have hDc := hD.sub isC hnC hCw
  have hFc := va_free (wc := wc) hD hS hA isC hCw
  refine va_calli (va_runU (As := As) (rest := st) S (hC H.size) cw ⟨cPre_blind, va_recv hK.1 hPc (ci := ci) (q0 := q0) hc he, cPre_at hK hPc hDc⟩ rfl hn hl.1 rfl (lv_room hrm) hdg hf) hS (fun q _ h => hFc q h) hFc (fun rq u t H1 locs1 ht hvm hrq hB hz1 hk1 hS => ?_)
  obtain ⟨w1, hw1, hP1, hD1⟩ := hB
  rw [ht] at hP1
  subst hrq
  obtain ⟨hP, hD⟩ := va_join (wr := isR.filterMap (fun i => ws[i]?)) (w1 := w1) hP hD isC isR hCw hRw hnR hdis hk1 hFc hP1 hD1
  exact k w1 hw1 H1 locs1 ls hP hD hS hl
theorem x_callSi (S : CallFix p m c cc nL s args Ts own) (hK : K_ D cl tys s) (hA : ∀ q, s.heap.size ≤ q → A q) {y : MethodName} {bytes : ByteArray} {maxL mc ms n index : Nat} {ret : Option FieldType} {wsy : List Cond} {rm : Room} {wc : va_W} {Wp : va_W → Prop} {As st0 : List Value} {rv : Int32} (hC : Ci l y wsy rm D cl tys As wc rv Wp mc ms) (cw : CallB R s args own index y bytes maxL ret wsy rm mc ms n ∧ (Cond.static y).before args s = true) (isC isR : List Nat) (hCw : isC.map (fun i => ws[i]?) = wc.map some) (hnC : va_nd isC = true) (hRw : isR.map (fun i => ws[i]?) = (isR.filterMap (fun i => ws[i]?)).map some) (hnR : va_nd isR = true) (hdis : ∀ i ∈ isR, i ∉ isC) (hn : As.length = n) (hrm : (st.map fun v => v.category).sum ≤ 8) (hst : st0 = As.reverse ++ st) (hdg : decode cc pc = .ok (.invokestatic index, 3)) (hf : cells + mc ≤ R.cells ∧ slots + ms ≤ R.slots)
    (k : ∀ w1, Wp w1 → X_ p l e R s m args below meth c Q D cl A nL (cells + mc) (slots + ms) (isR.filterMap (fun i => ws[i]?) ++ w1) lv (pc + 3) (.int rv :: st)) : X_ p l e R s m args below meth c Q D cl A nL cells slots ws lv pc st0 := by
  intro H locs ls hP hD hS hl
  subst hst
  have hPc := hP.sub isC (x_fm hCw)
  have hDc := hD.sub isC hnC hCw
  have hFc := va_free (wc := wc) hD hS hA isC hCw
  refine va_calli (va_runS (As := As) (rest := st) S (hC H.size) cw ⟨cPre_blind, cPre_at hK hPc hDc⟩ rfl hn hl.1 rfl (lv_room hrm) hdg hf) hS (fun q _ h => hFc q h) hFc (fun rq u t H1 locs1 ht hvm hrq hB hz1 hk1 hS => ?_)
  obtain ⟨w1, hw1, hP1, hD1⟩ := hB
  rw [ht] at hP1
  subst hrq
  obtain ⟨hP, hD⟩ := va_join (wr := isR.filterMap (fun i => ws[i]?)) (w1 := w1) hP hD isC isR hCw hRw hnR hdis hk1 hFc hP1 hD1
  exact k w1 hw1 H1 locs1 ls hP hD hS hl
theorem x_callVl (S : CallFix p m c cc nL s args Ts own) (hK : K_ D cl tys s) (hA : ∀ q, s.heap.size ≤ q → A q) {y : MethodName} {bytes : ByteArray} {maxL mc ms n index : Nat} {ret : Option FieldType} {wsy : List Cond} {rm : Room} {wc : va_W} {Wp : va_W → Prop} {C : String} {b : Nat} {As st0 : List Value} {rv : Int64} {T : u_T} {N : Nat} {fs : List Value} (hC : Cl l y wsy rm D cl tys (.ref b :: As) wc rv Wp mc ms) (cw : CallW R s args own C index y bytes maxL ret wsy rm mc ms n) (isC isR : List Nat) (hCw : isC.map (fun i => ws[i]?) = wc.map some) (hnC : va_nd isC = true) (hRw : isR.map (fun i => ws[i]?) = (isR.filterMap (fun i => ws[i]?)).map some) (hnR : va_nd isR = true) (hdis : ∀ i ∈ isR, i ∉ isC) (q0 ci : Nat) (hc : cl[ci]? = some (C, T, N)) (he : wc[q0]? = some (b, .inr (ci, fs))) (hn : As.length = n) (hrm : (st.map fun v => v.category).sum ≤ 8) (hst : st0 = As.reverse ++ .ref b :: st) (hdg : decode cc pc = .ok (.invokevirtual index, 3)) (hf : cells + mc ≤ R.cells ∧ slots + ms ≤ R.slots)
    (k : ∀ w1, Wp w1 → X_ p l e R s m args below meth c Q D cl A nL (cells + mc) (slots + ms) (isR.filterMap (fun i => ws[i]?) ++ w1) lv (pc + 3) (.long rv :: st)) : X_ p l e R s m args below meth c Q D cl A nL cells slots ws lv pc st0 := by
  intro H locs ls hP hD hS hl
  subst hst
  have hPc := hP.sub isC (x_fm hCw)
  have hDc := hD.sub isC hnC hCw
  have hFc := va_free (wc := wc) hD hS hA isC hCw
  refine va_calll (va_runV (As := As) (rest := st) S (hC H.size) cw ⟨cPre_blind, va_recv hK.1 hPc (ci := ci) (q0 := q0) hc he, cPre_at hK hPc hDc⟩ rfl hn hl.1 rfl (lv_room hrm) hdg hf) hS (fun q _ h => hFc q h) hFc (fun rq u t H1 locs1 ht hvm hrq hB hz1 hk1 hS => ?_)
  obtain ⟨w1, hw1, hP1, hD1⟩ := hB
  rw [ht] at hP1
  subst hrq
  obtain ⟨hP, hD⟩ := va_join (wr := isR.filterMap (fun i => ws[i]?)) (w1 := w1) hP hD isC isR hCw hRw hnR hdis hk1 hFc hP1 hD1
  exact k w1 hw1 H1 locs1 ls hP hD hS hl
theorem x_callUl (S : CallFix p m c cc nL s args Ts own) (hK : K_ D cl tys s) (hA : ∀ q, s.heap.size ≤ q → A q) {y : MethodName} {bytes : ByteArray} {maxL mc ms n index : Nat} {ret : Option FieldType} {wsy : List Cond} {rm : Room} {wc : va_W} {Wp : va_W → Prop} {x : MethodName} {C owner : String} {b : Nat} {As st0 : List Value} {rv : Int64} {T : u_T} {N : Nat} {fs : List Value} (hC : Cl l y wsy rm D cl tys (.ref b :: As) wc rv Wp mc ms) (cw : va_CU R s args own C owner index x y bytes maxL ret wsy rm mc ms n) (isC isR : List Nat) (hCw : isC.map (fun i => ws[i]?) = wc.map some) (hnC : va_nd isC = true) (hRw : isR.map (fun i => ws[i]?) = (isR.filterMap (fun i => ws[i]?)).map some) (hnR : va_nd isR = true) (hdis : ∀ i ∈ isR, i ∉ isC) (q0 ci : Nat) (hc : cl[ci]? = some (C, T, N)) (he : wc[q0]? = some (b, .inr (ci, fs))) (hn : As.length = n) (hrm : (st.map fun v => v.category).sum ≤ 8) (hst : st0 = As.reverse ++ .ref b :: st) (hdg : decode cc pc = .ok (.invokevirtual index, 3)) (hf : cells + mc ≤ R.cells ∧ slots + ms ≤ R.slots)
    (k : ∀ w1, Wp w1 → X_ p l e R s m args below meth c Q D cl A nL (cells + mc) (slots + ms) (isR.filterMap (fun i => ws[i]?) ++ w1) lv (pc + 3) (.long rv :: st)) : X_ p l e R s m args below meth c Q D cl A nL cells slots ws lv pc st0 := by
  intro H locs ls hP hD hS hl
  subst hst
  have hPc := hP.sub isC (x_fm hCw)
  have hDc := hD.sub isC hnC hCw
  have hFc := va_free (wc := wc) hD hS hA isC hCw
  refine va_calll (va_runU (As := As) (rest := st) S (hC H.size) cw ⟨cPre_blind, va_recv hK.1 hPc (ci := ci) (q0 := q0) hc he, cPre_at hK hPc hDc⟩ rfl hn hl.1 rfl (lv_room hrm) hdg hf) hS (fun q _ h => hFc q h) hFc (fun rq u t H1 locs1 ht hvm hrq hB hz1 hk1 hS => ?_)
  obtain ⟨w1, hw1, hP1, hD1⟩ := hB
  rw [ht] at hP1
  subst hrq
  obtain ⟨hP, hD⟩ := va_join (wr := isR.filterMap (fun i => ws[i]?)) (w1 := w1) hP hD isC isR hCw hRw hnR hdis hk1 hFc hP1 hD1
  exact k w1 hw1 H1 locs1 ls hP hD hS hl
theorem x_callSl (S : CallFix p m c cc nL s args Ts own) (hK : K_ D cl tys s) (hA : ∀ q, s.heap.size ≤ q → A q) {y : MethodName} {bytes : ByteArray} {maxL mc ms n index : Nat} {ret : Option FieldType} {wsy : List Cond} {rm : Room} {wc : va_W} {Wp : va_W → Prop} {As st0 : List Value} {rv : Int64} (hC : Cl l y wsy rm D cl tys As wc rv Wp mc ms) (cw : CallB R s args own index y bytes maxL ret wsy rm mc ms n ∧ (Cond.static y).before args s = true) (isC isR : List Nat) (hCw : isC.map (fun i => ws[i]?) = wc.map some) (hnC : va_nd isC = true) (hRw : isR.map (fun i => ws[i]?) = (isR.filterMap (fun i => ws[i]?)).map some) (hnR : va_nd isR = true) (hdis : ∀ i ∈ isR, i ∉ isC) (hn : As.length = n) (hrm : (st.map fun v => v.category).sum ≤ 8) (hst : st0 = As.reverse ++ st) (hdg : decode cc pc = .ok (.invokestatic index, 3)) (hf : cells + mc ≤ R.cells ∧ slots + ms ≤ R.slots)
    (k : ∀ w1, Wp w1 → X_ p l e R s m args below meth c Q D cl A nL (cells + mc) (slots + ms) (isR.filterMap (fun i => ws[i]?) ++ w1) lv (pc + 3) (.long rv :: st)) : X_ p l e R s m args below meth c Q D cl A nL cells slots ws lv pc st0 := by
  intro H locs ls hP hD hS hl
  subst hst
  have hPc := hP.sub isC (x_fm hCw)
  have hDc := hD.sub isC hnC hCw
  have hFc := va_free (wc := wc) hD hS hA isC hCw
  refine va_calll (va_runS (As := As) (rest := st) S (hC H.size) cw ⟨cPre_blind, cPre_at hK hPc hDc⟩ rfl hn hl.1 rfl (lv_room hrm) hdg hf) hS (fun q _ h => hFc q h) hFc (fun rq u t H1 locs1 ht hvm hrq hB hz1 hk1 hS => ?_)
  obtain ⟨w1, hw1, hP1, hD1⟩ := hB
  rw [ht] at hP1
  subst hrq
  obtain ⟨hP, hD⟩ := va_join (wr := isR.filterMap (fun i => ws[i]?)) (w1 := w1) hP hD isC isR hCw hRw hnR hdis hk1 hFc hP1 hD1
  exact k w1 hw1 H1 locs1 ls hP hD hS hl
theorem x_callVv (S : CallFix p m c cc nL s args Ts own) (hK : K_ D cl tys s) (hA : ∀ q, s.heap.size ≤ q → A q) {y : MethodName} {bytes : ByteArray} {maxL mc ms n index : Nat} {ret : Option FieldType} {wsy : List Cond} {rm : Room} {wc : va_W} {Wp : va_W → Prop} {C : String} {b : Nat} {As st0 : List Value} {T : u_T} {N : Nat} {fs : List Value} (hC : Cv l y wsy rm D cl tys (.ref b :: As) wc Wp mc ms) (cw : CallW R s args own C index y bytes maxL ret wsy rm mc ms n) (isC isR : List Nat) (hCw : isC.map (fun i => ws[i]?) = wc.map some) (hnC : va_nd isC = true) (hRw : isR.map (fun i => ws[i]?) = (isR.filterMap (fun i => ws[i]?)).map some) (hnR : va_nd isR = true) (hdis : ∀ i ∈ isR, i ∉ isC) (q0 ci : Nat) (hc : cl[ci]? = some (C, T, N)) (he : wc[q0]? = some (b, .inr (ci, fs))) (hn : As.length = n) (hrm : (st.map fun v => v.category).sum ≤ 8) (hst : st0 = As.reverse ++ .ref b :: st) (hdg : decode cc pc = .ok (.invokevirtual index, 3)) (hf : cells + mc ≤ R.cells ∧ slots + ms ≤ R.slots)
    (k : ∀ w1, Wp w1 → X_ p l e R s m args below meth c Q D cl A nL (cells + mc) (slots + ms) (isR.filterMap (fun i => ws[i]?) ++ w1) lv (pc + 3) (st)) : X_ p l e R s m args below meth c Q D cl A nL cells slots ws lv pc st0 := by
  intro H locs ls hP hD hS hl
  subst hst
  have hPc := hP.sub isC (x_fm hCw)
  have hDc := hD.sub isC hnC hCw
  have hFc := va_free (wc := wc) hD hS hA isC hCw
  refine va_callv (va_runV (As := As) (rest := st) S (hC H.size) cw ⟨cPre_blind, va_recv hK.1 hPc (ci := ci) (q0 := q0) hc he, cPre_at hK hPc hDc⟩ rfl hn hl.1 rfl (lv_room hrm) hdg hf) hS (fun q _ h => hFc q h) hFc (fun u t H1 locs1 ht hvm hrq hB hz1 hk1 hS => ?_)
  obtain ⟨w1, hw1, hP1, hD1⟩ := hB
  rw [ht] at hP1
  obtain ⟨hP, hD⟩ := va_join (wr := isR.filterMap (fun i => ws[i]?)) (w1 := w1) hP hD isC isR hCw hRw hnR hdis hk1 hFc hP1 hD1
  exact k w1 hw1 H1 locs1 ls hP hD hS hl
theorem x_callUv (S : CallFix p m c cc nL s args Ts own) (hK : K_ D cl tys s) (hA : ∀ q, s.heap.size ≤ q → A q) {y : MethodName} {bytes : ByteArray} {maxL mc ms n index : Nat} {ret : Option FieldType} {wsy : List Cond} {rm : Room} {wc : va_W} {Wp : va_W → Prop} {x : MethodName} {C owner : String} {b : Nat} {As st0 : List Value} {T : u_T} {N : Nat} {fs : List Value} (hC : Cv l y wsy rm D cl tys (.ref b :: As) wc Wp mc ms) (cw : va_CU R s args own C owner index x y bytes maxL ret wsy rm mc ms n) (isC isR : List Nat) (hCw : isC.map (fun i => ws[i]?) = wc.map some) (hnC : va_nd isC = true) (hRw : isR.map (fun i => ws[i]?) = (isR.filterMap (fun i => ws[i]?)).map some) (hnR : va_nd isR = true) (hdis : ∀ i ∈ isR, i ∉ isC) (q0 ci : Nat) (hc : cl[ci]? = some (C, T, N)) (he : wc[q0]? = some (b, .inr (ci, fs))) (hn : As.length = n) (hrm : (st.map fun v => v.category).sum ≤ 8) (hst : st0 = As.reverse ++ .ref b :: st) (hdg : decode cc pc = .ok (.invokevirtual index, 3)) (hf : cells + mc ≤ R.cells ∧ slots + ms ≤ R.slots)
    (k : ∀ w1, Wp w1 → X_ p l e R s m args below meth c Q D cl A nL (cells + mc) (slots + ms) (isR.filterMap (fun i => ws[i]?) ++ w1) lv (pc + 3) (st)) : X_ p l e R s m args below meth c Q D cl A nL cells slots ws lv pc st0 := by
  intro H locs ls hP hD hS hl
  subst hst
  have hPc := hP.sub isC (x_fm hCw)
  have hDc := hD.sub isC hnC hCw
  have hFc := va_free (wc := wc) hD hS hA isC hCw
  refine va_callv (va_runU (As := As) (rest := st) S (hC H.size) cw ⟨cPre_blind, va_recv hK.1 hPc (ci := ci) (q0 := q0) hc he, cPre_at hK hPc hDc⟩ rfl hn hl.1 rfl (lv_room hrm) hdg hf) hS (fun q _ h => hFc q h) hFc (fun u t H1 locs1 ht hvm hrq hB hz1 hk1 hS => ?_)
  obtain ⟨w1, hw1, hP1, hD1⟩ := hB
  rw [ht] at hP1
  obtain ⟨hP, hD⟩ := va_join (wr := isR.filterMap (fun i => ws[i]?)) (w1 := w1) hP hD isC isR hCw hRw hnR hdis hk1 hFc hP1 hD1
  exact k w1 hw1 H1 locs1 ls hP hD hS hl
theorem x_callSv (S : CallFix p m c cc nL s args Ts own) (hK : K_ D cl tys s) (hA : ∀ q, s.heap.size ≤ q → A q) {y : MethodName} {bytes : ByteArray} {maxL mc ms n index : Nat} {ret : Option FieldType} {wsy : List Cond} {rm : Room} {wc : va_W} {Wp : va_W → Prop} {As st0 : List Value} (hC : Cv l y wsy rm D cl tys As wc Wp mc ms) (cw : CallB R s args own index y bytes maxL ret wsy rm mc ms n ∧ (Cond.static y).before args s = true) (isC isR : List Nat) (hCw : isC.map (fun i => ws[i]?) = wc.map some) (hnC : va_nd isC = true) (hRw : isR.map (fun i => ws[i]?) = (isR.filterMap (fun i => ws[i]?)).map some) (hnR : va_nd isR = true) (hdis : ∀ i ∈ isR, i ∉ isC) (hn : As.length = n) (hrm : (st.map fun v => v.category).sum ≤ 8) (hst : st0 = As.reverse ++ st) (hdg : decode cc pc = .ok (.invokestatic index, 3)) (hf : cells + mc ≤ R.cells ∧ slots + ms ≤ R.slots)
    (k : ∀ w1, Wp w1 → X_ p l e R s m args below meth c Q D cl A nL (cells + mc) (slots + ms) (isR.filterMap (fun i => ws[i]?) ++ w1) lv (pc + 3) (st)) : X_ p l e R s m args below meth c Q D cl A nL cells slots ws lv pc st0 := by
  intro H locs ls hP hD hS hl
  subst hst
  have hPc := hP.sub isC (x_fm hCw)
  have hDc := hD.sub isC hnC hCw
  have hFc := va_free (wc := wc) hD hS hA isC hCw
  refine va_callv (va_runS (As := As) (rest := st) S (hC H.size) cw ⟨cPre_blind, cPre_at hK hPc hDc⟩ rfl hn hl.1 rfl (lv_room hrm) hdg hf) hS (fun q _ h => hFc q h) hFc (fun u t H1 locs1 ht hvm hrq hB hz1 hk1 hS => ?_)
  obtain ⟨w1, hw1, hP1, hD1⟩ := hB
  rw [ht] at hP1
  obtain ⟨hP, hD⟩ := va_join (wr := isR.filterMap (fun i => ws[i]?)) (w1 := w1) hP hD isC isR hCw hRw hnR hdis hk1 hFc hP1 hD1
  exact k w1 hw1 H1 locs1 ls hP hD hS hl
theorem x_callI (S : CallFix p m c cc nL s args Ts own) (hK : K_ D cl tys s) (hA : ∀ q, s.heap.size ≤ q → A q) {y : MethodName} {bytes : ByteArray} {maxL mc ms n index : Nat} {wsy : List Cond} {rm : Room} {wc : va_W} {Wp : va_W → Prop} {b : Nat} {As st0 : List Value} (hC : Cv l y wsy rm D cl tys (.ref b :: As) wc Wp mc ms) (cw : CallB R s args own index y bytes maxL none wsy rm mc ms n ∧ y.name = "<init>" ∧ (Cond.instanceMethod y).before args s = true) (isC isR : List Nat) (hCw : isC.map (fun i => ws[i]?) = wc.map some) (hnC : va_nd isC = true) (hRw : isR.map (fun i => ws[i]?) = (isR.filterMap (fun i => ws[i]?)).map some) (hnR : va_nd isR = true) (hdis : ∀ i ∈ isR, i ∉ isC) (hn : As.length = n) (hrm : (st.map fun v => v.category).sum ≤ 8) (hst : st0 = As.reverse ++ .ref b :: st) (hdg : decode cc pc = .ok (.invokespecial index, 3)) (hf : cells + mc ≤ R.cells ∧ slots + ms ≤ R.slots)
    (k : ∀ w1, Wp w1 → X_ p l e R s m args below meth c Q D cl A nL (cells + mc) (slots + ms) (isR.filterMap (fun i => ws[i]?) ++ w1) lv (pc + 3) (st)) : X_ p l e R s m args below meth c Q D cl A nL cells slots ws lv pc st0 := by
  intro H locs ls hP hD hS hl
  subst hst
  have hPc := hP.sub isC (x_fm hCw)
  have hDc := hD.sub isC hnC hCw
  have hFc := va_free (wc := wc) hD hS hA isC hCw
  refine va_callv (va_runI (As := As) (rest := st) S (hC H.size) cw ⟨cPre_blind, cPre_at hK hPc hDc⟩ rfl hn hl.1 rfl (lv_room hrm) hdg hf) hS (fun q _ h => hFc q h) hFc (fun u t H1 locs1 ht hvm hrq hB hz1 hk1 hS => ?_)
  obtain ⟨w1, hw1, hP1, hD1⟩ := hB
  rw [ht] at hP1
  obtain ⟨hP, hD⟩ := va_join (wr := isR.filterMap (fun i => ws[i]?)) (w1 := w1) hP hD isC isR hCw hRw hnR hdis hk1 hFc hP1 hD1
  exact k w1 hw1 H1 locs1 ls hP hD hS hl
end XR
set_option maxHeartbeats 1000000 in
theorem Ci.ofi {l : Launch} {y : MethodName} {cc : ByteArray} {maxL : Nat} {wsy ws' : List Cond} {rm : Room} {D : va_G} {cl : List vw_C} {tys : List (ClassId × FieldType)} {av : List Value} {wc : va_W} {rv : Int32} {Wp : va_W → Prop} {mc ms : Nat} (hy : plainName y.cls = true) (hw : wsy = Cond.code y cc maxL (some .int) :: ws') (hav : (lg_sl av).length ≤ maxL)
    (body : ∀ (p : Program) (e : Env) (s : State) (m : MethodId) (args : Array Value) (below : List Frame) (meth : Method) (c : Code) (Q : State → Prop) (A : Nat → Prop), CallFix p m c cc maxL s args wsy y.cls → K_ D cl tys s → (∀ q, s.heap.size ≤ q → A q) → meth.name = y.name → (∀ (w1 : va_W) (pc : Nat) (lv : List (Nat × Value)), Wp w1 → decode cc pc = .ok (.ireturn, 1) → X_ p l e rm s m args below meth c Q D cl A maxL mc ms w1 lv pc [.int rv]) → X_ p l e rm s m args below meth c Q D cl A maxL 0 0 wc (lv_args 0 av) 0 []) : Ci l y wsy rm D cl tys av wc rv Wp mc ms := by
  intro sz
  refine Met.ofW (cc := cc) (maxL := maxL) (ret := (some .int)) hy hw ?_
  intro p e s m args below meth c s₁ B hml hv
  obtain ⟨rfl, hsz, hP, hK, hD0⟩ := hv
  have hx := B.exec
  have hb := B.bytes
  have hr := B.returns
  have hts := atoms_spec (ws := wsy) B.pre
  have hown : s.vm.findClass y.cls = some m.cls := findClass_of_methodNamed B.named
  have hlocks := B.notSynchronized
  have hin : meth.name = y.name := (name_of_methodNamed B.named B.method).1
  subst hsz
  have hD := hD0.self (sz := s.heap.size)
  have hA : ∀ q : Nat, s.heap.size ≤ q → va_A wc s.heap.size q := fun q h => Or.inr h
  have hS : va_S (va_A wc s.heap.size) s.heap s.heap [] := va_S.rf
  have hl := lv_entry av (n := maxL) hav
  rw [lg_entry_eq]
  exact body p e s m _ below meth c _ _ ⟨hx, hb, hml, hown, hts⟩ hK hA hin (fun w1 pc lv hw1 hd H locs ls hP1 hD1 hS1 hl1 => W.iret (v := rv) hx hb hr (fun t ht hW => ⟨⟨rv, (), rfl, rfl, w1, hw1, by rw [ht]; exact hP1, hD1⟩, hS1.F ht⟩) hS1.2.2 hd) s.heap [] _ hP hD hS hl
set_option maxHeartbeats 1000000 in
theorem Ci.ofz {l : Launch} {y : MethodName} {cc : ByteArray} {maxL : Nat} {wsy ws' : List Cond} {rm : Room} {D : va_G} {cl : List vw_C} {tys : List (ClassId × FieldType)} {av : List Value} {wc : va_W} {rv : Int32} {Wp : va_W → Prop} {mc ms : Nat} (hy : plainName y.cls = true) (hw : wsy = Cond.code y cc maxL (some .boolean) :: ws') (hav : (lg_sl av).length ≤ maxL)
    (body : ∀ (p : Program) (e : Env) (s : State) (m : MethodId) (args : Array Value) (below : List Frame) (meth : Method) (c : Code) (Q : State → Prop) (A : Nat → Prop), CallFix p m c cc maxL s args wsy y.cls → K_ D cl tys s → (∀ q, s.heap.size ≤ q → A q) → meth.name = y.name → (∀ (w1 : va_W) (pc : Nat) (lv : List (Nat × Value)), Wp w1 → narrow .boolean (.int rv) = .int rv → decode cc pc = .ok (.ireturn, 1) → X_ p l e rm s m args below meth c Q D cl A maxL mc ms w1 lv pc [.int rv]) → X_ p l e rm s m args below meth c Q D cl A maxL 0 0 wc (lv_args 0 av) 0 []) : Ci l y wsy rm D cl tys av wc rv Wp mc ms := by
  intro sz
  refine Met.ofW (cc := cc) (maxL := maxL) (ret := (some .boolean)) hy hw ?_
  intro p e s m args below meth c s₁ B hml hv
  obtain ⟨rfl, hsz, hP, hK, hD0⟩ := hv
  have hx := B.exec
  have hb := B.bytes
  have hr := B.returns
  have hts := atoms_spec (ws := wsy) B.pre
  have hown : s.vm.findClass y.cls = some m.cls := findClass_of_methodNamed B.named
  have hlocks := B.notSynchronized
  have hin : meth.name = y.name := (name_of_methodNamed B.named B.method).1
  subst hsz
  have hD := hD0.self (sz := s.heap.size)
  have hA : ∀ q : Nat, s.heap.size ≤ q → va_A wc s.heap.size q := fun q h => Or.inr h
  have hS : va_S (va_A wc s.heap.size) s.heap s.heap [] := va_S.rf
  have hl := lv_entry av (n := maxL) hav
  rw [lg_entry_eq]
  exact body p e s m _ below meth c _ _ ⟨hx, hb, hml, hown, hts⟩ hK hA hin (fun w1 pc lv hw1 hz hd H locs ls hP1 hD1 hS1 hl1 => W.zret (v := rv) hx hb hr hz (fun t ht hW => ⟨⟨rv, (), rfl, rfl, w1, hw1, by rw [ht]; exact hP1, hD1⟩, hS1.F ht⟩) hS1.2.2 hd) s.heap [] _ hP hD hS hl
set_option maxHeartbeats 1000000 in
theorem Cl.ofl {l : Launch} {y : MethodName} {cc : ByteArray} {maxL : Nat} {wsy ws' : List Cond} {rm : Room} {D : va_G} {cl : List vw_C} {tys : List (ClassId × FieldType)} {av : List Value} {wc : va_W} {rv : Int64} {Wp : va_W → Prop} {mc ms : Nat} (hy : plainName y.cls = true) (hw : wsy = Cond.code y cc maxL (some .long) :: ws') (hav : (lg_sl av).length ≤ maxL)
    (body : ∀ (p : Program) (e : Env) (s : State) (m : MethodId) (args : Array Value) (below : List Frame) (meth : Method) (c : Code) (Q : State → Prop) (A : Nat → Prop), CallFix p m c cc maxL s args wsy y.cls → K_ D cl tys s → (∀ q, s.heap.size ≤ q → A q) → meth.name = y.name → (∀ (w1 : va_W) (pc : Nat) (lv : List (Nat × Value)), Wp w1 → decode cc pc = .ok (.lreturn, 1) → X_ p l e rm s m args below meth c Q D cl A maxL mc ms w1 lv pc [.long rv]) → X_ p l e rm s m args below meth c Q D cl A maxL 0 0 wc (lv_args 0 av) 0 []) : Cl l y wsy rm D cl tys av wc rv Wp mc ms := by
  intro sz
  refine Met.ofW (cc := cc) (maxL := maxL) (ret := (some .long)) hy hw ?_
  intro p e s m args below meth c s₁ B hml hv
  obtain ⟨rfl, hsz, hP, hK, hD0⟩ := hv
  have hx := B.exec
  have hb := B.bytes
  have hr := B.returns
  have hts := atoms_spec (ws := wsy) B.pre
  have hown : s.vm.findClass y.cls = some m.cls := findClass_of_methodNamed B.named
  have hlocks := B.notSynchronized
  have hin : meth.name = y.name := (name_of_methodNamed B.named B.method).1
  subst hsz
  have hD := hD0.self (sz := s.heap.size)
  have hA : ∀ q : Nat, s.heap.size ≤ q → va_A wc s.heap.size q := fun q h => Or.inr h
  have hS : va_S (va_A wc s.heap.size) s.heap s.heap [] := va_S.rf
  have hl := lv_entry av (n := maxL) hav
  rw [lg_entry_eq]
  exact body p e s m _ below meth c _ _ ⟨hx, hb, hml, hown, hts⟩ hK hA hin (fun w1 pc lv hw1 hd H locs ls hP1 hD1 hS1 hl1 => W.lret (v := rv) hx hb hr (fun t ht hW => ⟨⟨rv, (), rfl, rfl, w1, hw1, by rw [ht]; exact hP1, hD1⟩, hS1.F ht⟩) hS1.2.2 hd) s.heap [] _ hP hD hS hl
set_option maxHeartbeats 1000000 in
theorem Cv.ofv {l : Launch} {y : MethodName} {cc : ByteArray} {maxL : Nat} {wsy ws' : List Cond} {rm : Room} {D : va_G} {cl : List vw_C} {tys : List (ClassId × FieldType)} {av : List Value} {wc : va_W} {Wp : va_W → Prop} {mc ms : Nat} (hy : plainName y.cls = true) (hw : wsy = Cond.code y cc maxL none :: ws') (hav : (lg_sl av).length ≤ maxL)
    (body : ∀ (p : Program) (e : Env) (s : State) (m : MethodId) (args : Array Value) (below : List Frame) (meth : Method) (c : Code) (Q : State → Prop) (A : Nat → Prop), CallFix p m c cc maxL s args wsy y.cls → K_ D cl tys s → (∀ q, s.heap.size ≤ q → A q) → meth.name = y.name → (∀ (w1 : va_W) (pc : Nat) (lv : List (Nat × Value)), Wp w1 → decode cc pc = .ok (.return_, 1) → X_ p l e rm s m args below meth c Q D cl A maxL mc ms w1 lv pc []) → X_ p l e rm s m args below meth c Q D cl A maxL 0 0 wc (lv_args 0 av) 0 []) : Cv l y wsy rm D cl tys av wc Wp mc ms := by
  intro sz
  refine Met.ofW (cc := cc) (maxL := maxL) (ret := none) hy hw ?_
  intro p e s m args below meth c s₁ B hml hv
  obtain ⟨rfl, hsz, hP, hK, hD0⟩ := hv
  have hx := B.exec
  have hb := B.bytes
  have hr := B.returns
  have hts := atoms_spec (ws := wsy) B.pre
  have hown : s.vm.findClass y.cls = some m.cls := findClass_of_methodNamed B.named
  have hlocks := B.notSynchronized
  have hin : meth.name = y.name := (name_of_methodNamed B.named B.method).1
  subst hsz
  have hD := hD0.self (sz := s.heap.size)
  have hA : ∀ q : Nat, s.heap.size ≤ q → va_A wc s.heap.size q := fun q h => Or.inr h
  have hS : va_S (va_A wc s.heap.size) s.heap s.heap [] := va_S.rf
  have hl := lv_entry av (n := maxL) hav
  rw [lg_entry_eq]
  exact body p e s m _ below meth c _ _ ⟨hx, hb, hml, hown, hts⟩ hK hA hin (fun w1 pc lv hw1 hd H locs ls hP1 hD1 hS1 hl1 => W.vret hx hb hr (fun t ht hW => ⟨⟨(), rfl, trivial, w1, hw1, by rw [ht]; exact hP1, hD1⟩, hS1.F ht⟩) hS1.2.2 hd) s.heap [] _ hP hD hS hl
