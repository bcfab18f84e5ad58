/-! Rows for the law's own script, and its method 'cell'. -/
section XS
variable {p : Program} {l : Launch} {e : Env} {R : Room} {s : State} {m : MethodId} {args : Array Value} {below : List Frame} {meth : Method} {c : Code} {Q : State → Prop} {D : va_G} {cl : List vw_C} {A : Nat → Prop} {nL cells slots : Nat} {ws : va_W} {lv : List (Nat × Value)} {pc : Nat} {st : List Value} {cc : ByteArray} {Ts : List Cond} {own : String} {tys : List (ClassId × FieldType)}
theorem x_sld (S : CallFix p m c cc nL s args Ts own) {b L : Nat} {xs : Nat → Int32} (hX : va_X b L xs s s.heap) (hbl : b < s.heap.size) (hbA : ¬ A b) {i : Int32} (hin : vp_in i L) (hdg : decode cc pc = .ok (.iaload, 1))
    (k : X_ p l e R s m args below meth c Q D cl A nL cells slots ws lv (pc + 1) (.int (xs i.toNatClampNeg) :: st)) : X_ p l e R s m args below meth c Q D cl A nL cells slots ws lv pc (.int i :: .ref b :: st) := fun H locs ls hP hD hS hl => va_sld S.1 S.2.1 hX hbl hbA hS hin hdg (k H locs ls hP hD hS hl)
theorem x_slen (S : CallFix p m c cc nL s args Ts own) {b L : Nat} {xs : Nat → Int32} (hX : va_X b L xs s s.heap) (hbl : b < s.heap.size) (hbA : ¬ A b) (hdg : decode cc pc = .ok (.arraylength, 1))
    (k : X_ p l e R s m args below meth c Q D cl A nL cells slots ws lv (pc + 1) (.int (nI L) :: st)) : X_ p l e R s m args below meth c Q D cl A nL cells slots ws lv pc (.ref b :: st) := fun H locs ls hP hD hS hl => va_slen S.1 S.2.1 hX hbl hbA hS hdg (k H locs ls hP hD hS hl)
/-- what cell(script, i) answers -/
noncomputable def xc (L : Nat) (xs : Nat → Int32) (i : Int32) : Int32 := if nI L ≤ i then 0 else xs i.toNatClampNeg
set_option maxHeartbeats 1000000 in
theorem c_L_cell (l : Launch) (b L : Nat) (xs : Nat → Int32) (hL : L < 2 ^ 31) (i : Int32) (hi : ¬ i < 0) (sz : Nat) : Met l yL_cell wsL_cell ({ frames := 0, cells := 0, slots := 0, locals := 0 } : Room) (va_Pc [.ref b, .int i] (fun U => U.heap.size = sz ∧ va_X b L xs U U.heap ∧ b < sz)) (va_Qi (fun (q : Int32) (_ : Unit) => q = xc L xs i) (fun _ _ => True) (fun _ => False)) 0 0 (fun _ => False) := by
  refine Met.ofW (cc := cL_cell) (maxL := 2) (ret := some .int) (by decide) rfl ?_
  intro p e s m args below meth c s₁ B hml hv
  obtain ⟨rfl, hsz, hX, hb0⟩ := hv
  have hx := B.exec
  have hb := B.bytes
  have hr := B.returns
  have hts := atoms_spec (ws := wsL_cell) B.pre
  have hown : s.vm.findClass RL = some m.cls := findClass_of_methodNamed B.named
  have hlocks := B.notSynchronized
  subst hsz
  have hS : va_S (fun _ => False) s.heap s.heap [] := va_S.rf
  have hl := lv_entry ([.ref b, .int i]) (n := 2) (Nat.le_of_ble_eq_true rfl)
  rw [lg_entry_eq]
  generalize (lg_sl ([.ref b, .int i]) ++ List.replicate (2 - (lg_sl ([.ref b, .int i])).length) Slot.unset).toArray = ls at hl ⊢
  have hl : lv_has ls 2 [(0, .ref b), (1, .int i)] := hl
  have hnA : ¬ (fun _ : Nat => False) b := fun h => h
  refine lv_iload_n hx hb dL_cell_0 rfl (lv_at hl 1 rfl) ?_
  refine lv_aload_n hx hb dL_cell_1 rfl (lv_at hl 0 rfl) ?_
  refine va_slen hx hb hX hb0 hnA hS dL_cell_2 ?_
  refine lv_icmp_ge (tgt := 12) hx hb dL_cell_3 (by decide) (fun hc => ?_) (fun hc => ?_)
  · refine lv_iconst (v := 0) hx hb dL_cell_12 (by decide) ?_
    exact W.iret (v := 0) hx hb hr (fun t ht hW => ⟨⟨0, (), rfl, (if_pos hc).symm, trivial⟩, hS.F ht⟩) hS.2.2 dL_cell_13
  · obtain ⟨j, hj, rfl⟩ := nI_of hi
    have hlt : j < L := by
      rcases Nat.lt_or_ge j L with q | q
      · exact q
      · exact absurd (nI_le q hj) hc
    refine lv_aload_n hx hb dL_cell_6 rfl (lv_at hl 0 rfl) ?_
    refine lv_iload_n hx hb dL_cell_7 rfl (lv_at hl 1 rfl) ?_
    refine va_sld hx hb hX hb0 hnA hS (vp_in_nI hlt hL) dL_cell_8 ?_
    refine lv_goto (tgt := 13) hx hb dL_cell_9 (by decide) ?_
    exact W.iret (v := xs (nI j).toNatClampNeg) hx hb hr (fun t ht hW => ⟨⟨_, (), rfl, (if_neg hc).symm, trivial⟩, hS.F ht⟩) hS.2.2 dL_cell_13
theorem x_cell (S : CallFix p m c cc nL s args Ts own) {b L : Nat} {xs : Nat → Int32} (hX : va_X b L xs s s.heap) (hbl : b < s.heap.size) (hbA : ¬ A b) (hL : L < 2 ^ 31) {index : Nat} (cw : CallB R s args own index yL_cell cL_cell 2 (some .int) wsL_cell ({ frames := 0, cells := 0, slots := 0, locals := 0 } : Room) 0 0 2 ∧ (Cond.static yL_cell).before args s = true) {i : Int32} (hi : ¬ i < 0) (hrm : (st.map fun v => v.category).sum ≤ 8) (hdg : decode cc pc = .ok (.invokestatic index, 3)) (hf : cells + 0 ≤ R.cells ∧ slots + 0 ≤ R.slots)
    (k : X_ p l e R s m args below meth c Q D cl A nL cells slots ws lv (pc + 3) (.int (xc L xs i) :: st)) : X_ p l e R s m args below meth c Q D cl A nL cells slots ws lv pc (.int i :: .ref b :: st) := by
  intro H locs ls hP hD hS hl
  have hXH : va_X b L xs s H := hX.kept (hS.2.1 b hbl hbA)
  have hbH : b < H.size := Nat.lt_of_lt_of_le hbl hS.1
  refine va_calli (va_runS (As := [.ref b, .int i]) (rest := st) S (c_L_cell l b L xs hL i hi H.size) cw ⟨fun a U g mk q => ?_, fun U hU hW => ⟨rfl, by rw [hU], by rw [hU]; exact va_X.moved hW.alike hXH, hbH⟩⟩ rfl rfl hl.1 rfl (lv_room hrm) hdg hf) hS (fun q _ h => h.elim) (fun q h => h.elim) (fun rq u t H1 locs1 ht hvm hrq hB hz1 hk1 hS => ?_)
  · obtain ⟨q0, q1, qX, qb⟩ := q
    exact ⟨q0, q1, va_X.moved (u := U) (U := U.calling g mk a) (Vm.Alike.refl U.vm) qX, qb⟩
  · subst hrq
    have hP1 : va_P D cl ws H1 := hP.kept (fun k q hq => hk1 q.1 ((hP k q hq).lt) (fun h => h))
    exact k H1 locs1 ls hP1 hD hS hl
end XS
