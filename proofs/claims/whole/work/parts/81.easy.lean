/-! Easy calls: what only reads, or sets a number. -/
theorem wi_out (F : Nat) {x : Int32} {n : Nat} (hn : n < 2 ^ 30) (h : x < 0 ∨ nI n ≤ x) : fn_X12_within F x 0 (nI n - 1) = some 0 := by
  unfold fn_X12_within bf_X12_within_0
  by_cases h0 : x < 0
  · rw [if_pos h0]
  · rw [if_neg h0]
    have h1 : nI n ≤ x := h.resolve_left h0
    have e1 : (nI n - nI 1).toInt = (n : Int) - 1 := pk_sub_toInt (by omega) (by omega)
    have e2 : (nI n).toInt = (n : Int) := nI_toInt (by omega)
    have h2 : (nI n).toInt ≤ x.toInt := Int32.le_iff_toInt_le.mp h1
    have h3 : nI n - 1 < x := Int32.lt_iff_toInt_lt.mpr (by show (nI n - nI 1).toInt < x.toInt; omega)
    rw [if_pos h3]
theorem wi_in (F : Nat) {n j : Nat} (hn : n < 2 ^ 30) (h : j < n) : fn_X12_within F (nI j) 0 (nI n - 1) = some 1 := by
  unfold fn_X12_within bf_X12_within_0
  rw [if_neg (nI_pos (by omega))]
  have e1 : (nI n - nI 1).toInt = (n : Int) - 1 := pk_sub_toInt (by omega) (by omega)
  have e2 : (nI j).toInt = (j : Int) := nI_toInt (by omega)
  have h3 : ¬ nI n - 1 < nI j := fun z => by
    have z2 : (nI n - nI 1).toInt < (nI j).toInt := Int32.lt_iff_toInt_lt.mp z
    omega
  rw [if_neg h3]
theorem bs {α β : Type} (a : α) (f : α → Option β) : (some a).bind f = f a := rfl
theorem s_u32 : ∀ n, n < 32 → (((nI n).toUInt32 &&& Int32.toUInt32 31).toBitVec % 32).toNat = n := by decide
theorem wb_1 (x : Int32) {k : Nat} (hk : k < 32) : ((x.toUInt32 >>> ((nI k).toUInt32 &&& Int32.toUInt32 31)).toInt32) &&& (1 : Int32) = b01 (x.toBitVec.getLsbD k) := by
  rw [pk_and _ (m := 1) 1 (by decide), pk_ushr x (nI k) k (s_u32 k hk)]
  have e : x.toBitVec.getLsbD k = decide (x.toBitVec.toNat / 2 ^ k % 2 = 1) := by
    rw [← Nat.testBit_eq_decide_div_mod_eq]; rfl
  rw [e]
  unfold b01
  by_cases h : x.toBitVec.toNat / 2 ^ k % 2 = 1
  · simp [h]; rfl
  · have h0 : x.toBitVec.toNat / 2 ^ k % 2 = 0 := by omega
    simp [h0]; rfl
theorem get_out (F nw : Nat) (w : Nat → Int32) {x : Int32} {n : Nat} (h : x < 0 ∨ nI n ≤ x) : fn_X0_get F (nI n) nw w x = some (-1) := by
  unfold fn_X0_get bf_X0_get_0
  by_cases h0 : x < 0
  · rw [if_pos h0]
  · rw [if_neg h0, if_pos (h.resolve_left h0)]
theorem get_in (F : Nat) (w : Nat → Int32) {n nw j : Nat} (hn : n < 2 ^ 30) (h : j < n) (hw : n ≤ 32 * nw) (hw2 : nw < 2 ^ 31) : fn_X0_get F (nI n) nw w (nI j) = some (b01 (wbit w j)) := by
  unfold fn_X0_get bf_X0_get_0
  have e5 : nI j >>> ((5 : Int32) &&& 31) = nI (j / 32) := pk_shrN (by omega) _ 5 (by decide)
  have e31 : nI j &&& (31 : Int32) = nI (j % 32) := pk_andN (by omega) 5 (by decide)
  have hj : j / 32 < nw := by omega
  rw [if_neg (nI_pos (by omega)), if_neg (nI_ge h (by omega)), e5, e31, if_neg (nI_in hj (by omega)), nI_clamp (by omega), wb_1 _ (Nat.mod_lt _ (by decide))]
  rfl
theorem rget_out (F nw : Nat) (w : Nat → Int32) {x : Int32} {n : Nat} (h : x < 0 ∨ nI n ≤ x) : fn_X9_get F (nI n) nw w x = some (-1) := by
  unfold fn_X9_get bf_X9_get_0
  by_cases h0 : x < 0
  · rw [if_pos h0]
  · rw [if_neg h0, if_pos (h.resolve_left h0)]
theorem rget_in (F : Nat) (w : Nat → Int32) {n nw j : Nat} (hn : n < 2 ^ 30) (h : j < n) (hw : n ≤ nw) (hw2 : nw < 2 ^ 31) : fn_X9_get F (nI n) nw w (nI j) = some (w j) := by
  unfold fn_X9_get bf_X9_get_0
  rw [if_neg (nI_pos (by omega)), if_neg (nI_ge h (by omega)), if_neg (nI_in (by omega) hw2), nI_clamp (by omega)]
theorem b01_cases (b : Bool) : b01 b = 0 ∨ b01 b = 1 := by cases b <;> simp [b01]
theorem nbq {k j : Nat} (h : k ≠ j) : Nat.beq k j = false := by
  cases e : Nat.beq k j with
  | false => rfl
  | true => exact absurd (Nat.eq_of_beq_eq_true e) h
/-- a function that is set where it is, to what it is -/
theorem cs1 {α : Type} (f : Nat → α) {j : Nat} {v : α} (h : v = f j) : (fun k => cond (Nat.beq k j) v (f k)) = f := funext fun k => by
  by_cases e : k = j
  · subst e
    show cond (Nat.beq k k) v (f k) = f k
    rw [show Nat.beq k k = true from Nat.beq_refl k]
    exact h
  · show cond (Nat.beq k j) v (f k) = f k
    rw [nbq e]
    rfl
theorem sim_place : Sim_place FU Inv := by
  intro ci cn ca mi mn ma hI
  obtain ⟨S, K, T, t, len, nb, no, nk, hC, hM, hT, hLn, hB, hO, hKy, hP⟩ := id hI
  exact ⟨ci 53, mi 7, rfl, rfl, hP, hI⟩
theorem sim_out : Sim_out FU Inv := by
  intro ci cn ca mi mn ma x hI
  obtain ⟨S, K, T, t, len, nb, no, nk, hC, hM, hT, hLn, hB, hO, hKy, hP⟩ := id hI
  obtain ⟨⟨h1, h2, h3⟩, h4⟩ := hO
  have c98 : cn 98 = 600 := hC.2.2.2.2.2.2.2.2.2.2.2.1
  have m21 : mn 21 = 600 := hM.2.1.2.2.2.2
  have ge : gX_out FU ci cn ca x = (fn_X9_get FU (ci 97) (cn 98) (ca 99) x).bind fun v => some v := rfl
  have gm : gM_out FU mi mn ma x = (fn_X12_within FU x 0 (mi 6 - 1)).bind fun v8 => (if v8 = 0 then some ((-1 : Int32)) else (if x < 0 ∨ mn 21 ≤ x.toNatClampNeg then none else some (ma 22 x.toNatClampNeg))) := rfl
  rw [h2, c98] at ge
  rw [h3, m21] at gm
  rcases pk_ix x (n := no) (by omega) with h | h | ⟨j, hj, rfl⟩
  · rw [rget_out _ _ _ (Or.inl h)] at ge
    rw [wi_out _ (by omega) (Or.inl h)] at gm
    exact ⟨-1, -1, ge, gm, rfl, hI⟩
  · rw [rget_out _ _ _ (Or.inr h)] at ge
    rw [wi_out _ (by omega) (Or.inr h)] at gm
    exact ⟨-1, -1, ge, gm, rfl, hI⟩
  · rw [rget_in _ _ (by omega) hj (by omega) (by omega)] at ge
    rw [wi_in _ (by omega) hj] at gm
    rw [bs, if_neg (by decide), if_neg (nI_in (by omega) (by omega)), nI_clamp (by omega)] at gm
    exact ⟨ca 99 j, ma 22 j, ge, gm, h4 j hj, hI⟩
theorem sim_bit : Sim_bit FU Inv := by
  intro ci cn ca mi mn ma x hI
  obtain ⟨S, K, T, t, len, nb, no, nk, hC, hM, hT, hLn, hB, hO, hKy, hP⟩ := id hI
  obtain ⟨⟨h1, h2, h3⟩, h4⟩ := hB
  have c90 : cn 90 = 188 := hC.2.2.2.2.2.2.2.2.2.2.1.2.1
  have m19 : mn 19 = 6000 := hM.2.1.2.2.2.1
  have ge : gX_bit FU ci cn ca x = (fn_X0_get FU (ci 88) (cn 90) (ca 91) x).bind fun v => some v := rfl
  have gm : gM_bit FU mi mn ma x = (fn_X12_within FU x 0 (mi 5 - 1)).bind fun v8 => (if v8 = 0 then some ((-1 : Int32)) else (if x < 0 ∨ mn 19 ≤ x.toNatClampNeg then none else (if ma 20 x.toNatClampNeg = 0 then some ((0 : Int32)) else some ((1 : Int32))))) := rfl
  rw [h2, c90] at ge
  rw [h3, m19] at gm
  rcases pk_ix x (n := nb) (by omega) with h | h | ⟨j, hj, rfl⟩
  · rw [get_out _ _ _ (Or.inl h)] at ge
    rw [wi_out _ (by omega) (Or.inl h)] at gm
    exact ⟨-1, -1, ge, gm, rfl, hI⟩
  · rw [get_out _ _ _ (Or.inr h)] at ge
    rw [wi_out _ (by omega) (Or.inr h)] at gm
    exact ⟨-1, -1, ge, gm, rfl, hI⟩
  · rw [get_in _ _ (by omega) hj (by omega) (by omega)] at ge
    rw [wi_in _ (by omega) hj, bs, if_neg (by decide), if_neg (nI_in (by omega) (by omega)), nI_clamp (by omega), h4 j hj] at gm
    rcases b01_cases (wbit (ca 91) j) with e | e
    · rw [e] at ge gm
      exact ⟨0, 0, ge, gm, rfl, hI⟩
    · rw [e] at ge gm
      exact ⟨1, 1, ge, gm, rfl, hI⟩
theorem sim_keyBit : Sim_keyBit FU Inv := by
  intro ci cn ca mi mn ma x hI
  obtain ⟨S, K, T, t, len, nb, no, nk, hC, hM, hT, hLn, hB, hO, hKy, hP⟩ := id hI
  obtain ⟨⟨h1, h2, h3⟩, h4⟩ := hKy
  have c61 : cn 61 = 32 := hC.2.2.2.2.2.2.2.1.2.2.2
  have m63 : mn 63 = 1024 := hM.2.2.2.2.2.2.2.2.2.2
  have ge : gX_keyBit FU ci cn ca x = (fn_X0_get FU (ci 59) (cn 61) (ca 62) x).bind fun v => some v := rfl
  have gm : gM_keyBit FU mi mn ma x = (fn_X12_within FU x 0 (mi 12 - 1)).bind fun v8 => (if v8 = 0 then some ((-1 : Int32)) else (if x < 0 ∨ mn 63 ≤ x.toNatClampNeg then none else some (ma 64 x.toNatClampNeg))) := rfl
  rw [h2, c61] at ge
  rw [h3, m63] at gm
  rcases pk_ix x (n := nk) (by omega) with h | h | ⟨j, hj, rfl⟩
  · rw [get_out _ _ _ (Or.inl h)] at ge
    rw [wi_out _ (by omega) (Or.inl h)] at gm
    exact ⟨-1, -1, ge, gm, rfl, hI⟩
  · rw [get_out _ _ _ (Or.inr h)] at ge
    rw [wi_out _ (by omega) (Or.inr h)] at gm
    exact ⟨-1, -1, ge, gm, rfl, hI⟩
  · rw [get_in _ _ (by omega) hj (by omega) (by omega)] at ge
    rw [wi_in _ (by omega) hj, bs, if_neg (by decide), if_neg (nI_in (by omega) (by omega)), nI_clamp (by omega), h4 j hj] at gm
    exact ⟨_, _, ge, gm, rfl, hI⟩
theorem sim_cut : Sim_cut FU Inv := by
  intro ci cn ca mi mn ma x hI
  obtain ⟨S, K, T, t, len, nb, no, nk, hC, hM, hT, hLn, hB, hO, hKy, hP⟩ := id hI
  obtain ⟨⟨h1, h2, h3⟩, h4⟩ := hB
  have ge : gX_cut FU ci cn ca x = (if x < 0 then some ((-1 : Int32), ci 88) else (if x ≤ ci 88 then some (ci 88, x) else some ((-1 : Int32), ci 88))) := rfl
  have gm : gM_cut FU mi mn ma x = (fn_X12_within FU x 0 (mi 5)).bind fun v6 => (if v6 = 0 then some ((-1 : Int32), mi 5) else some (mi 5, x)) := rfl
  have gw : fn_X12_within FU x 0 (mi 5) = (if x < 0 then some (0 : Int32) else (if mi 5 < x then some (0 : Int32) else some (1 : Int32))) := rfl
  rw [gw] at gm
  have fx : ∀ v : Int32, (uXi_cut (v, ci 88) ci) = ci := fun v => cs1 ci rfl
  have fm : ∀ v : Int32, (uMi_cut (v, mi 5) mi) = mi := fun v => cs1 mi rfl
  by_cases hn : x < 0
  · rw [if_pos hn] at ge gm
    refine ⟨_, _, ge, gm, rfl, ?_⟩
    rw [fx, fm]; exact hI
  rw [if_neg hn] at ge gm
  obtain ⟨j, hj, rfl⟩ := nI_of hn
  by_cases hc : j ≤ nb
  · rw [if_pos (by rw [h2]; exact nI_le hc (by omega))] at ge
    rw [if_neg (by rw [h3]; exact nI_nlt hc (by omega)), bs, if_neg (by decide)] at gm
    refine ⟨_, _, ge, gm, by show ci 88 = mi 5; rw [h2, h3], ?_⟩
    exact ⟨S, K, T, t, len, j, no, nk, hC, hM, hT, hLn, ⟨⟨by omega, rfl, rfl⟩, fun i hi => h4 i (by omega)⟩, hO, hKy, hP⟩
  · rw [if_neg (by rw [h2]; exact nI_ge (by omega) hj)] at ge
    rw [if_pos (by rw [h3]; exact nI_lt (by omega) hj), bs, if_pos rfl] at gm
    refine ⟨_, _, ge, gm, rfl, ?_⟩
    rw [fx, fm]; exact hI
