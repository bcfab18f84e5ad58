/-! feedAll. -/
def sixX (v : Int64) (x : Int32) : Int32 := ((((v).toUInt64 >>> ((((6 : Int32) * x)).toInt64.toUInt64 &&& Int64.toUInt64 63)).toInt64)).toInt32 &&& (63 : Int32)
def sixM (v : Int64) (x : Int32) : Int32 := (((v >>> ((((6 : Int32) * x)).toInt64 &&& 63)) &&& (63 : Int64))).toInt32
theorem b64_63 : ∀ i, i < 32 → (63 : Int64).toBitVec.getLsbD i = decide (i < 6) := by decide +kernel
theorem b32_63 : ∀ i, i < 32 → bt 63 i = decide (i < 6) := by decide +kernel
theorem six_u : ∀ k, k < 10 → (((((6 : Int32) * nI k)).toInt64.toUInt64 &&& Int64.toUInt64 63).toBitVec % 64).toNat = 6 * k := by decide +kernel
theorem six_s : ∀ k, k < 10 → ((((6 : Int32) * nI k).toInt64 &&& 63).toBitVec.smod 64).toNat = 6 * k := by decide +kernel
theorem bt_i32 (y : Int64) {i : Nat} (hi : i < 32) : bt y.toInt32 i = y.toBitVec.getLsbD i := by
  unfold bt
  rw [Int64.toBitVec_toInt32, BitVec.getLsbD_signExtend]
  have h64 : i < 64 := by omega
  simp [hi, h64]
theorem six_eq (v : Int64) {k : Nat} (hk : k < 10) : sixX v (nI k) = sixM v (nI k) := by
  apply b_ext
  intro i hi
  unfold sixX sixM
  rw [b_and, b32_63 i hi]
  have e1 : bt ((((v).toUInt64 >>> ((((6 : Int32) * nI k)).toInt64.toUInt64 &&& Int64.toUInt64 63)).toInt64)).toInt32 i = v.toBitVec.getLsbD (6 * k + i) := by
    rw [bt_i32 _ hi]
    show (v.toUInt64 >>> ((((6 : Int32) * nI k)).toInt64.toUInt64 &&& Int64.toUInt64 63)).toBitVec.getLsbD i = _
    rw [UInt64.toBitVec_shiftRight]
    show (v.toUInt64.toBitVec >>> (((((6 : Int32) * nI k)).toInt64.toUInt64 &&& Int64.toUInt64 63).toBitVec % 64).toNat).getLsbD i = _
    rw [six_u k hk, BitVec.getLsbD_ushiftRight]
    rfl
  have e2 : bt (((v >>> ((((6 : Int32) * nI k)).toInt64 &&& 63)) &&& (63 : Int64))).toInt32 i = ((v >>> ((((6 : Int32) * nI k)).toInt64 &&& 63)).toBitVec.getLsbD i && decide (i < 6)) := by
    rw [bt_i32 _ hi, Int64.toBitVec_and, BitVec.getLsbD_and, b64_63 i hi]
  rw [e1, e2]
  by_cases h6 : i < 6
  · have e3 : (v >>> ((((6 : Int32) * nI k)).toInt64 &&& 63)).toBitVec.getLsbD i = v.toBitVec.getLsbD (6 * k + i) := by
      rw [Int64.toBitVec_shiftRight]
      show (v.toBitVec.sshiftRight ((((6 : Int32) * nI k).toInt64 &&& 63).toBitVec.smod 64).toNat).getLsbD i = _
      rw [six_s k hk, BitVec.getLsbD_sshiftRight]
      have a1 : ¬ 64 ≤ i := by omega
      have a2 : 6 * k + i < 64 := by omega
      simp [a1, a2]
    rw [e3]
  · simp [h6]
def q6 (v : Int64) (k : Nat) : Nat := (sixX v (nI k)).toNatClampNeg
theorem q6_eq (v : Int64) (k : Nat) : sixX v (nI k) = nI (q6 v k) ∧ q6 v k < 64 := by
  obtain ⟨j, h1, h2⟩ := pk_andE (((((v).toUInt64 >>> ((((6 : Int32) * nI k)).toInt64.toUInt64 &&& Int64.toUInt64 63)).toInt64)).toInt32) (m := 63) 6 (by decide)
  have h3 : sixX v (nI k) = nI j := h2
  unfold q6
  rw [h3, nI_clamp (by omega)]
  exact ⟨rfl, by omega⟩
theorem fa_X16 (F : Nat) (v : Int64) {S n T : Nat} (hS : S ≤ 96) (hn : n ≤ 10) (w c : Nat → Int32) : ∀ (d i k : Nat), i + d = n → d < k →
    ((∀ q, i ≤ q → q < n → q6 v q < S) → lf_X11_feedAll_16 F (nI S) 600 S k v (nI n) (nI i) (nI T) w c = (if (nI T + nI n) ≤ (600 : Int32) then lf_X11_feedAll_64 F (nI S) 600 S F v (nI n) (0 : Int32) (nI T) w c else some ((-2 : Int32), nI T, w, c))) ∧
    ((¬ ∀ q, i ≤ q → q < n → q6 v q < S) → lf_X11_feedAll_16 F (nI S) 600 S k v (nI n) (nI i) (nI T) w c = some ((-1 : Int32), nI T, w, c)) := by
  intro d
  induction d with
  | zero =>
    intro i k hi hk
    obtain ⟨k, rfl⟩ : ∃ q, k = q + 1 := ⟨k - 1, by omega⟩
    refine ⟨fun _ => ?_, fun h => absurd (fun q h1 h2 => by omega) h⟩
    show bf_X11_feedAll_16 F (nI S) 600 S (fun a b c2 d2 e f => lf_X11_feedAll_16 F (nI S) 600 S k a b c2 d2 e f) v (nI n) (nI i) (nI T) w c = _
    unfold bf_X11_feedAll_16
    rw [if_pos (nI_le (by omega) (by omega))]
  | succ d ih =>
    intro i k hi hk
    obtain ⟨k, rfl⟩ : ∃ q, k = q + 1 := ⟨k - 1, by omega⟩
    have step : lf_X11_feedAll_16 F (nI S) 600 S (k + 1) v (nI n) (nI i) (nI T) w c = ((some (nI (q6 v i))).bind fun v26 => ((fn_X11_isSymbol F (nI S) v26).bind fun v29 => (if v29 = 0 then some ((-1 : Int32), nI T, w, c) else lf_X11_feedAll_16 F (nI S) 600 S k v (nI n) (nI i + (1 : Int32)) (nI T) w c))) := by
      show bf_X11_feedAll_16 F (nI S) 600 S (fun a b c2 d2 e f => lf_X11_feedAll_16 F (nI S) 600 S k a b c2 d2 e f) v (nI n) (nI i) (nI T) w c = _
      unfold bf_X11_feedAll_16
      rw [if_neg (nI_ge (by omega) (by omega)), show fn_X11_sixBits F v (nI i) = some (nI (q6 v i)) from congrArg some (q6_eq v i).1]
    rw [step, bs, show nI i + (1 : Int32) = nI (i + 1) from nI_add i 1]
    by_cases hq : q6 v i < S
    · rw [isX_in F (by omega) hq, bs, if_neg (by decide)]
      obtain ⟨a1, a2⟩ := ih (i + 1) k (by omega) (by omega)
      refine ⟨fun h => a1 (fun q h1 h2 => h q (by omega) h2), fun h => a2 (fun z => h (fun q h1 h2 => ?_))⟩
      by_cases e : q = i
      · rw [e]; exact hq
      · exact z q (by omega) h2
    · have h0 := (q6_eq v i).2
      rw [isX_out F (Or.inr (nI_le (by omega) (by omega))), bs, if_pos rfl]
      exact ⟨fun h => absurd (h i (Nat.le_refl _) (by omega)) hq, fun _ => rfl⟩
theorem fa_M15 (F : Nat) (v : Int64) {S n T : Nat} (hS : S ≤ 96) (hn : n ≤ 10) (u : Nat → Int32) : ∀ (d i k : Nat), i + d = n → d < k →
    ((∀ q, i ≤ q → q < n → q6 v q < S) → lf_X12_feedAll_15 F (nI S) 600 k v (nI n) (nI i) (nI T) u = (if (nI T + nI n) ≤ (600 : Int32) then lf_X12_feedAll_66 F (nI S) 600 F v (nI n) (0 : Int32) (nI T) u else some ((-2 : Int32), nI T, u))) ∧
    ((¬ ∀ q, i ≤ q → q < n → q6 v q < S) → lf_X12_feedAll_15 F (nI S) 600 k v (nI n) (nI i) (nI T) u = some ((-1 : Int32), nI T, u)) := by
  intro d
  induction d with
  | zero =>
    intro i k hi hk
    obtain ⟨k, rfl⟩ : ∃ q, k = q + 1 := ⟨k - 1, by omega⟩
    refine ⟨fun _ => ?_, fun h => absurd (fun q h1 h2 => by omega) h⟩
    show bf_X12_feedAll_15 F (nI S) 600 (fun a b c2 d2 e => lf_X12_feedAll_15 F (nI S) 600 k a b c2 d2 e) v (nI n) (nI i) (nI T) u = _
    unfold bf_X12_feedAll_15
    rw [if_pos (nI_le (by omega) (by omega))]
  | succ d ih =>
    intro i k hi hk
    obtain ⟨k, rfl⟩ : ∃ q, k = q + 1 := ⟨k - 1, by omega⟩
    have step : lf_X12_feedAll_15 F (nI S) 600 (k + 1) v (nI n) (nI i) (nI T) u = ((fn_X12_isSymbol F (nI S) (nI (q6 v i))).bind fun v34 => (if v34 = 0 then some ((-1 : Int32), nI T, u) else lf_X12_feedAll_15 F (nI S) 600 k v (nI n) (nI i + (1 : Int32)) (nI T) u)) := by
      show bf_X12_feedAll_15 F (nI S) 600 (fun a b c2 d2 e => lf_X12_feedAll_15 F (nI S) 600 k a b c2 d2 e) v (nI n) (nI i) (nI T) u = _
      unfold bf_X12_feedAll_15
      rw [if_neg (nI_ge (by omega) (by omega)), show (((v >>> ((((6 : Int32) * nI i)).toInt64 &&& 63)) &&& (63 : Int64))).toInt32 = nI (q6 v i) from (six_eq v (by omega)).symm.trans (q6_eq v i).1]
    rw [step, show nI i + (1 : Int32) = nI (i + 1) from nI_add i 1]
    by_cases hq : q6 v i < S
    · rw [isM_in F (by omega) hq, bs, if_neg (by decide)]
      obtain ⟨a1, a2⟩ := ih (i + 1) k (by omega) (by omega)
      refine ⟨fun h => a1 (fun q h1 h2 => h q (by omega) h2), fun h => a2 (fun z => h (fun q h1 h2 => ?_))⟩
      by_cases e : q = i
      · rw [e]; exact hq
      · exact z q (by omega) h2
    · have h0 := (q6_eq v i).2
      rw [isM_out F (by omega) (Or.inr (nI_le (by omega) (by omega))), bs, if_pos rfl]
      exact ⟨fun h => absurd (h i (Nat.le_refl _) (by omega)) hq, fun _ => rfl⟩
theorem fa_put (F : Nat) (v : Int64) {S n : Nat} (hS : S ≤ 96) (hn : n ≤ 10) : ∀ (d i k T : Nat) (t : Nat → Nat) (w c u : Nat → Int32), i + d = n → d < k → T + d ≤ 600 → (∀ q, i ≤ q → q < n → q6 v q < S) →
    (∀ k, k < T → t k < S ∧ w k = nI (t k) ∧ u k = nI (t k)) → (∀ s, s < S → c s = nI (cnt t T s)) →
    ∃ (t' : Nat → Nat) (w' c' u' : Nat → Int32), lf_X11_feedAll_64 F (nI S) 600 S k v (nI n) (nI i) (nI T) w c = some (nI (T + d), nI (T + d), w', c') ∧ lf_X12_feedAll_66 F (nI S) 600 k v (nI n) (nI i) (nI T) u = some (nI (T + d), nI (T + d), u') ∧
      (∀ k, k < T + d → t' k < S ∧ w' k = nI (t' k) ∧ u' k = nI (t' k)) ∧ (∀ s, s < S → c' s = nI (cnt t' (T + d) s)) := by
  intro d
  induction d with
  | zero =>
    intro i k T t w c u hi hk hT hq h4 h5
    obtain ⟨k, rfl⟩ : ∃ q, k = q + 1 := ⟨k - 1, by omega⟩
    refine ⟨t, w, c, u, ?_, ?_, h4, h5⟩
    · show bf_X11_feedAll_64 F (nI S) 600 S (fun a b c2 d2 e f => lf_X11_feedAll_64 F (nI S) 600 S k a b c2 d2 e f) v (nI n) (nI i) (nI T) w c = _
      unfold bf_X11_feedAll_64
      rw [if_pos (nI_le (by omega) (by omega))]; rfl
    · show bf_X12_feedAll_66 F (nI S) 600 (fun a b c2 d2 e => lf_X12_feedAll_66 F (nI S) 600 k a b c2 d2 e) v (nI n) (nI i) (nI T) u = _
      unfold bf_X12_feedAll_66
      rw [if_pos (nI_le (by omega) (by omega))]; rfl
  | succ d ih =>
    intro i k T t w c u hi hk hT hq h4 h5
    obtain ⟨k, rfl⟩ : ∃ q, k = q + 1 := ⟨k - 1, by omega⟩
    have hj : q6 v i < S := hq i (Nat.le_refl _) (by omega)
    obtain ⟨k4, k5⟩ := IvT_add h4 h5 hj
    obtain ⟨t', w', c', u', a1, a2, a3, a4⟩ := ih (i + 1) k (T + 1) (tadd t T (q6 v i)) (upd w T (nI (q6 v i))) (upd c (q6 v i) (c (q6 v i) + 1)) (upd u T (nI (q6 v i))) (by omega) (by omega) (by omega) (fun q h1 h2 => hq q (by omega) h2) k4 k5
    rw [show T + 1 + d = T + (d + 1) by omega] at a1 a2 a3 a4
    have e1 : nI i + (1 : Int32) = nI (i + 1) := nI_add i 1
    refine ⟨t', w', c', u', ?_, ?_, a3, a4⟩
    · show bf_X11_feedAll_64 F (nI S) 600 S (fun a b c2 d2 e f => lf_X11_feedAll_64 F (nI S) 600 S k a b c2 d2 e f) v (nI n) (nI i) (nI T) w c = _
      unfold bf_X11_feedAll_64
      rw [if_neg (nI_ge (by omega) (by omega)), show fn_X11_sixBits F v (nI i) = some (nI (q6 v i)) from congrArg some (q6_eq v i).1, bs, takeIn_eq F (by omega) (by omega) hj, bs, e1]
      exact a1
    · show bf_X12_feedAll_66 F (nI S) 600 (fun a b c2 d2 e => lf_X12_feedAll_66 F (nI S) 600 k a b c2 d2 e) v (nI n) (nI i) (nI T) u = _
      unfold bf_X12_feedAll_66
      rw [if_neg (nI_ge (by omega) (by omega)), if_neg (nI_in (by omega) (by decide)), nI_clamp (by omega), show (((v >>> ((((6 : Int32) * nI i)).toInt64 &&& 63)) &&& (63 : Int64))).toInt32 = nI (q6 v i) from (six_eq v (by omega)).symm.trans (q6_eq v i).1, e1, show nI T + (1 : Int32) = nI (T + 1) from nI_add T 1]
      exact a2
theorem sim_feedAll : Sim_feedAll FU Inv := by
  intro ci cn ca mi mn ma v y hI
  obtain ⟨S, K, T, t, len, nb, no, nk, hC, hM, hT, hLn, hB, hO, hKy, hP⟩ := id hI
  obtain ⟨⟨h1, h2, h3⟩, h4, h5⟩ := id hT
  have c0 : ci 0 = nI S := hC.2.1.1
  have c3 : cn 3 = 600 := hC.2.2.1.1
  have c5 : cn 5 = S := hC.2.2.1.2
  have hS : S ≤ 96 := hC.1.2.1
  have m0 : mi 0 = nI S := hM.1.1
  have m13 : mn 13 = 600 := hM.2.1.1
  have ge : gX_feedAll FU ci cn ca v y = (if y < (1 : Int32) then some ((-1 : Int32), ci 2, ca 4, ca 6) else (if y ≤ (10 : Int32) then lf_X11_feedAll_16 FU (ci 0) (cn 3) (cn 5) FU v y (0 : Int32) (ci 2) (ca 4) (ca 6) else some ((-1 : Int32), ci 2, ca 4, ca 6))) := rfl
  have gm : gM_feedAll FU mi mn ma v y = (fn_X12_within FU y (1 : Int32) (10 : Int32)).bind fun v4 => (if v4 = 0 then some ((-1 : Int32), mi 2, ma 14) else lf_X12_feedAll_15 FU (mi 0) (mn 13) FU v y (0 : Int32) (mi 2) (ma 14)) := rfl
  have gw : fn_X12_within FU y 1 10 = (if y < (1 : Int32) then some (0 : Int32) else (if (10 : Int32) < y then some (0 : Int32) else some (1 : Int32))) := rfl
  rw [h2] at ge
  rw [gw, h3] at gm
  have same : ∀ q : Int32, Inv (uXi_feedAll (q, nI T, ca 4, ca 6) ci) (uXn_feedAll (q, nI T, ca 4, ca 6) cn) (uXa_feedAll (q, nI T, ca 4, ca 6) ca) (uMi_feedAll (q, nI T, ma 14) mi) (uMn_feedAll (q, nI T, ma 14) mn) (uMa_feedAll (q, nI T, ma 14) ma) := fun q => ⟨S, K, T, t, len, nb, no, nk, hC, hM, ⟨⟨h1, rfl, rfl⟩, h4, h5⟩, hLn, hB, hO, hKy, hP⟩
  by_cases y1 : y < (1 : Int32)
  · rw [if_pos y1] at ge
    rw [if_pos y1, bs, if_pos rfl] at gm
    exact ⟨_, _, ge, gm, rfl, same _⟩
  rw [if_neg y1] at ge gm
  have z1 : (1 : Int32).toInt ≤ y.toInt := Int.not_lt.mp (fun z => y1 (Int32.lt_iff_toInt_lt.mpr z))
  have z2 : (1 : Int32).toInt = 1 := by decide
  have z3 : (10 : Int32).toInt = 10 := by decide
  by_cases y10 : y ≤ (10 : Int32)
  · have z4 : y.toInt ≤ (10 : Int32).toInt := Int32.le_iff_toInt_le.mp y10
    have hy0 : ¬ y < 0 := fun z => by
      have z5 : y.toInt < (0 : Int32).toInt := Int32.lt_iff_toInt_lt.mp z
      have z6 : (0 : Int32).toInt = 0 := by decide
      omega
    obtain ⟨n, hn, rfl⟩ := nI_of hy0
    have hni : (nI n).toInt = (n : Int) := nI_toInt hn
    have hn10 : n ≤ 10 := by omega
    rw [if_pos y10, c0, c3, c5] at ge
    rw [if_neg (fun z => by have z5 := Int32.lt_iff_toInt_lt.mp z; omega), bs, if_neg (by decide), m0, m13] at gm
    obtain ⟨a1, a2⟩ := fa_X16 FU v (S := S) (n := n) (T := T) hS hn10 (ca 4) (ca 6) n 0 FU (by omega) (by unfold FU; omega)
    obtain ⟨b1, b2⟩ := fa_M15 FU v (S := S) (n := n) (T := T) hS hn10 (ma 14) n 0 FU (by omega) (by unfold FU; omega)
    by_cases hall : ∀ q, 0 ≤ q → q < n → q6 v q < S
    · have ge := ge.trans (a1 hall)
      have gm := gm.trans (b1 hall)
      rw [nI_add] at ge gm
      by_cases hs : T + n ≤ 600
      · obtain ⟨t', w', c', u', p1, p2, p3, p4⟩ := fa_put FU v hS hn10 n 0 FU T t (ca 4) (ca 6) (ma 14) (by omega) (by unfold FU; omega) hs hall h4 h5
        rw [if_pos (show nI (T + n) ≤ (600 : Int32) from nI_le (b := 600) hs (by decide))] at ge gm
        have ge := ge.trans p1
        have gm := gm.trans p2
        exact ⟨_, _, ge, gm, rfl, ⟨S, K, T + n, t', len, nb, no, nk, hC, hM, ⟨⟨hs, rfl, rfl⟩, p3, p4⟩, hLn, hB, hO, hKy, hP⟩⟩
      · rw [if_neg (show ¬ nI (T + n) ≤ (600 : Int32) from nI_ge (a := 600) (by omega) (by omega))] at ge gm
        exact ⟨_, _, ge, gm, rfl, same _⟩
    · exact ⟨_, _, ge.trans (a2 hall), gm.trans (b2 hall), rfl, same _⟩
  · rw [if_neg y10] at ge
    rw [if_pos (Int32.lt_iff_toInt_lt.mpr (Int.not_le.mp (fun z => y10 (Int32.le_iff_toInt_le.mpr z)))), bs, if_pos rfl] at gm
    exact ⟨_, _, ge, gm, rfl, same _⟩
