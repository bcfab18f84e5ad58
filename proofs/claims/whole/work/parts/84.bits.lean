/-! Bits: the rows bt .. b_sshr are pasted from kit/laws/BITS.to-paste. -/
def bt (x : Int32) (i : Nat) : Bool := x.toBitVec.getLsbD i
theorem b_ext {x y : Int32} (h : ∀ i, i < 32 → bt x i = bt y i) : x = y := Int32.toBitVec_inj.mp (BitVec.eq_of_getLsbD_eq (fun i hi => h i hi))
theorem b_or (x y : Int32) (i : Nat) : bt (x ||| y) i = (bt x i || bt y i) := by unfold bt; rw [Int32.toBitVec_or, BitVec.getLsbD_or]
theorem b_and (x y : Int32) (i : Nat) : bt (x &&& y) i = (bt x i && bt y i) := by unfold bt; rw [Int32.toBitVec_and, BitVec.getLsbD_and]
theorem b_xor (x y : Int32) (i : Nat) : bt (x ^^^ y) i = (bt x i ^^ bt y i) := by unfold bt; rw [Int32.toBitVec_xor, BitVec.getLsbD_xor]
theorem b_big {x : Int32} {i : Nat} (h : 32 ≤ i) : bt x i = false := BitVec.getLsbD_of_ge _ _ h
theorem b_m1 : ∀ i, i < 32 → bt (-1) i = true := by decide +kernel
theorem b_0 (i : Nat) : bt 0 i = false := BitVec.getLsbD_zero
theorem s_l : ∀ n, n < 32 → ((nI n &&& 31).toBitVec.smod 32).toNat = n := by decide +kernel
theorem s_u : ∀ n, n < 32 → (((nI n).toUInt32 &&& Int32.toUInt32 31).toBitVec % 32).toNat = n := by decide +kernel
theorem b_shl (n : Nat) (hn : n < 32) (x : Int32) {i : Nat} (hi : i < 32) : bt (x <<< (nI n &&& 31)) i = (decide (n ≤ i) && bt x (i - n)) := by
  unfold bt
  rw [Int32.toBitVec_shiftLeft]
  show (x.toBitVec <<< ((nI n &&& 31).toBitVec.smod 32).toNat).getLsbD i = _
  rw [s_l n hn, BitVec.getLsbD_shiftLeft]
  rcases Nat.lt_or_ge i n with h | h
  · simp [h, Nat.not_le.mpr h]
  · simp [hi, h, Nat.not_lt.mpr h]
theorem b_ushr (n : Nat) (hn : n < 32) (x : Int32) (i : Nat) : bt ((x.toUInt32 >>> ((nI n).toUInt32 &&& Int32.toUInt32 31)).toInt32) i = bt x (n + i) := by
  show (x.toUInt32 >>> ((nI n).toUInt32 &&& Int32.toUInt32 31)).toBitVec.getLsbD i = x.toUInt32.toBitVec.getLsbD (n + i)
  rw [UInt32.toBitVec_shiftRight]
  show (x.toUInt32.toBitVec >>> (((nI n).toUInt32 &&& Int32.toUInt32 31).toBitVec % 32).toNat).getLsbD i = _
  rw [s_u n hn, BitVec.getLsbD_ushiftRight]
theorem b_sshr (n : Nat) (hn : n < 32) (x : Int32) {i : Nat} (hi : i < 32) : bt (x >>> (nI n &&& 31)) i = if n + i < 32 then bt x (n + i) else bt x 31 := by
  unfold bt
  rw [Int32.toBitVec_shiftRight]
  show (x.toBitVec.sshiftRight ((nI n &&& 31).toBitVec.smod 32).toNat).getLsbD i = _
  rw [s_l n hn, BitVec.getLsbD_sshiftRight, BitVec.msb_eq_getLsbD_last]
  simp [hi]
theorem bt_1 : ∀ q, q < 32 → bt 1 q = decide (q = 0) := by decide +kernel
theorem bt_one {m p : Nat} (hm : m < 32) (hp : p < 32) : bt ((1 : Int32) <<< (nI m &&& 31)) p = decide (p = m) := by
  rw [b_shl m hm 1 hp]
  by_cases h : m ≤ p
  · rw [bt_1 (p - m) (by omega)]
    by_cases e : p = m
    · subst e; simp
    · have e2 : ¬ p - m = 0 := by omega
      simp [e, e2]
  · have e : ¬ p = m := by omega
    simp [h, e]
theorem wbit_bt (w : Nat → Int32) (i : Nat) : wbit w i = bt (w (i / 32)) (i % 32) := rfl
theorem set_eq (F : Nat) (w : Nat → Int32) {n nw j : Nat} (c : Bool) (hn : n < 2 ^ 30) (h : j < n) (hw : n ≤ 32 * nw) (hw2 : nw < 2 ^ 31) : ∃ w', fn_X0_set F (nI n) nw w (nI j) (b01 c) = some w' ∧ ∀ i, wbit w' i = if i = j then c else wbit w i := by
  have e5 : nI j >>> ((5 : Int32) &&& 31) = nI (j / 32) := pk_shrN (by omega) _ 5 (by decide)
  have e31 : nI j &&& (31 : Int32) = nI (j % 32) := pk_andN (by omega) 5 (by decide)
  have hj : j / 32 < nw := by omega
  have hm : j % 32 < 32 := Nat.mod_lt _ (by decide)
  have key : ∀ W : Int32, (∀ p, p < 32 → bt W p = if p = j % 32 then c else bt (w (j / 32)) p) → ∀ i, wbit (upd w (j / 32) W) i = if i = j then c else wbit w i := by
    intro W hW i
    rw [wbit_bt, wbit_bt]
    by_cases e : i / 32 = j / 32
    · rw [e, pk_us, hW _ (Nat.mod_lt _ (by decide))]
      by_cases e2 : i % 32 = j % 32
      · rw [if_pos e2, if_pos (by omega)]
      · rw [if_neg e2, if_neg (fun z => e2 (by rw [z]))]
    · rw [pk_un e, if_neg (fun z => e (by rw [z]))]
  cases c with
  | true =>
    refine ⟨upd w (j / 32) (w (j / 32) ||| ((1 : Int32) <<< (nI (j % 32) &&& 31))), ?_, key _ (fun p hp => ?_)⟩
    · unfold fn_X0_set bf_X0_set_0 bf_X0_set_57
      rw [if_neg (nI_pos (by omega)), if_pos (nI_lt h (by omega)), if_pos (show b01 true = 1 from rfl), e5, e31, if_neg (nI_in hj (by omega)), if_neg (nI_in hj (by omega)), nI_clamp (by omega)]
    · rw [b_or, bt_one hm hp]
      by_cases e : p = j % 32 <;> simp [e]
  | false =>
    refine ⟨upd w (j / 32) (w (j / 32) &&& (((1 : Int32) <<< (nI (j % 32) &&& 31)) ^^^ (-1 : Int32))), ?_, key _ (fun p hp => ?_)⟩
    · unfold fn_X0_set bf_X0_set_0 bf_X0_set_57
      rw [if_neg (nI_pos (by omega)), if_pos (nI_lt h (by omega)), if_neg (show ¬ b01 false = 1 from by decide), e5, e31, if_neg (nI_in hj (by omega)), if_neg (nI_in hj (by omega)), nI_clamp (by omega)]
    · rw [b_and, b_xor, b_m1 p hp, bt_one hm hp]
      by_cases e : p = j % 32 <;> simp [e]
theorem add_eq (F : Nat) (w : Nat → Int32) {N n nw : Nat} (ov : Int32) (c : Bool) (hN : N < 2 ^ 30) (h : n < N) (hw : N ≤ 32 * nw) (hw2 : nw < 2 ^ 31) : ∃ w', fn_X0_add F (nI N) nw (nI n) ov w (b01 c) = some (nI (n + 1), ov, w') ∧ ∀ i, wbit w' i = if i = n then c else wbit w i := by
  obtain ⟨w', h1, h2⟩ := set_eq F w (n := n + 1) (nw := nw) (j := n) c (by omega) (by omega) (by omega) hw2
  refine ⟨w', ?_, h2⟩
  unfold fn_X0_add bf_X0_add_0
  rw [if_pos (nI_lt h (by omega)), show nI n + (1 : Int32) = nI (n + 1) from nI_add n 1, nI_pred, h1, bs]
/-- the counter of a loop that goes down, with d rounds left -/
def xm (d : Nat) : Int32 := nI d - 1
theorem xm_0 : xm 0 < 0 := by decide
theorem xm_s (d : Nat) : xm (d + 1) = nI d := nI_pred d
theorem xm_m (d : Nat) : nI d + (-1 : Int32) = xm d := by
  unfold xm
  rw [Int32.sub_eq_add_neg]
theorem addNumber_loop (F : Nat) {N nw : Nat} (v ov : Int32) (hN : N < 2 ^ 30) (hw : N ≤ 32 * nw) (hw2 : nw < 2 ^ 31) : ∀ (d k n : Nat) (w : Nat → Int32), d < k → d ≤ 32 → n + d ≤ N → ∃ w', lf_X0_addNumber_4 F (nI N) nw k v (xm d) (nI n) ov w = some (nI (n + d), ov, w') ∧ (∀ i, i < n → wbit w' i = wbit w i) ∧ (∀ i, i < d → wbit w' (n + i) = bt v (d - 1 - i)) := by
  intro d
  induction d with
  | zero =>
    intro k n w hk h32 hn
    obtain ⟨k, rfl⟩ : ∃ q, k = q + 1 := ⟨k - 1, by omega⟩
    refine ⟨w, ?_, fun _ _ => rfl, fun i hi => by omega⟩
    show bf_X0_addNumber_4 F (nI N) nw (fun x1 x3 a b c => lf_X0_addNumber_4 F (nI N) nw k x1 x3 a b c) v (xm 0) (nI n) ov w = _
    unfold bf_X0_addNumber_4
    rw [if_pos xm_0]; rfl
  | succ d ih =>
    intro k n w hk h32 hn
    obtain ⟨k, rfl⟩ : ∃ q, k = q + 1 := ⟨k - 1, by omega⟩
    obtain ⟨w1, a1, a2⟩ := add_eq F w (N := N) (n := n) (nw := nw) ov (bt v d) hN (by omega) hw hw2
    obtain ⟨w2, b1, b2, b3⟩ := ih k (n + 1) w1 (by omega) (by omega) (by omega)
    refine ⟨w2, ?_, fun i hi => ?_, fun i hi => ?_⟩
    · show bf_X0_addNumber_4 F (nI N) nw (fun x1 x3 a b c => lf_X0_addNumber_4 F (nI N) nw k x1 x3 a b c) v (xm (d + 1)) (nI n) ov w = _
      unfold bf_X0_addNumber_4
      rw [xm_s, if_neg (nI_pos (by omega)), wb_1 v (k := d) (by omega), show b01 (v.toBitVec.getLsbD d) = b01 (bt v d) from rfl, a1, bs, xm_m, show n + (d + 1) = n + 1 + d by omega]
      exact b1
    · rw [b2 i (by omega), a2, if_neg (by omega)]
    · cases i with
      | zero => rw [Nat.add_zero, b2 n (by omega), a2, if_pos rfl, show d + 1 - 1 - 0 = d by omega]
      | succ i =>
        rw [show n + (i + 1) = n + 1 + i by omega, b3 i (by omega), show d + 1 - 1 - (i + 1) = d - 1 - i by omega]
theorem sh_1 (v : Int32) {d : Nat} (hd : d < 32) : ((v >>> (nI d &&& 31)) &&& (1 : Int32)) = b01 (bt v d) := by
  rw [pk_and _ (m := 1) 1 (by decide)]
  have e0 : bt (v >>> (nI d &&& 31)) 0 = bt v d := by rw [b_sshr d hd v (by decide), if_pos (by omega), Nat.add_zero]
  have e : bt (v >>> (nI d &&& 31)) 0 = decide ((v >>> (nI d &&& 31)).toBitVec.toNat % 2 = 1) := by
    show (v >>> (nI d &&& 31)).toBitVec.toNat.testBit 0 = _
    rw [Nat.testBit_zero]
  rw [← e0, e]
  unfold b01
  show nI ((v >>> (nI d &&& 31)).toBitVec.toNat % 2) = _
  have hq : (v >>> (nI d &&& 31)).toBitVec.toNat % 2 < 2 := Nat.mod_lt _ (by decide)
  generalize (v >>> (nI d &&& 31)).toBitVec.toNat % 2 = q at hq ⊢
  rcases (show q = 0 ∨ q = 1 by omega) with rfl | rfl <;> rfl
theorem nar_b : ∀ c : Bool, vp_nar .boolean (b01 c) = b01 c := by decide +kernel
theorem lay_loop (F : Nat) {N : Nat} (v : Int32) (hN : N < 2 ^ 30) : ∀ (d k n : Nat) (f : Nat → Int32), d < k → d ≤ 32 → n + d ≤ N → ∃ f', lf_X12_lay_4 F N k v (xm d) (nI n) f = some (nI (n + d), f') ∧ (∀ i, i < n → f' i = f i) ∧ (∀ i, i < d → f' (n + i) = b01 (bt v (d - 1 - i))) := by
  intro d
  induction d with
  | zero =>
    intro k n f hk h32 hn
    obtain ⟨k, rfl⟩ : ∃ q, k = q + 1 := ⟨k - 1, by omega⟩
    refine ⟨f, ?_, fun _ _ => rfl, fun i hi => by omega⟩
    show bf_X12_lay_4 F N (fun x1 x3 a b => lf_X12_lay_4 F N k x1 x3 a b) v (xm 0) (nI n) f = _
    unfold bf_X12_lay_4
    rw [if_pos xm_0]; rfl
  | succ d ih =>
    intro k n f hk h32 hn
    obtain ⟨k, rfl⟩ : ∃ q, k = q + 1 := ⟨k - 1, by omega⟩
    obtain ⟨f2, b1, b2, b3⟩ := ih k (n + 1) (upd f n (b01 (bt v d))) (by omega) (by omega) (by omega)
    refine ⟨f2, ?_, fun i hi => ?_, fun i hi => ?_⟩
    · show bf_X12_lay_4 F N (fun x1 x3 a b => lf_X12_lay_4 F N k x1 x3 a b) v (xm (d + 1)) (nI n) f = _
      unfold bf_X12_lay_4 bf_X12_lay_30
      rw [xm_s, if_neg (nI_pos (by omega)), sh_1 v (by omega)]
      have e1 : nI n + (1 : Int32) = nI (n + 1) := nI_add n 1
      cases hb : bt v d with
      | true =>
        rw [hb] at b1
        rw [if_pos (show b01 true = 1 from rfl), if_neg (nI_in (by omega) (by omega)), nI_clamp (by omega), xm_m, e1, show vp_nar .boolean (1 : Int32) = b01 true from nar_b true, show n + (d + 1) = n + 1 + d by omega]
        exact b1
      | false =>
        rw [hb] at b1
        rw [if_neg (show ¬ b01 false = 1 from by decide), if_neg (nI_in (by omega) (by omega)), nI_clamp (by omega), xm_m, e1, show vp_nar .boolean (0 : Int32) = b01 false from nar_b false, show n + (d + 1) = n + 1 + d by omega]
        exact b1
    · rw [b2 i (by omega)]; exact pk_un (by omega)
    · cases i with
      | zero => rw [Nat.add_zero, b2 n (by omega), pk_us, show d + 1 - 1 - 0 = d by omega]
      | succ i =>
        rw [show n + (i + 1) = n + 1 + i by omega, b3 i (by omega), show d + 1 - 1 - (i + 1) = d - 1 - i by omega]
theorem sim_turn : Sim_turn FU Inv := by
  intro ci cn ca mi mn ma x hI
  obtain ⟨S, K, T, t, len, nb, no, nk, hC, hM, hT, hLn, hB, hO, hKy, hP⟩ := id hI
  obtain ⟨⟨h1, h2, h3⟩, h4⟩ := id hB
  have c90 : cn 90 = 188 := hC.2.2.2.2.2.2.2.2.2.2.1.2.1
  have m19 : mn 19 = 6000 := hM.2.1.2.2.2.1
  have ge : gX_turn FU ci cn ca x = (if x < 0 then some ((-1 : Int32), ca 91) else (if x < ci 88 then ((fn_X0_get FU (ci 88) (cn 90) (ca 91) x).bind fun v28 => ((fn_X0_set FU (ci 88) (cn 90) (ca 91) x ((1 : Int32) - v28)).bind fun v32 => ((fn_X0_get FU (ci 88) (cn 90) v32 x).bind fun v40 => some (v40, v32)))) else some ((-1 : Int32), ca 91))) := rfl
  have gm : gM_turn FU mi mn ma x = (fn_X12_within FU x (0 : Int32) (mi 5 - (1 : Int32))).bind fun v8 => (if v8 = 0 then some ((-1 : Int32), ma 20) else (if x < 0 ∨ mn 19 ≤ x.toNatClampNeg then none else (if ma 20 x.toNatClampNeg = 0 then bf_X12_turn_35 FU (mi 5) (mn 19) x (1 : Int32) x (ma 20) else bf_X12_turn_35 FU (mi 5) (mn 19) x (0 : Int32) x (ma 20)))) := rfl
  have same : ∀ v : Int32, Inv (uXi_turn (v, ca 91) ci) (uXn_turn (v, ca 91) cn) (uXa_turn (v, ca 91) ca) (uMi_turn (v, ma 20) mi) (uMn_turn (v, ma 20) mn) (uMa_turn (v, ma 20) ma) := fun v => ⟨S, K, T, t, len, nb, no, nk, hC, hM, hT, hLn, hB, hO, hKy, hP⟩
  rw [h3] at gm
  rcases pk_ix x (n := nb) (by omega) with h | h | ⟨j, hj, rfl⟩
  · rw [if_pos h] at ge
    rw [wi_out _ (by omega) (Or.inl h), bs, if_pos rfl] at gm
    exact ⟨_, _, ge, gm, rfl, same _⟩
  · by_cases hn : x < 0
    · rw [if_pos hn] at ge
      rw [wi_out _ (by omega) (Or.inl hn), bs, if_pos rfl] at gm
      exact ⟨_, _, ge, gm, rfl, same _⟩
    · rw [if_neg hn, if_neg (by rw [h2]; exact fun z => absurd (Int32.le_iff_toInt_le.mp h) (Int.not_le.mpr (Int32.lt_iff_toInt_lt.mp z)))] at ge
      rw [wi_out _ (by omega) (Or.inr h), bs, if_pos rfl] at gm
      exact ⟨_, _, ge, gm, rfl, same _⟩
  · have e1 : ∀ b : Bool, (1 : Int32) - b01 b = b01 (!b) := by decide
    obtain ⟨w', s1, s2⟩ := set_eq FU (ca 91) (n := nb) (nw := 188) (j := j) (!(wbit (ca 91) j)) (by omega) hj (by omega) (by omega)
    rw [if_neg (nI_pos (by omega)), if_pos (by rw [h2]; exact nI_lt hj (by omega)), h2, c90, get_in _ _ (by omega) hj (by omega) (by omega), bs, e1, s1, bs, get_in _ _ (by omega) hj (by omega) (by omega), bs, s2 j, if_pos rfl] at ge
    rw [wi_in _ (by omega) hj, bs, if_neg (by decide), m19, if_neg (nI_in (by omega) (by omega)), nI_clamp (by omega), h4 j hj] at gm
    have g35 : ∀ b : Bool, bf_X12_turn_35 FU (nI nb) 6000 (nI j) (b01 b) (nI j) (ma 20) = some (b01 b, upd (ma 20) j (b01 b)) := by
      intro b
      unfold bf_X12_turn_35
      rw [if_neg (nI_in (by omega) (by omega)), if_neg (nI_in (by omega) (by omega)), nI_clamp (by omega), nar_b, pk_us]
      cases b
      · rw [if_pos (show b01 false = 0 from rfl)]; rfl
      · rw [if_neg (show ¬ b01 true = 0 from by decide)]; rfl
    have gm2 : gM_turn FU mi mn ma (nI j) = some (b01 (!(wbit (ca 91) j)), upd (ma 20) j (b01 (!(wbit (ca 91) j)))) := by
      rw [gm]
      cases hb : wbit (ca 91) j
      · rw [if_pos (show b01 false = 0 from rfl), show (1 : Int32) = b01 true from rfl, g35]; rfl
      · rw [if_neg (show ¬ b01 true = 0 from by decide), show (0 : Int32) = b01 false from rfl, g35]; rfl
    refine ⟨_, _, ge, gm2, rfl, ⟨S, K, T, t, len, nb, no, nk, hC, hM, hT, hLn, ⟨⟨h1, h2, h3⟩, fun i hi => ?_⟩, hO, hKy, hP⟩⟩
    show upd (ma 20) j (b01 (!(wbit (ca 91) j))) i = b01 (wbit w' i)
    rw [s2 i]
    by_cases e : i = j
    · subst e; rw [pk_us, if_pos rfl]
    · rw [pk_un e, if_neg e, h4 i hi]
theorem sim_push : Sim_push FU Inv := by
  intro ci cn ca mi mn ma v y hI
  obtain ⟨S, K, T, t, len, nb, no, nk, hC, hM, hT, hLn, hB, hO, hKy, hP⟩ := id hI
  obtain ⟨⟨h1, h2, h3⟩, h4⟩ := id hB
  have c87 : ci 87 = nI 6000 := hC.2.2.2.2.2.2.2.2.2.2.1.1
  have c90 : cn 90 = 188 := hC.2.2.2.2.2.2.2.2.2.2.1.2.1
  have m19 : mn 19 = 6000 := hM.2.1.2.2.2.1
  have ge : gX_push FU ci cn ca v y = (if y < (1 : Int32) then some ((-1 : Int32), ci 88, ci 89, ca 91) else (if y ≤ (32 : Int32) then (if (ci 88 + y) ≤ (6000 : Int32) then ((fn_X0_addNumber FU (ci 87) (cn 90) (ci 88) (ci 89) (ca 91) v y).bind fun v37 => some (v37.1, v37.1, v37.2.1, v37.2.2)) else some ((-2 : Int32), ci 88, ci 89, ca 91)) else some ((-1 : Int32), ci 88, ci 89, ca 91))) := rfl
  have gm : gM_push FU mi mn ma v y = (fn_X12_within FU y (1 : Int32) (32 : Int32)).bind fun v4 => (if v4 = 0 then some ((-1 : Int32), mi 5, ma 20) else (if (mi 5 + y) ≤ (6000 : Int32) then ((fn_X12_lay FU (mn 19) (mi 5) (ma 20) v y).bind fun v30 => some (v30.1, v30.1, v30.2)) else some ((-2 : Int32), mi 5, ma 20))) := rfl
  have gw : fn_X12_within FU y 1 32 = (if y < (1 : Int32) then some (0 : Int32) else (if (32 : Int32) < y then some (0 : Int32) else some (1 : Int32))) := rfl
  have same : ∀ q : Int32, Inv (uXi_push (q, ci 88, ci 89, ca 91) ci) (uXn_push (q, ci 88, ci 89, ca 91) cn) (uXa_push (q, ci 88, ci 89, ca 91) ca) (uMi_push (q, mi 5, ma 20) mi) (uMn_push (q, mi 5, ma 20) mn) (uMa_push (q, mi 5, ma 20) ma) := fun q => ⟨S, K, T, t, len, nb, no, nk, hC, hM, hT, hLn, hB, hO, hKy, hP⟩
  rw [gw] at gm
  by_cases y1 : y < (1 : Int32)
  · rw [if_pos y1] at ge
    rw [if_pos y1, bs, if_pos rfl] at gm
    exact ⟨_, _, ge, gm, rfl, same _⟩
  rw [if_neg y1] at ge gm
  have z1 : (1 : Int32).toInt ≤ y.toInt := Int.not_lt.mp (fun z => y1 (Int32.lt_iff_toInt_lt.mpr z))
  have z2 : (1 : Int32).toInt = 1 := by decide
  have z3 : (32 : Int32).toInt = 32 := by decide
  by_cases y32 : y ≤ (32 : Int32)
  · have z4 : y.toInt ≤ (32 : Int32).toInt := Int32.le_iff_toInt_le.mp y32
    have hy0 : ¬ y < 0 := fun z => by
      have z5 : y.toInt < (0 : Int32).toInt := Int32.lt_iff_toInt_lt.mp z
      have z6 : (0 : Int32).toInt = 0 := by decide
      omega
    obtain ⟨d, hd, rfl⟩ := nI_of hy0
    have hdi : (nI d).toInt = (d : Int) := nI_toInt hd
    have hd1 : 1 ≤ d ∧ d ≤ 32 := by omega
    rw [if_pos y32] at ge
    rw [if_neg (fun z => by have z5 := Int32.lt_iff_toInt_lt.mp z; omega), bs, if_neg (by decide)] at gm
    rw [h2, nI_add] at ge
    rw [h3, nI_add] at gm
    by_cases hs : nb + d ≤ 6000
    · obtain ⟨w', a1, a2, a3⟩ := addNumber_loop FU (N := 6000) (nw := 188) v (ci 89) (by decide) (by decide) (by decide) d FU nb (ca 91) (by unfold FU; omega) (by omega) hs
      obtain ⟨f', b1, b2, b3⟩ := lay_loop FU (N := 6000) v (by decide) d FU nb (ma 20) (by unfold FU; omega) (by omega) hs
      have a0 : fn_X0_addNumber FU (nI 6000) 188 (nI nb) (ci 89) (ca 91) v (nI d) = some (nI (nb + d), ci 89, w') := a1
      have b0 : fn_X12_lay FU 6000 (nI nb) (ma 20) v (nI d) = some (nI (nb + d), f') := b1
      rw [if_pos (show nI (nb + d) ≤ (6000 : Int32) from nI_le (b := 6000) hs (by decide)), c87, c90, a0, bs] at ge
      rw [if_pos (show nI (nb + d) ≤ (6000 : Int32) from nI_le (b := 6000) hs (by decide)), m19, b0, bs] at gm
      refine ⟨_, _, ge, gm, rfl, ⟨S, K, T, t, len, nb + d, no, nk, hC, hM, hT, hLn, ⟨⟨hs, rfl, rfl⟩, fun i hi => ?_⟩, hO, hKy, hP⟩⟩
      show f' i = b01 (wbit w' i)
      by_cases e : i < nb
      · rw [b2 i e, a2 i e, h4 i e]
      · obtain ⟨q, rfl⟩ : ∃ q, i = nb + q := ⟨i - nb, by omega⟩
        rw [b3 q (by omega), a3 q (by omega)]
    · rw [if_neg (show ¬ nI (nb + d) ≤ (6000 : Int32) from nI_ge (a := 6000) (by omega) (by omega))] at ge gm
      exact ⟨_, _, ge, gm, rfl, ⟨S, K, T, t, len, nb, no, nk, hC, hM, hT, hLn, ⟨⟨h1, rfl, rfl⟩, h4⟩, hO, hKy, hP⟩⟩
  · rw [if_neg y32] at ge
    rw [if_pos (Int32.lt_iff_toInt_lt.mpr (Int.not_le.mp (fun z => y32 (Int32.le_iff_toInt_le.mpr z)))), bs, if_pos rfl] at gm
    exact ⟨_, _, ge, gm, rfl, same _⟩
