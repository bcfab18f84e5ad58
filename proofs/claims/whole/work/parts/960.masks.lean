/-! key: sets of nodes as masks; the search. -/
theorem pigeon : ∀ (m n : Nat) (f : Nat → Nat), (∀ i, i < n → f i < m) → (∀ i j, i < n → j < n → f i = f j → i = j) → n ≤ m := by
  intro m
  induction m with
  | zero =>
    intro n f h1 h2
    rcases Nat.eq_zero_or_pos n with q | q
    · omega
    · have := h1 0 q; omega
  | succ m ih =>
    intro n f h1 h2
    rcases Nat.eq_zero_or_pos n with q | q
    · omega
    · have := ih (n - 1) (fun i => if f i = m then f (n - 1) else f i) (fun i hi => by
        by_cases e : f i = m
        · simp only [e, if_true]
          have a := h1 (n - 1) (by omega)
          have b : f (n - 1) ≠ m := fun z => by
            have := h2 i (n - 1) (by omega) (by omega) (by rw [e, z])
            omega
          omega
        · simp only [e, if_false]
          have := h1 i (by omega)
          omega) (fun i j hi hj e => by
        by_cases ei : f i = m
        · by_cases ej : f j = m
          · exact h2 i j (by omega) (by omega) (by rw [ei, ej])
          · simp only [ei, ej, if_true, if_false] at e
            have := h2 (n - 1) j (by omega) (by omega) e
            omega
        · by_cases ej : f j = m
          · simp only [ei, ej, if_true, if_false] at e
            have := h2 i (n - 1) (by omega) (by omega) e
            omega
          · simp only [ei, ej, if_false] at e
            exact h2 i j (by omega) (by omega) e)
      omega
theorem nI_or (a b : Nat) : nI a ||| nI b = nI (a ||| b) := by
  apply Int32.toBitVec_inj.mp
  rw [Int32.toBitVec_or]
  exact BitVec.ofNat_or.symm
/-- where the nodes of A among the first n lead -/
def om (T : Nat → Nat) (A : Nat) : Nat → Nat
  | 0 => 0
  | n + 1 => om T A n ||| (if A.testBit n then 2 ^ T n else 0)
theorem om_bit (T : Nat → Nat) (A u : Nat) : ∀ n, (om T A n).testBit u = true ↔ ∃ v, v < n ∧ A.testBit v = true ∧ T v = u
  | 0 => by
    constructor
    · intro h; simp [om] at h
    · rintro ⟨v, h, _⟩; omega
  | n + 1 => by
    unfold om
    rw [Nat.testBit_or, Bool.or_eq_true, om_bit T A u n]
    constructor
    · rintro (⟨v, h1, h2⟩ | h)
      · exact ⟨v, by omega, h2⟩
      · by_cases e : A.testBit n = true
        · rw [if_pos e, Nat.testBit_two_pow] at h
          exact ⟨n, by omega, e, of_decide_eq_true h⟩
        · rw [if_neg e] at h; simp at h
    · rintro ⟨v, h1, h2, h3⟩
      by_cases e : v = n
      · subst e
        right
        rw [if_pos h2, Nat.testBit_two_pow, h3]
        simp
      · exact Or.inl ⟨v, by omega, h2, h3⟩
theorem om_lt {T : Nat → Nat} {A N : Nat} : ∀ n, (∀ v, v < n → T v < N) → om T A n < 2 ^ N
  | 0, _ => Nat.pow_pos (by decide)
  | n + 1, h => by
    unfold om
    refine Nat.or_lt_two_pow (om_lt n (fun v hv => h v (by omega))) ?_
    split
    · exact Nat.pow_lt_pow_right (by decide) (h n (by omega))
    · exact Nat.pow_pos (by decide)
theorem bit_1 {A v : Nat} (hA : A < 2 ^ 31) (hv : v < 32) : ((nI A >>> (nI v &&& 31)) &&& (1 : Int32) = 1) ↔ A.testBit v = true := by
  rw [bit_eq hA hv, Nat.testBit_eq_decide_div_mod_eq, decide_eq_true_iff]
  exact nI_eq (b := 1) (by have := Nat.mod_lt (A / 2 ^ v) (show 0 < 2 by decide); omega) (by decide)
theorem shl_1 {t : Nat} (h : t < 31) : (1 : Int32) <<< (nI t &&& 31) = nI (2 ^ t) := by
  have hp : 2 ^ t < 2 ^ 31 := Nat.pow_lt_pow_right (by decide) h
  have := pk_shlN (n := 1) (nI t &&& 31) t (s_l t (by omega)) (by omega)
  rw [Nat.one_mul] at this
  exact this
theorem move_loop (F : Nat) {R N A b : Nat} {below : Nat → Int32} {T : Nat → Nat} (hN : N ≤ 10) (hA : A < 2 ^ 31) (hb : b < 2) (hR : 2 * N ≤ R) (hR2 : R < 2 ^ 31) (hT : ∀ v, v < N → T v < N ∧ (if below (2 * v + b) < (0 : Int32) then (0 : Int32) else below (2 * v + b)) = nI (T v)) : ∀ (d v k : Nat), v + d = N → d < k → lf_X2_move_5 F (nI N) R below k (nI A) (nI b) (nI (om T A v)) (nI v) = some (nI (om T A N)) := by
  intro d
  induction d with
  | zero =>
    intro v k hv hk
    obtain ⟨k, rfl⟩ : ∃ q, k = q + 1 := ⟨k - 1, by omega⟩
    show bf_X2_move_5 F (nI N) R below (fun a b c d => lf_X2_move_5 F (nI N) R below k a b c d) (nI A) (nI b) (nI (om T A v)) (nI v) = _
    unfold bf_X2_move_5
    rw [if_pos (nI_le (by omega) (by omega)), show v = N by omega]
  | succ d ih =>
    intro v k hv hk
    obtain ⟨k, rfl⟩ : ∃ q, k = q + 1 := ⟨k - 1, by omega⟩
    obtain ⟨t1, t2⟩ := hT v (by omega)
    have hh := ih (v + 1) k (by omega) (by omega)
    have st : fn_X10_step F R below (nI v) (nI b) = some (below (2 * v + b)) := by
      unfold fn_X10_step bf_X10_step_0
      rw [show (2 : Int32) * nI v + nI b = nI (2 * v + b) by rw [show (2 : Int32) = nI 2 from rfl, pk_mul, nI_add], if_neg (nI_pos (by omega)), if_neg (nI_ge (by omega) (by omega)), if_neg (nI_in (by omega) (by omega)), nI_clamp (by omega)]
    show bf_X2_move_5 F (nI N) R below (fun a b c d => lf_X2_move_5 F (nI N) R below k a b c d) (nI A) (nI b) (nI (om T A v)) (nI v) = _
    unfold bf_X2_move_5
    rw [if_neg (nI_ge (by omega) (by omega)), st, bs, t2, shl_1 (by omega), nI_or, show nI v + (1 : Int32) = nI (v + 1) from nI_add v 1]
    by_cases e : A.testBit v = true
    · rw [if_pos ((bit_1 hA (by omega)).mpr e)]
      rw [show om T A (v + 1) = om T A v ||| 2 ^ T v by show om T A v ||| _ = _; rw [if_pos e]] at hh
      exact hh
    · rw [if_neg (fun z => e ((bit_1 hA (by omega)).mp z))]
      rw [show om T A (v + 1) = om T A v by show om T A v ||| _ = _; rw [if_neg e, Nat.or_zero]] at hh
      exact hh
theorem stepM_loop (F : Nat) {M B b : Nat} {leads : Nat → Int32} {T : Nat → Nat} (hM : M ≤ 10) (hB : B < 2 ^ 31) (hb : b < 2) (hT : ∀ v, v < M → T v < M ∧ leads (2 * v + b) = nI (T v)) : ∀ (d v k : Nat), v + d = M → d < k → lf_X12_step_5 F (nI M) 32 leads k (nI B) (nI b) (nI (om T B v)) (nI v) = some (nI (om T B M)) := by
  intro d
  induction d with
  | zero =>
    intro v k hv hk
    obtain ⟨k, rfl⟩ : ∃ q, k = q + 1 := ⟨k - 1, by omega⟩
    show bf_X12_step_5 F (nI M) 32 leads (fun a b c d => lf_X12_step_5 F (nI M) 32 leads k a b c d) (nI B) (nI b) (nI (om T B v)) (nI v) = _
    unfold bf_X12_step_5
    rw [if_pos (nI_le (by omega) (by omega)), show v = M by omega]
  | succ d ih =>
    intro v k hv hk
    obtain ⟨k, rfl⟩ : ∃ q, k = q + 1 := ⟨k - 1, by omega⟩
    obtain ⟨t1, t2⟩ := hT v (by omega)
    have hh := ih (v + 1) k (by omega) (by omega)
    show bf_X12_step_5 F (nI M) 32 leads (fun a b c d => lf_X12_step_5 F (nI M) 32 leads k a b c d) (nI B) (nI b) (nI (om T B v)) (nI v) = _
    unfold bf_X12_step_5
    rw [if_neg (nI_ge (by omega) (by omega)), show (2 : Int32) * nI v + nI b = nI (2 * v + b) by rw [show (2 : Int32) = nI 2 from rfl, pk_mul, nI_add], if_neg (nI_in (by omega) (by omega)), nI_clamp (by omega), t2, shl_1 (by omega), nI_or, show nI v + (1 : Int32) = nI (v + 1) from nI_add v 1, show nI (om T B v) ||| (0 : Int32) = nI (om T B v ||| 0) from nI_or _ 0, Nat.or_zero]
    by_cases e : B.testBit v = true
    · rw [if_pos ((bit_1 hB (by omega)).mpr e)]
      rw [show om T B (v + 1) = om T B v ||| 2 ^ T v by show om T B v ||| _ = _; rw [if_pos e]] at hh
      exact hh
    · rw [if_neg (fun z => e ((bit_1 hB (by omega)).mp z))]
      rw [show om T B (v + 1) = om T B v by show om T B v ||| _ = _; rw [if_neg e, Nat.or_zero]] at hh
      exact hh
/-- two masks name the same nodes, the reference's numbers renamed by ph -/
def Rl (M : Nat) (ph : Nat → Nat) (A B : Nat) : Prop := ∀ k, k < M → B.testBit k = A.testBit (ph k)
/-- ph renames the first M numbers to the first N -/
def Bij (M N : Nat) (ph : Nat → Nat) : Prop := (∀ k, k < M → ph k < N) ∧ (∀ k l, k < M → l < M → ph k = ph l → k = l) ∧ ∀ v, v < N → ∃ k, k < M ∧ ph k = v
theorem Rl.uniq {M N A B A' B' : Nat} {ph : Nat → Nat} (hp : Bij M N ph) (hA : A < 2 ^ N) (hA' : A' < 2 ^ N) (hB : B < 2 ^ M) (hB' : B' < 2 ^ M) (h : Rl M ph A B) (h' : Rl M ph A' B') : A = A' ↔ B = B' := by
  constructor
  · intro e
    subst e
    refine Nat.eq_of_testBit_eq fun k => ?_
    by_cases q : k < M
    · rw [h k q, h' k q]
    · rw [Nat.testBit_lt_two_pow (Nat.lt_of_lt_of_le hB (Nat.pow_le_pow_right (by decide) (by omega))), Nat.testBit_lt_two_pow (Nat.lt_of_lt_of_le hB' (Nat.pow_le_pow_right (by decide) (by omega)))]
  · intro e
    subst e
    refine Nat.eq_of_testBit_eq fun v => ?_
    by_cases q : v < N
    · obtain ⟨k, k1, rfl⟩ := hp.2.2 v q
      rw [← h k k1, ← h' k k1]
    · rw [Nat.testBit_lt_two_pow (Nat.lt_of_lt_of_le hA (Nat.pow_le_pow_right (by decide) (by omega))), Nat.testBit_lt_two_pow (Nat.lt_of_lt_of_le hA' (Nat.pow_le_pow_right (by decide) (by omega)))]
theorem Rl.om {M N A B : Nat} {ph T T' : Nat → Nat} (hp : Bij M N ph) (hT : ∀ k, k < M → T' k < M ∧ ph (T' k) = T (ph k)) (h : Rl M ph A B) : Rl M ph (om T A N) (om T' B M) := by
  intro k hk
  apply Bool.eq_iff_iff.mpr
  rw [om_bit, om_bit]
  constructor
  · rintro ⟨l, l1, l2, l3⟩
    exact ⟨ph l, hp.1 l l1, by rw [← h l l1]; exact l2, by rw [← (hT l l1).2, l3]⟩
  · rintro ⟨v, v1, v2, v3⟩
    obtain ⟨l, l1, rfl⟩ := hp.2.2 v v1
    exact ⟨l, l1, by rw [h l l1]; exact v2, hp.2.1 _ _ (hT l l1).1 hk (by rw [(hT l l1).2, v3])⟩
theorem Rl.all {M N : Nat} {ph : Nat → Nat} (hp : Bij M N ph) : Rl M ph (2 ^ N - 1) (2 ^ M - 1) := fun k hk => by
  rw [Nat.testBit_two_pow_sub_one, Nat.testBit_two_pow_sub_one]
  simp [hk, hp.1 k hk]
theorem Rl.one {M N : Nat} {ph : Nat → Nat} (hp : Bij M N ph) (hM : 0 < M) (h0 : ph 0 = 0) : Rl M ph 1 1 := fun k hk => by
  apply Bool.eq_iff_iff.mpr
  rw [show (1 : Nat) = 2 ^ 0 from rfl, Nat.testBit_two_pow, Nat.testBit_two_pow, decide_eq_true_iff, decide_eq_true_iff]
  constructor
  · intro e; rw [← e, h0]
  · intro e; exact hp.2.1 0 k hM hk (by rw [h0]; exact e)
/-- what the search has found: e sets, the i-th of them reached from the (par i)-th by bit (bb i), (dp i) steps deep -/
def Sr (N M e : Nat) (ph q r par bb dp : Nat → Nat) (CX QX CM CB RM : Nat → Int32) : Prop :=
  (1 ≤ e ∧ e ≤ 1024 ∧ q 0 = 2 ^ N - 1 ∧ r 0 = 2 ^ M - 1 ∧ dp 0 = 0) ∧ (∀ i, i < e → q i < 2 ^ N ∧ r i < 2 ^ M ∧ Rl M ph (q i) (r i) ∧ QX i = nI (q i) ∧ RM i = nI (r i) ∧ dp i ≤ i) ∧ (∀ i j, i < e → j < e → q i = q j → i = j) ∧
  (∀ i, 0 < i → i < e → par i < i ∧ bb i < 2 ∧ dp i = dp (par i) + 1 ∧ CX (q i) = nI (2 * q (par i) + bb i) ∧ CM (r i) = nI (r (par i)) ∧ CB (r i) = nI (bb i)) ∧ (CX (q 0) = -1 ∧ CM (r 0) = -1) ∧
  (∀ A, A < 1024 → (∀ i, i < e → q i ≠ A) → CX A = -1) ∧ (∀ B, B < 1024 → (∀ i, i < e → r i ≠ B) → CM B = -2)
