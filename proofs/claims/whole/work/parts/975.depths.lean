/-! build: depths out of 'above'. -/
section
variable {n : Nat} {par : Nat → Nat}
/-- the depth of a node below the last -/
def dpt (n : Nat) (par : Nat → Nat) (x : Nat) : Nat := dd (2 * n - 2) par (2 * n - 2 + 1) x
theorem dpt_0 : dpt n par (2 * n - 2) = 0 := dd_0
theorem dpt_s (h : Par n par) {x : Nat} (hx : x < 2 * n - 2) : dpt n par x = dpt n par (par x) + 1 := dd_s (fun y hy => ⟨(h.1 y hy).2.1, (h.1 y hy).2.2⟩) hx
theorem dpt_le (h : Par n par) {x : Nat} (hx : x ≤ 2 * n - 2) : dpt n par x + x ≤ 2 * n - 2 := dd_le (fun y hy => ⟨(h.1 y hy).2.1, (h.1 y hy).2.2⟩) (2 * n - 2) x hx (by omega)
theorem depX_loop (F : Nat) {S : Nat} {aX dB : Nat → Int32} (hS : S ≤ 96) (hn : 2 ≤ n) (hnS : n ≤ S) (h : Par n par) (ha : ∀ x, x < 2 * n - 2 → aX x = nI (par x)) : ∀ (y k : Nat) (dA : Nat → Int32), y ≤ 2 * n - 2 → y < k → (∀ x, y ≤ x → x ≤ 2 * n - 2 → dA x = nI (dpt n par x)) →
    ∃ dA' dB', lf_X4_findDepths_20 F (2 * S) aX (2 * S) (nI n) S k (xm y) dA dB = some (dA', dB') ∧ ∀ x, x < n → dB' x = nI (dpt n par x) := by
  intro y
  induction y with
  | zero =>
    intro k dA hy hk hd
    obtain ⟨k, rfl⟩ : ∃ z, k = z + 1 := ⟨k - 1, by omega⟩
    refine ⟨dA, va_cpy dA dB 0 0 n, ?_, fun x hx => ?_⟩
    · show bf_X4_findDepths_20 F (2 * S) aX (2 * S) (nI n) S (fun a b c => lf_X4_findDepths_20 F (2 * S) aX (2 * S) (nI n) S k a b c) (xm 0) dA dB = _
      unfold bf_X4_findDepths_20
      rw [if_pos xm_0, nI_clamp (by omega), if_neg]
      · rfl
      · show ¬ ((0 : Int32) < 0 ∨ (0 : Int32) < 0 ∨ nI n < 0 ∨ 2 * S < 0 + n ∨ S < 0 + n)
        rintro (z | z | z | z | z)
        · exact absurd z (by decide)
        · exact absurd z (by decide)
        · exact nI_pos (by omega) z
        · omega
        · omega
    · rw [pk_cpy_in (by omega) (by omega), show 0 + (x - 0) = x by omega]
      exact hd x (by omega) (by omega)
  | succ y ih =>
    intro k dA hy hk hd
    obtain ⟨k, rfl⟩ : ∃ z, k = z + 1 := ⟨k - 1, by omega⟩
    obtain ⟨p1, p2, p3⟩ := h.1 y (by omega)
    obtain ⟨dA', dB', r1, r2⟩ := ih k (upd dA y (nI (dpt n par y))) (by omega) (by omega) (fun x h1 h2 => by
      by_cases e : x = y
      · subst e; exact pk_us
      · rw [pk_un e]; exact hd x (by omega) h2)
    refine ⟨dA', dB', ?_, r2⟩
    show bf_X4_findDepths_20 F (2 * S) aX (2 * S) (nI n) S (fun a b c => lf_X4_findDepths_20 F (2 * S) aX (2 * S) (nI n) S k a b c) (xm (y + 1)) dA dB = _
    unfold bf_X4_findDepths_20
    rw [xm_s, if_neg (nI_pos (by omega)), nI_clamp (n := y) (by omega), if_neg (gin (by omega) (by omega)), ha y (by omega), nI_clamp (n := par y) (by omega), if_neg (gin (by omega) (by omega)), if_neg (gin (by omega) (by omega)), hd (par y) (by omega) p3, show nI (dpt n par (par y)) + (1 : Int32) = nI (dpt n par y) by rw [dpt_s h (by omega : y < 2 * n - 2)]; exact nI_add _ 1, xm_m]
    exact r1
theorem depX_eq (F : Nat) {S : Nat} {aX : Nat → Int32} (dA dB : Nat → Int32) (hF : 1000 < F) (hS : S ≤ 96) (hn : 2 ≤ n) (hnS : n ≤ S) (h : Par n par) (ha : ∀ x, x < 2 * n - 2 → aX x = nI (par x)) : ∃ dA' dB', fn_X4_findDepths F (2 * S) aX (2 * S) (nI n) S dA dB = some (dA', dB') ∧ ∀ x, x < n → dB' x = nI (dpt n par x) := by
  obtain ⟨dA', dB', r1, r2⟩ := depX_loop F (dB := dB) hS hn hnS h ha (2 * n - 2) F (upd dA (2 * n - 2) 0) (Nat.le_refl _) (by omega) (fun x h1 h2 => by
    obtain rfl : x = 2 * n - 2 := by omega
    rw [pk_us, dpt_0]; rfl)
  refine ⟨dA', dB', ?_, r2⟩
  unfold fn_X4_findDepths bf_X4_findDepths_0
  rw [show (2 : Int32) * nI n = nI (2 * n) by rw [show (2 : Int32) = nI 2 from rfl, pk_mul], show nI (2 * n) - (2 : Int32) = nI (2 * n - 2) from pk_sub (b := 2) (by omega), nI_clamp (by omega), if_neg (gin (by omega) (by omega))]
  exact r1
theorem up_in (F : Nat) {users : Int32} {aM found : Nat → Int32} {rec2 : Int32 → (Nat → Int32) → Option (Nat → Int32)} {i : Nat} (hi : i < n) (hn : n ≤ 96) (h : Par n par) (ha : ∀ x, x < 2 * n - 2 → aM x = nI (par x)) (hr : aM (2 * n - 2) = -1) : ∀ (j y c k : Nat), y ≤ 2 * n - 2 → 2 * n - 2 - y ≤ j → j < k → lf_X12_goUp_19 F users 96 192 aM rec2 k (nI i) (nI c) (aM y) found = rec2 (nI (i + 1)) (upd found i (nI (c + dpt n par y))) := by
  intro j
  induction j with
  | zero =>
    intro y c k h1 h2 hk
    obtain ⟨k, rfl⟩ : ∃ z, k = z + 1 := ⟨k - 1, by omega⟩
    obtain rfl : y = 2 * n - 2 := by omega
    show bf_X12_goUp_19 F users 96 192 aM rec2 (fun a b c d => lf_X12_goUp_19 F users 96 192 aM rec2 k a b c d) (nI i) (nI c) (aM (2 * n - 2)) found = _
    unfold bf_X12_goUp_19
    rw [hr, if_pos rfl, nI_clamp (by omega), if_neg (gin (by omega) (by omega)), dpt_0, show nI i + (1 : Int32) = nI (i + 1) from nI_add i 1]
    rfl
  | succ j ih =>
    intro y c k h1 h2 hk
    obtain ⟨k, rfl⟩ : ∃ z, k = z + 1 := ⟨k - 1, by omega⟩
    by_cases e : y = 2 * n - 2
    · exact ih y c (k + 1) h1 (by omega) (by omega)
    · obtain ⟨p1, p2, p3⟩ := h.1 y (by omega)
      show bf_X12_goUp_19 F users 96 192 aM rec2 (fun a b c d => lf_X12_goUp_19 F users 96 192 aM rec2 k a b c d) (nI i) (nI c) (aM y) found = _
      unfold bf_X12_goUp_19
      rw [ha y (by omega), if_neg (nI_nm1 (by omega)), nI_clamp (by omega), if_neg (gin (by omega) (by omega)), show nI c + (1 : Int32) = nI (c + 1) from nI_add c 1]
      refine (ih (par y) (c + 1) k p3 (by omega) (by omega)).trans ?_
      rw [dpt_s h (by omega : y < 2 * n - 2), show c + (dpt n par (par y) + 1) = c + 1 + dpt n par (par y) by omega]
theorem up_loop (F : Nat) {aM : Nat → Int32} (hF : 1000 < F) (hn2 : 2 ≤ n) (hn : n ≤ 96) (h : Par n par) (ha : ∀ x, x < 2 * n - 2 → aM x = nI (par x)) (hr : aM (2 * n - 2) = -1) : ∀ (d i k : Nat) (found : Nat → Int32), i + d = n → d < k → (∀ x, x < i → found x = nI (dpt n par x)) → ∃ found', lf_X12_goUp_2 F (nI n) 96 192 aM k (nI i) found = some found' ∧ ∀ x, x < n → found' x = nI (dpt n par x) := by
  intro d
  induction d with
  | zero =>
    intro i k found hi hk hf
    obtain ⟨k, rfl⟩ : ∃ z, k = z + 1 := ⟨k - 1, by omega⟩
    refine ⟨found, ?_, fun x hx => hf x (by omega)⟩
    show bf_X12_goUp_2 F (nI n) 96 192 aM (fun a b => lf_X12_goUp_2 F (nI n) 96 192 aM k a b) (nI i) found = _
    unfold bf_X12_goUp_2
    rw [if_pos (nI_le (by omega) (by omega))]
  | succ d ih =>
    intro i k found hi hk hf
    obtain ⟨k, rfl⟩ : ∃ z, k = z + 1 := ⟨k - 1, by omega⟩
    have u := up_in F (users := nI n) (found := found) (rec2 := fun a b => lf_X12_goUp_2 F (nI n) 96 192 aM k a b) (i := i) (by omega) hn h ha hr (2 * n - 2) i 0 F (by omega) (by omega) (by omega)
    obtain ⟨found', r1, r2⟩ := ih (i + 1) k (upd found i (nI (0 + dpt n par i))) (by omega) (by omega) (fun x hx => by
      by_cases e : x = i
      · subst e; rw [pk_us, Nat.zero_add]
      · rw [pk_un e]; exact hf x (by omega))
    refine ⟨found', ?_, r2⟩
    show bf_X12_goUp_2 F (nI n) 96 192 aM (fun a b => lf_X12_goUp_2 F (nI n) 96 192 aM k a b) (nI i) found = _
    unfold bf_X12_goUp_2
    rw [if_neg (nI_ge (by omega) (by omega)), nI_clamp (n := i) (by omega), if_neg (gin (by omega) (by omega))]
    exact Eq.trans u r1
theorem up_eq (F : Nat) {aM : Nat → Int32} (found : Nat → Int32) (hF : 1000 < F) (hn2 : 2 ≤ n) (hn : n ≤ 96) (h : Par n par) (ha : ∀ x, x < 2 * n - 2 → aM x = nI (par x)) (hr : aM (2 * n - 2) = -1) : ∃ found', fn_X12_goUp F (nI n) 96 192 aM found = some found' ∧ ∀ x, x < n → found' x = nI (dpt n par x) :=
  up_loop F hF hn2 hn h ha hr n 0 F found (by omega) (by omega) (fun x hx => by omega)
end
/-- what a way of building leaves: no depth too great for a number, and the codes have room -/
def Msr (n : Nat) (d : Nat → Nat) : Prop := (∀ k, k < n → d k ≤ 200) ∧ ((∀ k, k < n → d k ≤ 24) → shP d n ≤ 16777216 ∧ ∃ k, k < n ∧ 0 < d k)
theorem Par.msr {n : Nat} {par : Nat → Nat} (hn : 2 ≤ n) (hn96 : n ≤ 96) (h : Par n par) : Msr n (dpt n par) := by
  have h0 : ∀ k, k < n → 0 < dpt n par k := fun k hk => by rw [dpt_s h (by omega)]; omega
  refine ⟨fun k hk => by have := dpt_le h (x := k) (by omega); omega, fun h24 => ⟨?_, 0, by omega, h0 0 (by omega)⟩⟩
  have := kraft24 (d := dpt n par) (n := n) (B := 200) (by decide) h0 h24 (par_kraft hn h (by omega))
  omega
