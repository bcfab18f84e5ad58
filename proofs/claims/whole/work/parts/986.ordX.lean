/-! build: IN ORDER, the class. -/
def tri : Nat → Nat
  | 0 => 0
  | j + 1 => tri j + (j + 1)
theorem tri_2 : ∀ j, j * (j + 1) = 2 * tri j
  | 0 => rfl
  | j + 1 => by
    have := tri_2 j
    show (j + 1) * (j + 1 + 1) = 2 * (tri j + (j + 1))
    have e : (j + 1) * (j + 1 + 1) = j * (j + 1) + 2 * (j + 1) := by
      rw [Nat.mul_comm j (j + 1), Nat.mul_comm 2 (j + 1), ← Nat.mul_add]
    omega
theorem tri_mono {a b : Nat} (h : a ≤ b) : tri a ≤ tri b := by
  obtain ⟨d, rfl⟩ : ∃ d, b = a + d := ⟨b - a, by omega⟩
  induction d with
  | zero => exact Nat.le_refl _
  | succ d ih => have := ih (by omega); show tri a ≤ tri (a + d) + (a + d + 1); omega
theorem tri_max {j : Nat} (h : j ≤ 96) : tri j ≤ 4656 := by
  have := tri_mono h
  have e : tri 96 = 4656 := by decide
  omega
theorem spot_lt {i j S : Nat} (h1 : i ≤ j) (h2 : j < S) : tri j + i < tri S := by
  have : tri (j + 1) ≤ tri S := tri_mono h2
  have e : tri (j + 1) = tri j + (j + 1) := rfl
  omega
theorem spot_inj {i j i' j' : Nat} (h1 : i ≤ j) (h2 : i' ≤ j') (h : tri j + i = tri j' + i') : j = j' ∧ i = i' := by
  rcases Nat.lt_trichotomy j j' with q | q | q
  · have : tri (j + 1) ≤ tri j' := tri_mono q
    have e : tri (j + 1) = tri j + (j + 1) := rfl
    omega
  · subst q; exact ⟨rfl, by omega⟩
  · have : tri (j' + 1) ≤ tri j := tri_mono q
    have e : tri (j' + 1) = tri j' + (j' + 1) := rfl
    omega
theorem spot_eq (F : Nat) {i j : Nat} (h1 : i ≤ j) (hj : j ≤ 96) : fn_X5_spot F (nI i) (nI j) = some (nI (tri j + i)) := by
  have t := tri_max hj
  have t2 := tri_2 j
  unfold fn_X5_spot bf_X5_spot_0
  rw [if_neg (by decide), show nI j + (1 : Int32) = nI (j + 1) from nI_add j 1, pk_mul, t2, show nI (2 * tri j) / (2 : Int32) = nI (2 * tri j / 2) from pk_div (d := 2) (by omega) (by decide) (by decide), show 2 * tri j / 2 = tri j by omega, nI_add]
/-- what is kept of a row of leaves -/
def en (wt : Nat → Nat) (i j : Nat) : Nat := Co wt i (j + 1) * 128 + La wt i j
section
variable {S n : Nat} {wt : Nat → Nat}
theorem La_le {i j : Nat} (h : i ≤ j) : i ≤ La wt i j ∧ La wt i j ≤ j := by
  by_cases e : i = j
  · unfold La; rw [if_pos e]; omega
  · have := La_in (wt := wt) (show i < j by omega); omega
theorem en_b (hn : n ≤ 96) (hw : ∀ k, k < n → wt k ≤ 600) {i j : Nat} (h1 : i ≤ j) (h2 : j < n) : en wt i j < 800000000 ∧ en wt i j / 128 = Co wt i (j + 1) ∧ en wt i j % 128 = La wt i j := by
  have c := (Co_max hn hw (show i ≤ j + 1 by omega) (show j + 1 ≤ n by omega)).1
  have l := La_le (wt := wt) h1
  have c2 : Co wt i (j + 1) ≤ 57600 * 96 := Nat.le_trans c (Nat.mul_le_mul_left _ (by omega))
  unfold en
  omega
theorem last_eq (F : Nat) {best : Nat → Int32} (hn : n ≤ 96) (hnS : n ≤ S) (hS : S ≤ 96) (hw : ∀ k, k < n → wt k ≤ 600) {i j : Nat} (h1 : i ≤ j) (h2 : j < n) (hb : best (tri j + i) = nI (en wt i j)) : fn_X5_lastOnLeft F (tri S) best (nI i) (nI j) = some (nI (La wt i j)) := by
  have t := tri_max hS
  have s := spot_lt h1 (show j < S by omega)
  obtain ⟨e1, e2, e3⟩ := en_b hn hw h1 h2
  unfold fn_X5_lastOnLeft bf_X5_lastOnLeft_0
  rw [spot_eq F h1 (by omega), bs, nI_clamp (by omega), if_neg (gin (by omega) (by omega)), hb, pk_andN (m := 127) (by omega) 7 (by decide), show en wt i j % 2 ^ 7 = La wt i j from e3]
/-- the cost of parting behind leaf x, and x -/
def gx (wt : Nat → Nat) (i j x : Nat) : Nat := (Co wt i (x + 1) + Co wt (x + 1) (j + 1)) * 128 + x
theorem gx_b (hn : n ≤ 96) (hw : ∀ k, k < n → wt k ≤ 600) {i j x : Nat} (h1 : i ≤ x) (h2 : x < j) (h3 : j < n) : gx wt i j x < 1000000000 ∧ Co wt i (x + 1) + Co wt (x + 1) (j + 1) ≤ 5529600 := by
  have c1 := (Co_max hn hw (show i ≤ x + 1 by omega) (show x + 1 ≤ n by omega)).1
  have c2 := (Co_max hn hw (show x + 1 ≤ j + 1 by omega) (show j + 1 ≤ n by omega)).1
  have : 57600 * (x + 1 - i) + 57600 * (j + 1 - (x + 1)) ≤ 57600 * 96 := by
    rw [← Nat.mul_add]
    exact Nat.mul_le_mul_left _ (by omega)
  unfold gx
  omega
theorem parted_eq (F : Nat) {best : Nat → Int32} (hn : n ≤ 96) (hnS : n ≤ S) (hS : S ≤ 96) (hw : ∀ k, k < n → wt k ≤ 600) {i j x : Nat} (h1 : i ≤ x) (h2 : x < j) (h3 : j < n) (b1 : best (tri x + i) = nI (en wt i x)) (b2 : best (tri j + (x + 1)) = nI (en wt (x + 1) j)) : fn_X5_parted F (tri S) best (nI i) (nI x) (nI j) = some (nI (gx wt i j x)) := by
  have t := tri_max hS
  have s1 := spot_lt h1 (show x < S by omega)
  have s2 := spot_lt (show x + 1 ≤ j by omega) (show j < S by omega)
  obtain ⟨e1, e2, e3⟩ := en_b hn hw h1 (show x < n by omega)
  obtain ⟨f1, f2, f3⟩ := en_b hn hw (show x + 1 ≤ j by omega) h3
  obtain ⟨g1, g2⟩ := gx_b hn hw h1 h2 h3
  unfold fn_X5_parted bf_X5_parted_0
  rw [spot_eq F h1 (by omega), bs, nI_clamp (by omega), if_neg (gin (by omega) (by omega)), show nI x + (1 : Int32) = nI (x + 1) from nI_add x 1, spot_eq F (show x + 1 ≤ j by omega) (by omega), bs, nI_clamp (by omega), if_neg (gin (by omega) (by omega)), b1, b2, pk_shrN (by omega) _ 7 (by decide), pk_shrN (by omega) _ 7 (by decide), show en wt i x / 2 ^ 7 = Co wt i (x + 1) from e2, show en wt (x + 1) j / 2 ^ 7 = Co wt (x + 1) (j + 1) from f2, nI_add, pk_shlN _ 7 (by decide) (by omega), nI_add]
  rfl
theorem gx_least (hn : n ≤ 96) {i j x : Nat} (h1 : i ≤ x) (h2 : x < j) (h3 : j < n) : gx wt i j (La wt i j) ≤ gx wt i j x := by
  have hl := La_in (wt := wt) (show i < j by omega)
  obtain ⟨r1, r2⟩ := Ro_le (wt := wt) (a := i) (b := j + 1) (m := x + 1) (by omega) (by omega)
  rw [← hl.2.2] at r1 r2
  unfold gx
  by_cases q : x < La wt i j
  · have := r2 (by omega)
    omega
  · omega
theorem least_in (F : Nat) {best wB : Nat → Int32} (hn : n ≤ 96) (hnS : n ≤ S) (hS : S ≤ 96) (hw : ∀ k, k < n → wt k ≤ 600) {i j to fr : Nat} (hij : i < j) (h3 : j < n) (hfr : i ≤ fr) (hto : to < j) (hL : fr ≤ La wt i j ∧ La wt i j ≤ to) (hb : ∀ i' j', i' ≤ j' → (j' < j ∨ (j' = j ∧ i < i')) → best (tri j' + i') = nI (en wt i' j')) (hwB : ∀ k, k ≤ j + 1 → wB k = nI (pf wt k)) : ∀ (d x k y : Nat), x + d = to + 1 → d < k → fr < x → fr ≤ y → y < x → (∀ z, fr ≤ z → z < x → gx wt i j y ≤ gx wt i j z) →
    lf_X5_leastOf_39 F (tri S) best (S + 1) wB k (nI i) (nI j) (nI to) (nI (gx wt i j y)) (nI x) = some (nI (en wt i j)) := by
  intro d
  induction d with
  | zero =>
    intro x k y hx hk hfx hy hyx hz
    obtain ⟨k, rfl⟩ : ∃ z, k = z + 1 := ⟨k - 1, by omega⟩
    have hl := La_in (wt := wt) hij
    have g1 := gx_least (wt := wt) hn (x := y) (by omega) (by omega) h3 (i := i)
    have g2 := hz (La wt i j) hL.1 (by omega)
    have ge : gx wt i j y = gx wt i j (La wt i j) := by omega
    have p := pf_mono (wt := wt) (show i ≤ j + 1 by omega)
    have pb := (Co_max hn hw (show i ≤ j + 1 by omega) (show j + 1 ≤ n by omega)).2
    have c2 := Co_2 (wt := wt) (a := i) (b := j + 1) (by omega)
    have e : gx wt i j (La wt i j) + (pf wt (j + 1) - pf wt i) * 2 ^ 7 = en wt i j := by
      unfold gx en
      rw [c2, ← hl.2.2]
      omega
    show bf_X5_leastOf_39 F (tri S) best (S + 1) wB (fun a b c d e => lf_X5_leastOf_39 F (tri S) best (S + 1) wB k a b c d e) (nI i) (nI j) (nI to) (nI (gx wt i j y)) (nI x) = _
    unfold bf_X5_leastOf_39
    rw [if_pos (nI_lt (by omega) (by omega)), show nI j + (1 : Int32) = nI (j + 1) from nI_add j 1, nI_clamp (by omega), nI_clamp (by omega), if_neg (gin (by omega) (by omega)), if_neg (gin (by omega) (by omega)), hwB (j + 1) (Nat.le_refl _), hwB i (by omega), pk_sub p, pk_shlN _ 7 (by decide) (by omega), nI_add, ge, e]
  | succ d ih =>
    intro x k y hx hk hfx hy hyx hz
    obtain ⟨k, rfl⟩ : ∃ z, k = z + 1 := ⟨k - 1, by omega⟩
    have pe := parted_eq F (best := best) hn hnS hS hw (i := i) (j := j) (x := x) (by omega) (by omega) h3 (hb i x (by omega) (Or.inl (by omega))) (hb (x + 1) j (by omega) (Or.inr ⟨rfl, by omega⟩))
    have gb1 := (gx_b hn hw (i := i) (j := j) (x := x) (by omega) (by omega) h3).1
    have gb2 := (gx_b hn hw (i := i) (j := j) (x := y) (by omega) (by omega) h3).1
    show bf_X5_leastOf_39 F (tri S) best (S + 1) wB (fun a b c d e => lf_X5_leastOf_39 F (tri S) best (S + 1) wB k a b c d e) (nI i) (nI j) (nI to) (nI (gx wt i j y)) (nI x) = _
    unfold bf_X5_leastOf_39
    rw [if_neg (nI_nlt (by omega) (by omega)), pe, bs, show nI x + (1 : Int32) = nI (x + 1) from nI_add x 1]
    by_cases q : gx wt i j x < gx wt i j y
    · rw [if_pos (nI_lt q (by omega))]
      refine ih (x + 1) k x (by omega) (by omega) (by omega) (by omega) (by omega) (fun z h1 h2 => ?_)
      by_cases e : z = x
      · subst e; exact Nat.le_refl _
      · have := hz z h1 (by omega); omega
    · rw [if_neg (nI_nlt (by omega) (by omega))]
      refine ih (x + 1) k y (by omega) (by omega) (by omega) hy (by omega) (fun z h1 h2 => ?_)
      by_cases e : z = x
      · subst e; omega
      · exact hz z h1 (by omega)
theorem leastOf_eq (F : Nat) {best wB : Nat → Int32} (hF : 1000 < F) (hn : n ≤ 96) (hnS : n ≤ S) (hS : S ≤ 96) (hw : ∀ k, k < n → wt k ≤ 600) {i j : Nat} (hij : i < j) (h3 : j < n) (hb : ∀ i' j', i' ≤ j' → (j' < j ∨ (j' = j ∧ i < i')) → best (tri j' + i') = nI (en wt i' j')) (hwB : ∀ k, k ≤ j + 1 → wB k = nI (pf wt k)) : fn_X5_leastOf F (tri S) best (S + 1) wB (nI i) (nI j) = some (nI (en wt i j)) := by
  have l1 := last_eq F (best := best) hn hnS hS hw (i := i) (j := j - 1) (by omega) (by omega) (hb i (j - 1) (by omega) (Or.inl (by omega)))
  have l2 := last_eq F (best := best) hn hnS hS hw (i := i + 1) (j := j) (by omega) h3 (hb (i + 1) j (by omega) (Or.inr ⟨rfl, by omega⟩))
  have b1 := La_le (wt := wt) (i := i) (j := j - 1) (by omega)
  have b2 := La_le (wt := wt) (i := i + 1) (j := j) (by omega)
  have hl := La_in (wt := wt) hij
  have m1 := La_left (wt := wt) hij
  have hto : ∃ to, (if nI (j - 1) < nI (La wt (i + 1) j) then nI (j - 1) else nI (La wt (i + 1) j)) = nI to ∧ to < j ∧ La wt i j ≤ to := by
    by_cases q : j - 1 < La wt (i + 1) j
    · exact ⟨j - 1, by rw [if_pos (nI_lt q (by omega))], by omega, by omega⟩
    · refine ⟨La wt (i + 1) j, by rw [if_neg (nI_nlt (by omega) (by omega))], by omega, ?_⟩
      by_cases e : i + 1 = j
      · have : La wt (i + 1) j = i + 1 := by unfold La; rw [if_pos e]
        omega
      · exact La_right hij (by omega)
  obtain ⟨to, t1, t2, t3⟩ := hto
  have pe := parted_eq F (best := best) hn hnS hS hw (i := i) (j := j) (x := La wt i (j - 1)) (by omega) (by omega) h3 (hb i _ (by omega) (Or.inl (by omega))) (hb _ j (by omega) (Or.inr ⟨rfl, by omega⟩))
  unfold fn_X5_leastOf bf_X5_leastOf_0
  rw [show nI j - (1 : Int32) = nI (j - 1) from pk_sub (b := 1) (by omega), l1, bs, show nI i + (1 : Int32) = nI (i + 1) from nI_add i 1, l2, bs, pe, bs, t1, show nI (La wt i (j - 1)) + (1 : Int32) = nI (La wt i (j - 1) + 1) from nI_add _ 1]
  exact least_in F hn hnS hS hw hij h3 b1.1 t2 ⟨m1, t3⟩ hb hwB (to - La wt i (j - 1)) (La wt i (j - 1) + 1) F (La wt i (j - 1)) (by omega) (by omega) (by omega) (Nat.le_refl _) (by omega) (fun z z1 z2 => by
    obtain rfl : z = La wt i (j - 1) := by omega
    exact Nat.le_refl _)
theorem ord57 (F : Nat) {w0 line pS pE wB dB : Nat → Int32} {pa : Int32} {j : Nat} {rec13 : Int32 → Int32 → (Nat → Int32) → (Nat → Int32) → (Nat → Int32) → (Nat → Int32) → (Nat → Int32) → (Nat → Int32) → Option (Int32 × (Nat → Int32) × (Nat → Int32) × (Nat → Int32) × (Nat → Int32) × (Nat → Int32) × (Nat → Int32))} (hF : 1000 < F) (hn : n ≤ 96) (hnS : n ≤ S) (hS : S ≤ 96) (hw : ∀ k, k < n → wt k ≤ 600) (h3 : j < n) (hwB : ∀ k, k ≤ j + 1 → wB k = nI (pf wt k)) : ∀ (i k : Nat) (best : Nat → Int32), i ≤ j → i < k → (∀ i' j', i' ≤ j' → (j' < j ∨ (j' = j ∧ i ≤ i')) → best (tri j' + i') = nI (en wt i' j')) →
    ∃ best', lf_X5_measure_57 F S S (tri S) (S + 1) (nI n) S w0 S S rec13 k (nI j) (xm i) pa pS pE best wB dB line = rec13 (nI (j + 1)) pa pS pE best' wB dB line ∧ ∀ i' j', i' ≤ j' → j' < j + 1 → best' (tri j' + i') = nI (en wt i' j') := by
  intro i
  induction i with
  | zero =>
    intro k best hi hk hb
    obtain ⟨k, rfl⟩ : ∃ z, k = z + 1 := ⟨k - 1, by omega⟩
    refine ⟨best, ?_, fun i' j' h1 h2 => hb i' j' h1 (by omega)⟩
    show bf_X5_measure_57 F S S (tri S) (S + 1) (nI n) S w0 S S rec13 (fun a b c d e f g h i => lf_X5_measure_57 F S S (tri S) (S + 1) (nI n) S w0 S S rec13 k a b c d e f g h i) (nI j) (xm 0) pa pS pE best wB dB line = _
    unfold bf_X5_measure_57
    rw [if_pos xm_0, show nI j + (1 : Int32) = nI (j + 1) from nI_add j 1]
  | succ i ih =>
    intro k best hi hk hb
    obtain ⟨k, rfl⟩ : ∃ z, k = z + 1 := ⟨k - 1, by omega⟩
    have t := tri_max hS
    have s := spot_lt (show i ≤ j by omega) (show j < S by omega)
    have le := leastOf_eq F (best := best) (wB := wB) hF hn hnS hS hw (i := i) (j := j) (by omega) h3 (fun i' j' h1 h2 => hb i' j' h1 (by omega)) hwB
    obtain ⟨best', r1, r2⟩ := ih k (upd best (tri j + i) (nI (en wt i j))) (by omega) (by omega) (fun i' j' h1 h2 => by
      by_cases e : tri j' + i' = tri j + i
      · obtain ⟨e1, e2⟩ := spot_inj h1 (by omega) e
        subst e1; subst e2; exact pk_us
      · rw [pk_un e]
        refine hb i' j' h1 ?_
        rcases h2 with z | ⟨z1, z2⟩
        · exact Or.inl z
        · have : i' ≠ i := fun y => e (by rw [z1, y])
          exact Or.inr ⟨z1, by omega⟩)
    refine ⟨best', ?_, r2⟩
    show bf_X5_measure_57 F S S (tri S) (S + 1) (nI n) S w0 S S rec13 (fun a b c d e f g h i => lf_X5_measure_57 F S S (tri S) (S + 1) (nI n) S w0 S S rec13 k a b c d e f g h i) (nI j) (xm (i + 1)) pa pS pE best wB dB line = _
    unfold bf_X5_measure_57
    rw [xm_s, if_neg (nI_pos (by omega)), spot_eq F (show i ≤ j by omega) (by omega), bs, le, bs, nI_clamp (by omega), if_neg (gin (by omega) (by omega)), xm_m]
    exact r1
theorem ord13 (F : Nat) {w0 line dB : Nat → Int32} {pa : Int32} (hF : 1000 < F) (hn : n ≤ 96) (hnS : n ≤ S) (hS : S ≤ 96) (hw : ∀ k, k < n → wt k ≤ 600 ∧ w0 k = nI (wt k)) : ∀ (d j k : Nat) (pS pE best wB : Nat → Int32), j + d = n → d < k → (∀ i' j', i' ≤ j' → j' < j → best (tri j' + i') = nI (en wt i' j')) → (∀ k, k ≤ j → wB k = nI (pf wt k)) →
    ∃ best' wB', lf_X5_measure_13 F S S (tri S) (S + 1) (nI n) S w0 S S k (nI j) pa pS pE best wB dB line = ((fn_X7_partAll_X5 F S S (tri S) best' (nI n) S S line pa pS pE dB).bind fun v91 => some (v91.1, v91.2.1, v91.2.2.1, best', wB', v91.2.2.2, line)) ∧ ∀ i' j', i' ≤ j' → j' < n → best' (tri j' + i') = nI (en wt i' j') := by
  intro d
  induction d with
  | zero =>
    intro j k pS pE best wB hj hk hb hwB
    obtain ⟨k, rfl⟩ : ∃ z, k = z + 1 := ⟨k - 1, by omega⟩
    refine ⟨best, wB, ?_, fun i' j' h1 h2 => hb i' j' h1 (by omega)⟩
    show bf_X5_measure_13 F S S (tri S) (S + 1) (nI n) S w0 S S (fun a b c d e f g h => lf_X5_measure_13 F S S (tri S) (S + 1) (nI n) S w0 S S k a b c d e f g h) (nI j) pa pS pE best wB dB line = _
    unfold bf_X5_measure_13
    rw [if_pos (nI_le (by omega) (by omega))]
  | succ d ih =>
    intro j k pS pE best wB hj hk hb hwB
    obtain ⟨k, rfl⟩ : ∃ z, k = z + 1 := ⟨k - 1, by omega⟩
    have t := tri_max hS
    have s := spot_lt (Nat.le_refl j) (show j < S by omega)
    have pb : pf wt (j + 1) = pf wt j + wt j := rfl
    have hwB' : ∀ k, k ≤ j + 1 → upd wB (j + 1) (nI (pf wt (j + 1))) k = nI (pf wt k) := fun k hk => by
      by_cases e : k = j + 1
      · subst e; exact pk_us
      · rw [pk_un e]; exact hwB k (by omega)
    have ejj : en wt j j = j := by
      unfold en La
      rw [if_pos rfl, Co_1 (Nat.le_refl _)]
      omega
    obtain ⟨best1, r1, r2⟩ := ord57 F (w0 := w0) (line := line) (pS := pS) (pE := pE) (wB := upd wB (j + 1) (nI (pf wt (j + 1)))) (dB := dB) (pa := pa) (rec13 := fun a b c d e f g h => lf_X5_measure_13 F S S (tri S) (S + 1) (nI n) S w0 S S k a b c d e f g h) hF hn hnS hS (fun k hk => (hw k hk).1) (j := j) (by omega) hwB' j F (upd best (tri j + j) (nI j)) (Nat.le_refl _) (by omega) (fun i' j' h1 h2 => by
      by_cases e : tri j' + i' = tri j + j
      · obtain ⟨e1, e2⟩ := spot_inj h1 (Nat.le_refl _) e
        subst e1; subst e2; rw [pk_us, ejj]
      · rw [pk_un e]
        rcases h2 with z | ⟨z1, z2⟩
        · exact hb i' j' h1 z
        · have : i' = j := by omega
          exact absurd (by rw [z1, this]) e)
    obtain ⟨best2, wB2, u1, u2⟩ := ih (j + 1) k pS pE best1 (upd wB (j + 1) (nI (pf wt (j + 1)))) (by omega) (by omega) r2 hwB'
    refine ⟨best2, wB2, ?_, u2⟩
    show bf_X5_measure_13 F S S (tri S) (S + 1) (nI n) S w0 S S (fun a b c d e f g h => lf_X5_measure_13 F S S (tri S) (S + 1) (nI n) S w0 S S k a b c d e f g h) (nI j) pa pS pE best wB dB line = _
    unfold bf_X5_measure_13
    rw [if_neg (nI_ge (by omega) (by omega)), show nI j + (1 : Int32) = nI (j + 1) from nI_add j 1, nI_clamp (n := j) (by omega), nI_clamp (n := j + 1) (by omega), if_neg (gin (by omega) (by omega)), if_neg (gin (by omega) (by omega)), if_neg (gin (by omega) (by omega)), spot_eq F (Nat.le_refl j) (by omega), bs, nI_clamp (n := tri j + j) (by omega), if_neg (gin (by omega) (by omega)), hwB j (Nat.le_refl _), (hw j (by omega)).2, show nI (pf wt j) + nI (wt j) = nI (pf wt (j + 1)) from nI_add _ _]
    exact Eq.trans r1 u1
end
