/-! Numbers of codes, of used symbols; sums of shares. -/
def nc (g : Nat → Nat) : Nat → Nat
  | 0 => 0
  | n + 1 => nc g n + (if 0 < g n then 1 else 0)
def sm (len : Nat → Nat) : Nat → Nat
  | 0 => 0
  | n + 1 => sm len n + (if 0 < len n then 2 ^ (24 - len n) else 0)
theorem nc_le (g : Nat → Nat) : ∀ n, nc g n ≤ n
  | 0 => Nat.le_refl _
  | n + 1 => by
    unfold nc
    have := nc_le g n
    split <;> omega
theorem nc_congr {g g' : Nat → Nat} : ∀ n, (∀ k, k < n → g k = g' k) → nc g n = nc g' n
  | 0, _ => rfl
  | n + 1, h => by
    unfold nc
    rw [nc_congr n (fun k hk => h k (by omega)), h n (by omega)]
theorem sm_le (len : Nat → Nat) : ∀ n, sm len n ≤ n * 8388608
  | 0 => Nat.le_refl _
  | n + 1 => by
    unfold sm
    have := sm_le len n
    have h1 : 0 < len n → 2 ^ (24 - len n) ≤ 2 ^ 23 := fun h => Nat.pow_le_pow_right (by decide) (by omega)
    by_cases h : 0 < len n
    · rw [if_pos h]; have := h1 h; omega
    · rw [if_neg h]; exact Nat.le_trans this (Nat.mul_le_mul_right _ (Nat.le_succ n))
theorem sm_mono (len : Nat → Nat) {a : Nat} : ∀ d, sm len a ≤ sm len (a + d)
  | 0 => Nat.le_refl _
  | d + 1 => Nat.le_trans (sm_mono len d) (by show sm len (a + d) ≤ sm len (a + d) + _; omega)
theorem share_eq (F : Nat) {L : Nat} (h : L ≤ 24) : fn_X10_share F (nI L) = some (nI (2 ^ (24 - L))) ∧ (1 : Int32) <<< (((24 : Int32) - nI L) &&& 31) = nI (2 ^ (24 - L)) := by
  have e : (1 : Int32) <<< (((24 : Int32) - nI L) &&& 31) = nI (2 ^ (24 - L)) := by
    rw [show (24 : Int32) - nI L = nI (24 - L) from pk_sub (a := 24) h]
    have hp : 2 ^ (24 - L) ≤ 2 ^ 24 := Nat.pow_le_pow_right (by decide) (by omega)
    have := pk_shlN (n := 1) (nI (24 - L) &&& 31) (24 - L) (s_l (24 - L) (by omega)) (by omega)
    rw [Nat.one_mul] at this
    exact this
  exact ⟨congrArg some e, e⟩
theorem gin {i n : Nat} (h : i < n) (hn : i < 2 ^ 31) : ¬ (nI i < 0 ∨ n ≤ i) := fun z => by
  rcases z with z | z
  · exact nI_pos hn z
  · omega
theorem le0 {n : Nat} (h : n < 2 ^ 31) : nI n ≤ 0 ↔ n = 0 := by
  constructor
  · intro z
    rcases Nat.eq_zero_or_pos n with e | e
    · exact e
    · exact absurd z (nI_nle e h)
  · intro z; subst z; decide
theorem cn_X (F : Nat) {S n : Nat} {g : Nat → Nat} {w : Nat → Int32} (hS : S ≤ n) (hn : n < 2 ^ 31) (hw : ∀ s, s < S → g s < 2 ^ 31 ∧ w s = nI (g s)) : ∀ (d i k : Nat), i + d = S → d < k → lf_X10_codeNumber_4 F (nI S) n w k (nI (nc g i)) (nI i) = some (nI (nc g S)) := by
  intro d
  induction d with
  | zero =>
    intro i k hi hk
    obtain ⟨k, rfl⟩ : ∃ q, k = q + 1 := ⟨k - 1, by omega⟩
    show bf_X10_codeNumber_4 F (nI S) n w (fun a b => lf_X10_codeNumber_4 F (nI S) n w k a b) (nI (nc g i)) (nI i) = _
    unfold bf_X10_codeNumber_4
    rw [if_pos (nI_le (by omega) (by omega)), show i = S by omega]
  | succ d ih =>
    intro i k hi hk
    obtain ⟨k, rfl⟩ : ∃ q, k = q + 1 := ⟨k - 1, by omega⟩
    obtain ⟨g1, g2⟩ := hw i (by omega)
    show bf_X10_codeNumber_4 F (nI S) n w (fun a b => lf_X10_codeNumber_4 F (nI S) n w k a b) (nI (nc g i)) (nI i) = _
    unfold bf_X10_codeNumber_4
    rw [if_neg (nI_ge (by omega) (by omega)), if_neg (nI_in (by omega) hn), nI_clamp (by omega), g2, show nI i + (1 : Int32) = nI (i + 1) from nI_add i 1]
    have hh := ih (i + 1) k (by omega) (by omega)
    by_cases e : g i = 0
    · rw [if_pos ((le0 g1).mpr e)]
      rw [show nc g (i + 1) = nc g i by simp [nc, e]] at hh
      exact hh
    · rw [if_neg (fun z => e ((le0 g1).mp z)), show nI (nc g i) + (1 : Int32) = nI (nc g i + 1) from nI_add _ 1]
      rw [show nc g (i + 1) = nc g i + 1 by simp [nc, Nat.pos_of_ne_zero e]] at hh
      exact hh
theorem cn_M (F : Nat) {S n : Nat} {g : Nat → Nat} {w : Nat → Int32} (hS : S ≤ n) (hn : n < 2 ^ 31) (hw : ∀ s, s < S → g s < 2 ^ 31 ∧ w s = nI (g s)) : ∀ (d i k : Nat), i + d = S → d < k → lf_X12_codesThere_4 F (nI S) n w k (nI (nc g i)) (nI i) = some (nI (nc g S)) := by
  intro d
  induction d with
  | zero =>
    intro i k hi hk
    obtain ⟨k, rfl⟩ : ∃ q, k = q + 1 := ⟨k - 1, by omega⟩
    show bf_X12_codesThere_4 F (nI S) n w (fun a b => lf_X12_codesThere_4 F (nI S) n w k a b) (nI (nc g i)) (nI i) = _
    unfold bf_X12_codesThere_4
    rw [if_pos (nI_le (by omega) (by omega)), show i = S by omega]
  | succ d ih =>
    intro i k hi hk
    obtain ⟨k, rfl⟩ : ∃ q, k = q + 1 := ⟨k - 1, by omega⟩
    obtain ⟨g1, g2⟩ := hw i (by omega)
    show bf_X12_codesThere_4 F (nI S) n w (fun a b => lf_X12_codesThere_4 F (nI S) n w k a b) (nI (nc g i)) (nI i) = _
    unfold bf_X12_codesThere_4
    rw [if_neg (nI_ge (by omega) (by omega)), if_neg (nI_in (by omega) hn), nI_clamp (by omega), g2, show nI i + (1 : Int32) = nI (i + 1) from nI_add i 1]
    have hh := ih (i + 1) k (by omega) (by omega)
    by_cases e : g i = 0
    · rw [if_pos ((le0 g1).mpr e), show nI (nc g i) + (0 : Int32) = nI (nc g i) from nI_add _ 0]
      rw [show nc g (i + 1) = nc g i by simp [nc, e]] at hh
      exact hh
    · rw [if_neg (fun z => e ((le0 g1).mp z)), show nI (nc g i) + (1 : Int32) = nI (nc g i + 1) from nI_add _ 1]
      rw [show nc g (i + 1) = nc g i + 1 by simp [nc, Nat.pos_of_ne_zero e]] at hh
      exact hh
theorem un_X (F : Nat) {S n : Nat} {g : Nat → Nat} {w : Nat → Int32} (hS : S ≤ n) (hn : n < 2 ^ 31) (hw : ∀ s, s < S → g s < 2 ^ 31 ∧ w s = nI (g s)) : ∀ (d i k : Nat), i + d = S → d < k → lf_X11_usedNumber_4 F (nI S) n w k (nI (nc g i)) (nI i) = some (nI (nc g S)) := by
  intro d
  induction d with
  | zero =>
    intro i k hi hk
    obtain ⟨k, rfl⟩ : ∃ q, k = q + 1 := ⟨k - 1, by omega⟩
    show bf_X11_usedNumber_4 F (nI S) n w (fun a b => lf_X11_usedNumber_4 F (nI S) n w k a b) (nI (nc g i)) (nI i) = _
    unfold bf_X11_usedNumber_4
    rw [if_pos (nI_le (by omega) (by omega)), show i = S by omega]
  | succ d ih =>
    intro i k hi hk
    obtain ⟨k, rfl⟩ : ∃ q, k = q + 1 := ⟨k - 1, by omega⟩
    obtain ⟨g1, g2⟩ := hw i (by omega)
    show bf_X11_usedNumber_4 F (nI S) n w (fun a b => lf_X11_usedNumber_4 F (nI S) n w k a b) (nI (nc g i)) (nI i) = _
    unfold bf_X11_usedNumber_4
    rw [if_neg (nI_ge (by omega) (by omega)), if_neg (nI_in (by omega) hn), nI_clamp (by omega), g2, show nI i + (1 : Int32) = nI (i + 1) from nI_add i 1]
    have hh := ih (i + 1) k (by omega) (by omega)
    by_cases e : g i = 0
    · rw [if_pos ((le0 g1).mpr e)]
      rw [show nc g (i + 1) = nc g i by simp [nc, e]] at hh
      exact hh
    · rw [if_neg (fun z => e ((le0 g1).mp z)), show nI (nc g i) + (1 : Int32) = nI (nc g i + 1) from nI_add _ 1]
      rw [show nc g (i + 1) = nc g i + 1 by simp [nc, Nat.pos_of_ne_zero e]] at hh
      exact hh
theorem codeNumber_eq {F S n : Nat} {g : Nat → Nat} {w : Nat → Int32} (hS : S ≤ n) (hn : n < 2 ^ 31) (hF : S < F) (hw : ∀ s, s < S → g s < 2 ^ 31 ∧ w s = nI (g s)) : fn_X10_codeNumber F (nI S) n w = some (nI (nc g S)) := cn_X F hS hn hw S 0 F (by omega) hF
theorem codesThere_eq {F S n : Nat} {g : Nat → Nat} {w : Nat → Int32} (hS : S ≤ n) (hn : n < 2 ^ 31) (hF : S < F) (hw : ∀ s, s < S → g s < 2 ^ 31 ∧ w s = nI (g s)) : fn_X12_codesThere F (nI S) n w = some (nI (nc g S)) := cn_M F hS hn hw S 0 F (by omega) hF
theorem usedNumber_eq {F S n : Nat} {g : Nat → Nat} {w : Nat → Int32} (hS : S ≤ n) (hn : n < 2 ^ 31) (hF : S < F) (hw : ∀ s, s < S → g s < 2 ^ 31 ∧ w s = nI (g s)) : fn_X11_usedNumber F (nI S) n w = some (nI (nc g S)) := un_X F hS hn hw S 0 F (by omega) hF
theorem sum_loop (F : Nat) {S n : Nat} {len : Nat → Nat} {w : Nat → Int32} (hS : S ≤ n) (hS2 : S ≤ 96) (hn : n < 2 ^ 31) (hw : ∀ s, s < S → len s ≤ 24 ∧ w s = nI (len s)) : ∀ (d i k : Nat), i + d = S → d < k → lf_X10_sum_4 F (nI S) n w k (nI (sm len i)) (nI i) = some (nI (sm len S)) := by
  intro d
  induction d with
  | zero =>
    intro i k hi hk
    obtain ⟨k, rfl⟩ : ∃ q, k = q + 1 := ⟨k - 1, by omega⟩
    show bf_X10_sum_4 F (nI S) n w (fun a b => lf_X10_sum_4 F (nI S) n w k a b) (nI (sm len i)) (nI i) = _
    unfold bf_X10_sum_4
    rw [if_pos (nI_le (by omega) (by omega)), show i = S by omega]
  | succ d ih =>
    intro i k hi hk
    obtain ⟨k, rfl⟩ : ∃ q, k = q + 1 := ⟨k - 1, by omega⟩
    obtain ⟨g1, g2⟩ := hw i (by omega)
    show bf_X10_sum_4 F (nI S) n w (fun a b => lf_X10_sum_4 F (nI S) n w k a b) (nI (sm len i)) (nI i) = _
    unfold bf_X10_sum_4
    rw [if_neg (nI_ge (by omega) (by omega)), if_neg (nI_in (by omega) hn), nI_clamp (by omega), g2, show nI i + (1 : Int32) = nI (i + 1) from nI_add i 1]
    have hh := ih (i + 1) k (by omega) (by omega)
    by_cases e : len i = 0
    · rw [if_pos ((le0 (by omega)).mpr e)]
      rw [show sm len (i + 1) = sm len i by simp [sm, e]] at hh
      exact hh
    · rw [if_neg (fun z => e ((le0 (by omega)).mp z)), if_neg (gin (by omega) (by omega)), (share_eq F g1).1, bs, show nI (sm len i) + nI (2 ^ (24 - len i)) = nI (sm len i + 2 ^ (24 - len i)) from nI_add _ _]
      rw [show sm len (i + 1) = sm len i + 2 ^ (24 - len i) by simp [sm, Nat.pos_of_ne_zero e]] at hh
      exact hh
theorem sum_eq {F S n : Nat} {len : Nat → Nat} {w : Nat → Int32} (hS : S ≤ n) (hS2 : S ≤ 96) (hn : n < 2 ^ 31) (hF : S < F) (hw : ∀ s, s < S → len s ≤ 24 ∧ w s = nI (len s)) : fn_X10_sum F (nI S) n w = some (nI (sm len S)) := sum_loop F hS hS2 hn hw S 0 F (by omega) hF
theorem sumOf_loop (F : Nat) {S n : Nat} {len : Nat → Nat} {w : Nat → Int32} (hS : S ≤ n) (hS2 : S ≤ 96) (hn : n < 2 ^ 31) (hw : ∀ s, s < S → len s ≤ 24 ∧ w s = nI (len s)) : ∀ (d i k : Nat), i + d = S → d < k → ∃ x : Nat, lf_X12_sumOf_4 F (nI S) n w k (nI (sm len i)) (nI i) = some (nI x) ∧ x < 2 ^ 31 ∧ (sm len S ≤ 16777216 → x = sm len S) ∧ (16777216 < sm len S → 16777216 < x) := by
  intro d
  induction d with
  | zero =>
    intro i k hi hk
    obtain ⟨k, rfl⟩ : ∃ q, k = q + 1 := ⟨k - 1, by omega⟩
    have hb := sm_le len S
    refine ⟨sm len S, ?_, by omega, fun _ => rfl, fun h => h⟩
    show bf_X12_sumOf_4 F (nI S) n w (fun a b => lf_X12_sumOf_4 F (nI S) n w k a b) (nI (sm len i)) (nI i) = _
    unfold bf_X12_sumOf_4
    rw [if_pos (nI_le (by omega) (by omega)), show i = S by omega]
  | succ d ih =>
    intro i k hi hk
    obtain ⟨k, rfl⟩ : ∃ q, k = q + 1 := ⟨k - 1, by omega⟩
    obtain ⟨g1, g2⟩ := hw i (by omega)
    have hbi := sm_le len i
    have hm : sm len i ≤ sm len S := by
      have := sm_mono len (a := i) (d + 1)
      rw [show i + (d + 1) = S by omega] at this
      exact this
    obtain ⟨x, a1, a2, a3, a4⟩ := ih (i + 1) k (by omega) (by omega)
    have unf : lf_X12_sumOf_4 F (nI S) n w (k + 1) (nI (sm len i)) (nI i) = bf_X12_sumOf_4 F (nI S) n w (fun a b => lf_X12_sumOf_4 F (nI S) n w k a b) (nI (sm len i)) (nI i) := rfl
    by_cases hbig : 16777216 < sm len i
    · refine ⟨sm len i, ?_, by omega, fun h => by omega, fun _ => hbig⟩
      rw [unf]
      unfold bf_X12_sumOf_4
      rw [if_neg (nI_ge (by omega) (by omega)), if_pos (show (16777216 : Int32) < nI (sm len i) from nI_lt (a := 16777216) hbig (by omega))]
    · refine ⟨x, ?_, a2, a3, a4⟩
      rw [unf]
      unfold bf_X12_sumOf_4
      rw [if_neg (nI_ge (by omega) (by omega)), if_neg (show ¬ (16777216 : Int32) < nI (sm len i) from nI_nlt (b := sm len i) (a := 16777216) (by omega) (by decide)), if_neg (nI_in (by omega) hn), nI_clamp (by omega), g2, show nI i + (1 : Int32) = nI (i + 1) from nI_add i 1]
      by_cases e : len i = 0
      · rw [if_pos (by rw [e]; rfl), show nI (sm len i) + (0 : Int32) = nI (sm len i) from nI_add _ 0]
        rw [show sm len (i + 1) = sm len i by simp [sm, e]] at a1
        exact a1
      · rw [if_neg (show ¬ nI (len i) = 0 from fun z => e ((nI_eq (b := 0) (by omega) (by decide)).mp z)), if_neg (gin (by omega) (by omega)), (share_eq F g1).2, show nI (sm len i) + nI (2 ^ (24 - len i)) = nI (sm len i + 2 ^ (24 - len i)) from nI_add _ _]
        rw [show sm len (i + 1) = sm len i + 2 ^ (24 - len i) by simp [sm, Nat.pos_of_ne_zero e]] at a1
        exact a1
theorem sumOf_eq {F S n : Nat} {len : Nat → Nat} {w : Nat → Int32} (hS : S ≤ n) (hS2 : S ≤ 96) (hn : n < 2 ^ 31) (hF : S < F) (hw : ∀ s, s < S → len s ≤ 24 ∧ w s = nI (len s)) : ∃ x : Nat, fn_X12_sumOf F (nI S) n w = some (nI x) ∧ x < 2 ^ 31 ∧ (sm len S ≤ 16777216 → x = sm len S) ∧ (16777216 < sm len S → 16777216 < x) := sumOf_loop F hS hS2 hn hw S 0 F (by omega) hF
