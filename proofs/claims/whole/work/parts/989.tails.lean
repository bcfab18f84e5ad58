section
/-! build: what is common to all methods, behind the depths. -/
/-- the greatest of the first n -/
def mx (d : Nat → Nat) : Nat → Nat
  | 0 => 0
  | n + 1 => if mx d n < d n then d n else mx d n
theorem mx_ge {d : Nat → Nat} {k : Nat} : ∀ n, k < n → d k ≤ mx d n
  | 0, h => absurd h (Nat.not_lt_zero _)
  | n + 1, h => by
    show d k ≤ (if mx d n < d n then d n else mx d n)
    by_cases e : k = n
    · subst e; split <;> omega
    · have := mx_ge (d := d) n (show k < n by omega)
      split <;> omega
theorem mx_le {d : Nat → Nat} {B : Nat} : ∀ n, (∀ k, k < n → d k ≤ B) → mx d n ≤ B
  | 0, _ => Nat.zero_le _
  | n + 1, h => by
    show (if mx d n < d n then d n else mx d n) ≤ B
    have := mx_le n (fun k hk => h k (Nat.lt_succ_of_lt hk))
    have := h n (Nat.lt_succ_self n)
    split <;> omega
theorem deep_loop (F : Nat) {S n : Nat} {d : Nat → Nat} {dX : Nat → Int32} (hS : S ≤ 96) (hnS : n ≤ S) (hd : ∀ x, x < n → d x ≤ 200 ∧ dX x = nI (d x)) : ∀ (e j k : Nat), j + e = n → e < k → lf_X3_deepest_4 F (nI n) S dX k (nI (mx d j)) (nI j) = some (nI (mx d n)) := by
  intro e
  induction e with
  | zero =>
    intro j k hj hk
    obtain ⟨k, rfl⟩ : ∃ z, k = z + 1 := ⟨k - 1, by omega⟩
    obtain rfl : j = n := by omega
    show bf_X3_deepest_4 F (nI j) S dX (fun a b => lf_X3_deepest_4 F (nI j) S dX k a b) (nI (mx d j)) (nI j) = _
    unfold bf_X3_deepest_4
    rw [if_pos (nI_le (Nat.le_refl _) (by omega))]
  | succ e ih =>
    intro j k hj hk
    obtain ⟨k, rfl⟩ : ∃ z, k = z + 1 := ⟨k - 1, by omega⟩
    have hb : mx d j ≤ 200 := mx_le j (fun x hx => (hd x (by omega)).1)
    have hdj := hd j (by omega)
    show bf_X3_deepest_4 F (nI n) S dX (fun a b => lf_X3_deepest_4 F (nI n) S dX k a b) (nI (mx d j)) (nI j) = _
    unfold bf_X3_deepest_4
    rw [if_neg (nI_ge (by omega) (by omega)), nI_clamp (n := j) (by omega), if_neg (gin (by omega) (by omega)), show nI j + (1 : Int32) = nI (j + 1) from nI_add j 1, hdj.2]
    have := ih (j + 1) k (by omega) (by omega)
    rw [show nI (mx d (j + 1)) = (if nI (mx d j) < nI (d j) then nI (d j) else nI (mx d j)) by
      show nI (if mx d j < d j then d j else mx d j) = _
      by_cases h : mx d j < d j
      · rw [if_pos h, if_pos (nI_lt h (by omega))]
      · rw [if_neg h, if_neg (fun z => nI_nlt (by omega) (by omega) z)]] at this
    exact this
theorem long_loop (F : Nat) {n : Nat} {d : Nat → Nat} {fM : Nat → Int32} (hn : n ≤ 96) (hd : ∀ x, x < n → d x ≤ 200 ∧ fM x = nI (d x)) : ∀ (e j k : Nat), j + e = n → e < k → lf_X12_longest_4 F (nI n) 96 fM k (nI (mx d j)) (nI j) = some (nI (mx d n)) := by
  intro e
  induction e with
  | zero =>
    intro j k hj hk
    obtain ⟨k, rfl⟩ : ∃ z, k = z + 1 := ⟨k - 1, by omega⟩
    obtain rfl : j = n := by omega
    show bf_X12_longest_4 F (nI j) 96 fM (fun a b => lf_X12_longest_4 F (nI j) 96 fM k a b) (nI (mx d j)) (nI j) = _
    unfold bf_X12_longest_4
    rw [if_pos (nI_le (Nat.le_refl _) (by omega))]
  | succ e ih =>
    intro j k hj hk
    obtain ⟨k, rfl⟩ : ∃ z, k = z + 1 := ⟨k - 1, by omega⟩
    have hb : mx d j ≤ 200 := mx_le j (fun x hx => (hd x (by omega)).1)
    have hdj := hd j (by omega)
    show bf_X12_longest_4 F (nI n) 96 fM (fun a b => lf_X12_longest_4 F (nI n) 96 fM k a b) (nI (mx d j)) (nI j) = _
    unfold bf_X12_longest_4
    rw [if_neg (nI_ge (by omega) (by omega)), nI_clamp (n := j) (by omega), if_neg (gin (by omega) (by omega)), show nI j + (1 : Int32) = nI (j + 1) from nI_add j 1, hdj.2]
    have := ih (j + 1) k (by omega) (by omega)
    by_cases h : mx d j < d j
    · rw [show mx d (j + 1) = d j from if_pos h] at this
      rw [if_neg (nI_ge h (by omega)), if_neg (gin (by omega) (by omega))]
      exact this
    · rw [show mx d (j + 1) = mx d j from if_neg h] at this
      rw [if_pos (nI_le (by omega) (by omega))]
      exact this
/-- the cost of the leaves from j on -/
def cst (wt d : Nat → Nat) : Nat → Nat → Int64 → Int64
  | 0, _, x => x
  | e + 1, j, x => cst wt d e (j + 1) (x + ((nI (wt j)).toInt64 * (nI (d j)).toInt64))
theorem cost_loop (F : Nat) {S n : Nat} {wt d : Nat → Nat} {wX dX : Nat → Int32} (hS : S ≤ 96) (hnS : n ≤ S) (hd : ∀ x, x < n → wX x = nI (wt x) ∧ dX x = nI (d x)) : ∀ (e j k : Nat) (x : Int64), j + e = n → e < k → lf_X3_cost_4 F (nI n) S wX S dX k x (nI j) = some (cst wt d e j x) := by
  intro e
  induction e with
  | zero =>
    intro j k x hj hk
    obtain ⟨k, rfl⟩ : ∃ z, k = z + 1 := ⟨k - 1, by omega⟩
    show bf_X3_cost_4 F (nI n) S wX S dX (fun a b => lf_X3_cost_4 F (nI n) S wX S dX k a b) x (nI j) = _
    unfold bf_X3_cost_4
    rw [if_pos (nI_le (by omega) (by omega))]
    rfl
  | succ e ih =>
    intro j k x hj hk
    obtain ⟨k, rfl⟩ : ∃ z, k = z + 1 := ⟨k - 1, by omega⟩
    show bf_X3_cost_4 F (nI n) S wX S dX (fun a b => lf_X3_cost_4 F (nI n) S wX S dX k a b) x (nI j) = _
    unfold bf_X3_cost_4
    rw [if_neg (nI_ge (by omega) (by omega)), nI_clamp (n := j) (by omega), if_neg (gin (by omega) (by omega)), if_neg (gin (by omega) (by omega)), show nI j + (1 : Int32) = nI (j + 1) from nI_add j 1, (hd j (by omega)).1, (hd j (by omega)).2]
    exact ih (j + 1) k _ (by omega) (by omega)
/-- the lengths of the first j leaves' symbols are laid, all others are 0 -/
def Lu (g d : Nat → Nat) (S j : Nat) (lens : Nat → Int32) : Prop := ∀ s, s < S → lens s = nI (if 0 < g s ∧ nc g s < j then d (nc g s) else 0)
theorem Lu.zero {g d : Nat → Nat} {S : Nat} {lens : Nat → Int32} (h : ∀ s, s < S → lens s = 0) : Lu g d S 0 lens := fun s hs => by
  rw [if_neg (fun z => Nat.not_lt_zero _ z.2), h s hs]; rfl
theorem Lu.step {g d us : Nat → Nat} {S n j : Nat} {lens : Nat → Int32} (hU : Us g S n us) (hj : j < n) (h : Lu g d S j lens) : Lu g d S (j + 1) (upd lens (us j) (nI (d j))) := fun s hs => by
  by_cases e : s = us j
  · subst e
    rw [pk_us, if_pos ⟨(hU.1 j hj).2, by rw [hU.2.2.2 j hj]; omega⟩, hU.2.2.2 j hj]
  · rw [pk_un e, h s hs]
    by_cases hg : 0 < g s
    · have : nc g s ≠ j := fun z => by
        obtain ⟨k, k1, k2⟩ := hU.2.2.1 s hs hg
        have h4 := hU.2.2.2 k k1
        rw [k2, z] at h4
        subst h4
        exact e k2.symm
      by_cases h2 : nc g s < j
      · rw [if_pos ⟨hg, h2⟩, if_pos ⟨hg, by omega⟩]
      · rw [if_neg (fun z => h2 z.2), if_neg (fun z => by have := z.2; omega)]
    · rw [if_neg (fun z => hg z.1), if_neg (fun z => hg z.1)]
theorem Lu.all {g d us : Nat → Nat} {S n : Nat} {lens : Nat → Int32} (hU : Us g S n us) (h : Lu g d S n lens) : ∀ s, s < S → lens s = nI (lenU g d s) := fun s hs => by
  rw [h s hs]
  by_cases hg : 0 < g s
  · obtain ⟨k, k1, k2⟩ := hU.2.2.1 s hs hg
    have h4 := hU.2.2.2 k k1
    rw [k2] at h4
    rw [if_pos ⟨hg, by omega⟩]; unfold lenU; rw [if_pos hg]
  · rw [if_neg (fun z => hg z.1)]; unfold lenU; rw [if_neg hg]
theorem takeL_loop (F : Nat) {S K n nc' : Nat} {io : Bool} {g d us : Nat → Nat} {sy dX : Nat → Int32} {n0 i0 l0 f0 : Int32} {codes below : Nat → Int32} (hS : S ≤ 96) (hnS : n ≤ S) (hU : Us g S n us) (hd : ∀ x, x < n → sy x = nI (us x) ∧ dX x = nI (d x)) : ∀ (e j k : Nat) (lens : Nat → Int32), j + e = n → e < k → Lu g d S j lens → ∃ lens', Lu g d S n lens' ∧ lf_X10_takeLengths_10 F (nI S) (nI K) S S nc' (nI n) S sy S dX k (b01 io) (nI j) n0 i0 l0 f0 lens codes below = (fn_X10_forge F (nI S) (nI K) (b01 io) S lens' S nc' n0 l0 f0 codes below).bind fun v47 => some (v47.1, b01 io, v47.2.1, v47.2.2.1, lens', v47.2.2.2.1, v47.2.2.2.2) := by
  intro e
  induction e with
  | zero =>
    intro j k lens hj hk h
    obtain ⟨k, rfl⟩ : ∃ z, k = z + 1 := ⟨k - 1, by omega⟩
    obtain rfl : j = n := by omega
    refine ⟨lens, h, ?_⟩
    show bf_X10_takeLengths_10 F (nI S) (nI K) S S nc' (nI j) S sy S dX (fun a b c d e f g h i => lf_X10_takeLengths_10 F (nI S) (nI K) S S nc' (nI j) S sy S dX k a b c d e f g h i) (b01 io) (nI j) n0 i0 l0 f0 lens codes below = _
    unfold bf_X10_takeLengths_10
    rw [if_pos (nI_le (Nat.le_refl _) (by omega)), if_neg (fun z => z (b01_cases io))]
  | succ e ih =>
    intro j k lens hj hk h
    obtain ⟨k, rfl⟩ : ∃ z, k = z + 1 := ⟨k - 1, by omega⟩
    obtain ⟨lens', r1, r2⟩ := ih (j + 1) k _ (by omega) (by omega) (h.step hU (show j < n by omega))
    refine ⟨lens', r1, ?_⟩
    have hu := (hU.1 j (by omega)).1
    show bf_X10_takeLengths_10 F (nI S) (nI K) S S nc' (nI n) S sy S dX (fun a b c d e f g h i => lf_X10_takeLengths_10 F (nI S) (nI K) S S nc' (nI n) S sy S dX k a b c d e f g h i) (b01 io) (nI j) n0 i0 l0 f0 lens codes below = _
    unfold bf_X10_takeLengths_10
    rw [if_neg (nI_ge (by omega) (by omega)), nI_clamp (n := j) (by omega), (hd j (by omega)).1, (hd j (by omega)).2, nI_clamp (n := us j) (by omega), if_neg (gin (by omega) (by omega)), if_neg (gin (by omega) (by omega)), if_neg (gin (by omega) (by omega)), show nI j + (1 : Int32) = nI (j + 1) from nI_add j 1]
    exact r2
end
