/-! build: the used symbols. -/
/-- us numbers the used symbols below s, rising -/
def Us (g : Nat → Nat) (s c : Nat) (us : Nat → Nat) : Prop := (∀ k, k < c → us k < s ∧ 0 < g (us k)) ∧ (∀ k l, k < l → l < c → us k < us l) ∧ (∀ x, x < s → 0 < g x → ∃ k, k < c ∧ us k = x) ∧ ∀ k, k < c → nc g (us k) = k
theorem Us.new {g us : Nat → Nat} {s c : Nat} (h : Us g s c us) (hc : nc g s = c) (hg : 0 < g s) : Us g (s + 1) (c + 1) (ext us c s) := by
  obtain ⟨h1, h2, h3, h4⟩ := h
  refine ⟨fun k hk => ?_, fun k l hkl hl => ?_, fun x hx hx2 => ?_, fun k hk => ?_⟩
  · by_cases e : k = c
    · subst e; rw [ext_s]; exact ⟨by omega, hg⟩
    · rw [ext_o e]; exact ⟨by have := (h1 k (by omega)).1; omega, (h1 k (by omega)).2⟩
  · by_cases e : l = c
    · subst e; rw [ext_s, ext_o (by omega)]; exact (h1 k (by omega)).1
    · rw [ext_o e, ext_o (by omega)]; exact h2 k l hkl (by omega)
  · by_cases e : x = s
    · subst e; exact ⟨c, by omega, ext_s⟩
    · obtain ⟨k, k1, k2⟩ := h3 x (by omega) hx2
      exact ⟨k, by omega, by rw [ext_o (by omega)]; exact k2⟩
  · by_cases e : k = c
    · subst e; rw [ext_s]; exact hc
    · rw [ext_o e]; exact h4 k (by omega)
theorem Us.skip {g us : Nat → Nat} {s c : Nat} (h : Us g s c us) (hg : g s = 0) : Us g (s + 1) c us := by
  obtain ⟨h1, h2, h3, h4⟩ := h
  refine ⟨fun k hk => ⟨by have := (h1 k hk).1; omega, (h1 k hk).2⟩, h2, fun x hx hx2 => h3 x ?_ hx2, h4⟩
  have : x ≠ s := fun z => by subst z; omega
  omega
theorem used_loop (F : Nat) {S T : Nat} {t : Nat → Nat} {cX tM : Nat → Int32} (hF : 1000 < F) (hS : S ≤ 96) (hT : T ≤ 600) (hc : ∀ s, s < S → cX s = nI (cnt t T s)) (ht : ∀ k, k < T → t k < S ∧ tM k = nI (t k)) : ∀ (d s k k' : Nat) (us : Nat → Nat) (syX wX usM ctM : Nat → Int32), s + d = S → d < k → d < k' → Us (cnt t T) s (nc (cnt t T) s) us → (∀ j, j < nc (cnt t T) s → syX j = nI (us j) ∧ usM j = nI (us j) ∧ wX j = nI (cnt t T (us j)) ∧ ctM j = nI (cnt t T (us j))) →
    ∃ (us' : Nat → Nat) (syX' wX' usM' ctM' : Nat → Int32), lf_X3_gather_7 F S S S cX k (nI s) (nI (nc (cnt t T) s)) syX wX = some (nI (nc (cnt t T) S), syX', wX') ∧ lf_X12_findUsed_7 F (nI S) (nI T) 600 tM 96 96 k' (nI s) (nI (nc (cnt t T) s)) usM ctM = some (nI (nc (cnt t T) S), usM', ctM') ∧
      Us (cnt t T) S (nc (cnt t T) S) us' ∧ ∀ j, j < nc (cnt t T) S → syX' j = nI (us' j) ∧ usM' j = nI (us' j) ∧ wX' j = nI (cnt t T (us' j)) ∧ ctM' j = nI (cnt t T (us' j)) := by
  intro d
  induction d with
  | zero =>
    intro s k k' us syX wX usM ctM hs hk hk' hU hA
    obtain ⟨k, rfl⟩ : ∃ z, k = z + 1 := ⟨k - 1, by omega⟩
    obtain ⟨k', rfl⟩ : ∃ z, k' = z + 1 := ⟨k' - 1, by omega⟩
    obtain rfl : s = S := by omega
    refine ⟨us, syX, wX, usM, ctM, ?_, ?_, hU, hA⟩
    · show bf_X3_gather_7 F s s s cX (fun a b c d => lf_X3_gather_7 F s s s cX k a b c d) (nI s) (nI (nc (cnt t T) s)) syX wX = _
      unfold bf_X3_gather_7
      rw [if_pos (nI_le (Nat.le_refl _) (by omega))]
    · show bf_X12_findUsed_7 F (nI s) (nI T) 600 tM 96 96 (fun a b c d => lf_X12_findUsed_7 F (nI s) (nI T) 600 tM 96 96 k' a b c d) (nI s) (nI (nc (cnt t T) s)) usM ctM = _
      unfold bf_X12_findUsed_7
      rw [if_pos (nI_le (Nat.le_refl _) (by omega))]
  | succ d ih =>
    intro s k k' us syX wX usM ctM hs hk hk' hU hA
    obtain ⟨k, rfl⟩ : ∃ z, k = z + 1 := ⟨k - 1, by omega⟩
    obtain ⟨k', rfl⟩ : ∃ z, k' = z + 1 := ⟨k' - 1, by omega⟩
    have hcl := cnt_le t s T
    have hcs := nc_le (cnt t T) s
    have ux : lf_X3_gather_7 F S S S cX (k + 1) (nI s) (nI (nc (cnt t T) s)) syX wX = bf_X3_gather_7 F S S S cX (fun a b c d => lf_X3_gather_7 F S S S cX k a b c d) (nI s) (nI (nc (cnt t T) s)) syX wX := rfl
    have um : lf_X12_findUsed_7 F (nI S) (nI T) 600 tM 96 96 (k' + 1) (nI s) (nI (nc (cnt t T) s)) usM ctM = bf_X12_findUsed_7 F (nI S) (nI T) 600 tM 96 96 (fun a b c d => lf_X12_findUsed_7 F (nI S) (nI T) 600 tM 96 96 k' a b c d) (nI s) (nI (nc (cnt t T) s)) usM ctM := rfl
    have hco := countOf_eq (F := F) (T := T) (n := 600) (t := t) (w := tM) (s := s) hT (by decide) (by omega) (by omega) (fun k hk => ⟨by have := (ht k hk).1; omega, (ht k hk).2⟩)
    rw [ux, um]
    unfold bf_X3_gather_7 bf_X12_findUsed_7
    rw [if_neg (nI_ge (by omega) (by omega)), if_neg (nI_ge (by omega) (by omega)), nI_clamp (n := s) (by omega), if_neg (gin (by omega) (by omega)), hc s (by omega), if_neg (gin (by omega) (by omega)), if_neg (nI_ge (by omega) (by omega)), hco, bs, show nI s + (1 : Int32) = nI (s + 1) from nI_add s 1]
    by_cases e : cnt t T s = 0
    · rw [if_pos ((le0 (by omega)).mpr e), if_pos ((le0 (by omega)).mpr e)]
      have en : nc (cnt t T) (s + 1) = nc (cnt t T) s := by simp [nc, e]
      have := ih (s + 1) k k' us syX wX usM ctM (by omega) (by omega) (by omega) (by rw [en]; exact hU.skip e) (by rw [en]; exact hA)
      rw [en] at this
      exact this
    · have en : nc (cnt t T) (s + 1) = nc (cnt t T) s + 1 := by simp [nc, Nat.pos_of_ne_zero e]
      rw [if_neg (fun z => e ((le0 (by omega)).mp z)), if_neg (fun z => e ((le0 (by omega)).mp z)), nI_clamp (n := nc (cnt t T) s) (by omega), if_neg (gin (by omega) (by omega)), if_neg (gin (by omega) (by omega)), if_neg (gin (by omega) (by omega)), if_neg (gin (by omega) (by omega)), show nI (nc (cnt t T) s) + (1 : Int32) = nI (nc (cnt t T) s + 1) from nI_add _ 1]
      have := ih (s + 1) k k' (ext us (nc (cnt t T) s) s) (upd syX (nc (cnt t T) s) (nI s)) (upd wX (nc (cnt t T) s) (nI (cnt t T s))) (upd usM (nc (cnt t T) s) (nI s)) (upd ctM (nc (cnt t T) s) (nI (cnt t T s))) (by omega) (by omega) (by omega) (by rw [en]; exact hU.new rfl (Nat.pos_of_ne_zero e)) (fun j hj => by
        rw [en] at hj
        by_cases ej : j = nc (cnt t T) s
        · subst ej; rw [ext_s, pk_us, pk_us, pk_us, pk_us]; exact ⟨rfl, rfl, rfl, rfl⟩
        · rw [ext_o ej, pk_un ej, pk_un ej, pk_un ej, pk_un ej]; exact hA j (by omega))
      rw [en] at this
      exact this
/-! Sorting: the class's line and the reference's order. -/
/-- the order in which leaf k comes before leaf l stays: ri = rising -/
def late (ri : Bool) (wt : Nat → Nat) (a b : Nat) : Prop := if ri then wt b < wt a else wt a < wt b
/-- li is an order of the first c leaves -/
def Prm (c : Nat) (li : Nat → Nat) : Prop := (∀ i, i < c → li i < c) ∧ ∀ i j, i < c → j < c → li i = li j → i = j
theorem Prm.sur {c : Nat} {li : Nat → Nat} (h : Prm c li) {x : Nat} (hx : x < c) : ∃ i, i < c ∧ li i = x := by
  apply Classical.byContradiction
  intro hn
  have hne : ∀ i, i < c → li i ≠ x := fun i hi z => hn ⟨i, hi, z⟩
  have := pigeon (c - 1) c (fun i => if li i < x then li i else li i - 1) (fun i hi => by
    have h1 := h.1 i hi
    have h2 := hne i hi
    by_cases e : li i < x
    · simp only [e, if_true]; omega
    · simp only [e, if_false]; omega) (fun i j hi hj e => by
    have h1 := hne i hi
    have h2 := hne j hj
    refine h.2 i j hi hj ?_
    by_cases ei : li i < x
    · by_cases ej : li j < x
      · simp only [ei, ej, if_true] at e; exact e
      · simp only [ei, ej, if_true, if_false] at e; omega
    · by_cases ej : li j < x
      · simp only [ei, ej, if_true, if_false] at e; omega
      · simp only [ei, ej, if_false] at e; omega)
  omega
