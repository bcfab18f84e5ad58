/-! build: sorting. -/
def sg (ri : Bool) : Int32 := if ri then 1 else -1
theorem sg_le {ri : Bool} {wt : Nat → Nat} {a b : Nat} (ha : wt a ≤ 600) (hb : wt b ≤ 600) : sg ri * nI (wt a) ≤ sg ri * nI (wt b) ↔ ¬ late ri wt a b := by
  cases ri with
  | true =>
    show (1 : Int32) * nI (wt a) ≤ 1 * nI (wt b) ↔ ¬ wt b < wt a
    rw [Int32.one_mul, Int32.one_mul, nI_leI (by omega) (by omega)]
    omega
  | false =>
    show (-1 : Int32) * nI (wt a) ≤ (-1) * nI (wt b) ↔ ¬ wt a < wt b
    rw [show (-1 : Int32) * nI (wt a) = - nI (wt a) by grind, show (-1 : Int32) * nI (wt b) = - nI (wt b) by grind, Int32.le_iff_toInt_le, Int32.toInt_neg, Int32.toInt_neg, nI_toInt (by omega), nI_toInt (by omega), Int.bmod_eq_of_le (by omega) (by omega), Int.bmod_eq_of_le (by omega) (by omega)]
    omega
/-- sorted: none comes late -/
def Srt (ri : Bool) (wt : Nat → Nat) (c : Nat) (li : Nat → Nat) : Prop := ∀ i j, i < j → j < c → ¬ late ri wt (li i) (li j)
theorem late_tr {ri : Bool} {wt : Nat → Nat} {a b c : Nat} (h1 : ¬ late ri wt a b) (h2 : ¬ late ri wt b c) : ¬ late ri wt a c := by
  unfold late at *
  cases ri <;> simp at * <;> omega
theorem late_as {ri : Bool} {wt : Nat → Nat} {a b : Nat} (h : late ri wt a b) : ¬ late ri wt b a := by
  unfold late at *
  cases ri <;> simp at * <;> omega
/-- leaf c put in at place p -/
def putIn (li : Nat → Nat) (p c : Nat) : Nat → Nat := fun i => if i < p then li i else if i = p then c else li (i - 1)
theorem putIn_prm {li : Nat → Nat} {p c : Nat} (h : Prm c li) (hp : p ≤ c) : Prm (c + 1) (putIn li p c) := by
  obtain ⟨h1, h2⟩ := h
  refine ⟨fun i hi => ?_, fun i j hi hj e => ?_⟩
  · unfold putIn
    by_cases e1 : i < p
    · rw [if_pos e1]; have := h1 i (by omega); omega
    · rw [if_neg e1]
      by_cases e2 : i = p
      · rw [if_pos e2]; omega
      · rw [if_neg e2]; have := h1 (i - 1) (by omega); omega
  · have key : ∀ i, i < c + 1 → (i < p ∧ putIn li p c i = li i) ∨ (i = p ∧ putIn li p c i = c) ∨ (p < i ∧ putIn li p c i = li (i - 1)) := fun i hi => by
      unfold putIn
      by_cases e1 : i < p
      · rw [if_pos e1]; exact Or.inl ⟨e1, rfl⟩
      · rw [if_neg e1]
        by_cases e2 : i = p
        · rw [if_pos e2]; exact Or.inr (Or.inl ⟨e2, rfl⟩)
        · rw [if_neg e2]; exact Or.inr (Or.inr ⟨by omega, rfl⟩)
    rcases key i hi with ⟨a1, a2⟩ | ⟨a1, a2⟩ | ⟨a1, a2⟩ <;> rcases key j hj with ⟨b1, b2⟩ | ⟨b1, b2⟩ | ⟨b1, b2⟩ <;> rw [a2, b2] at e
    · exact h2 i j (by omega) (by omega) e
    · have := h1 i (by omega); omega
    · have := h2 i (j - 1) (by omega) (by omega) e; omega
    · have := h1 j (by omega); omega
    · omega
    · have := h1 (j - 1) (by omega); omega
    · have := h2 (i - 1) j (by omega) (by omega) e; omega
    · have := h1 (i - 1) (by omega); omega
    · have := h2 (i - 1) (j - 1) (by omega) (by omega) e; omega
theorem putIn_srt {ri : Bool} {wt : Nat → Nat} {li : Nat → Nat} {p c : Nat} (h : Srt ri wt c li) (hp : p ≤ c) (hl : ∀ i, i < p → ¬ late ri wt (li i) c) (hr : ∀ i, p ≤ i → i < c → late ri wt (li i) c) : Srt ri wt (c + 1) (putIn li p c) := by
  intro i j hij hj
  unfold putIn
  by_cases a1 : i < p
  · rw [if_pos a1]
    by_cases b1 : j < p
    · rw [if_pos b1]; exact h i j hij (by omega)
    · rw [if_neg b1]
      by_cases b2 : j = p
      · rw [if_pos b2]; exact hl i a1
      · rw [if_neg b2]; exact h i (j - 1) (by omega) (by omega)
  · rw [if_neg a1, if_neg (show ¬ j < p by omega), if_neg (show ¬ j = p by omega)]
    by_cases a2 : i = p
    · rw [if_pos a2]; exact late_as (hr (j - 1) (by omega) (by omega))
    · rw [if_neg a2]; exact h (i - 1) (j - 1) (by omega) (by omega)
theorem sort_in (F : Nat) {ri : Bool} {nX nM c : Nat} {wt li : Nat → Nat} {wX wM : Nat → Int32} {recX : Int32 → Int32 → (Nat → Int32) → Option (Nat → Int32)} {recM : Int32 → Int32 → (Nat → Int32) → Option (Nat → Int32)} {szX szM : Int32} (hnX : nX ≤ 96) (hnM : nM = 96) (hc : c < nX) (hw : ∀ k, k ≤ c → wt k ≤ 600 ∧ wX k = nI (wt k) ∧ wM k = nI (wt k)) (hP : Prm c li) (hS : Srt ri wt c li) : ∀ (p k k' : Nat) (AX AM : Nat → Int32), p ≤ c → p < k → p < k' → (∀ i, i < p → AX i = nI (li i) ∧ AM i = nI (li i)) → (∀ i, p < i → i ≤ c → AX i = nI (li (i - 1)) ∧ AM i = nI (li (i - 1))) → (∀ i, p ≤ i → i < c → late ri wt (li i) c) →
    ∃ (li' : Nat → Nat) (AX' AM' : Nat → Int32), lf_X3_lineUp_12 F szX nX wX nX recX k (sg ri) (nI c) (nI p) AX = recX (sg ri) (nI (c + 1)) AX' ∧ lf_X12_sort_12 F szM nM wM nM recM k' (b01 ri) (nI c) (nI p) AM = recM (b01 ri) (nI (c + 1)) AM' ∧ (∀ i, i ≤ c → AX' i = nI (li' i) ∧ AM' i = nI (li' i)) ∧ Prm (c + 1) li' ∧ Srt ri wt (c + 1) li' := by
  subst hnM
  intro p
  induction p with
  | zero =>
    intro k k' AX AM hp hk hk' h1 h2 h3
    obtain ⟨k, rfl⟩ : ∃ z, k = z + 1 := ⟨k - 1, by omega⟩
    obtain ⟨k', rfl⟩ : ∃ z, k' = z + 1 := ⟨k' - 1, by omega⟩
    refine ⟨putIn li 0 c, upd AX 0 (nI c), upd AM 0 (nI c), ?_, ?_, fun i hi => ?_, putIn_prm hP hp, putIn_srt hS hp (fun i hi => by omega) h3⟩
    · show bf_X3_lineUp_12 F szX nX wX nX recX (fun a b c d => lf_X3_lineUp_12 F szX nX wX nX recX k a b c d) (sg ri) (nI c) (nI 0) AX = _
      unfold bf_X3_lineUp_12 bf_X3_lineUp_62
      rw [if_pos (show nI 0 ≤ 0 by decide), if_neg (nI_in (by omega) (by omega)), nI_clamp (by decide), show nI c + (1 : Int32) = nI (c + 1) from nI_add c 1]
    · show bf_X12_sort_12 F szM 96 wM 96 recM (fun a b c d => lf_X12_sort_12 F szM 96 wM 96 recM k' a b c d) (b01 ri) (nI c) (nI 0) AM = _
      unfold bf_X12_sort_12 bf_X12_sort_87
      rw [if_pos (show nI 0 ≤ 0 by decide), if_neg (nI_in (by omega) (by omega)), nI_clamp (by decide), show nI c + (1 : Int32) = nI (c + 1) from nI_add c 1]
    · unfold putIn
      by_cases e : i = 0
      · subst e; rw [pk_us, pk_us]; exact ⟨rfl, rfl⟩
      · rw [pk_un e, pk_un e, if_neg (by omega), if_neg e]; exact h2 i (by omega) hi
  | succ p ih =>
    intro k k' AX AM hp hk hk' h1 h2 h3
    obtain ⟨k, rfl⟩ : ∃ z, k = z + 1 := ⟨k - 1, by omega⟩
    obtain ⟨k', rfl⟩ : ∃ z, k' = z + 1 := ⟨k' - 1, by omega⟩
    obtain ⟨x1, x2⟩ := h1 p (by omega)
    have lp := hP.1 p (by omega)
    obtain ⟨w1, w2, w3⟩ := hw (li p) (by omega)
    obtain ⟨v1, v2, v3⟩ := hw c (Nat.le_refl _)
    have ux : lf_X3_lineUp_12 F szX nX wX nX recX (k + 1) (sg ri) (nI c) (nI (p + 1)) AX = (if sg ri * nI (wt (li p)) ≤ sg ri * nI (wt c) then recX (sg ri) (nI (c + 1)) (upd AX (p + 1) (nI c)) else lf_X3_lineUp_12 F szX nX wX nX recX k (sg ri) (nI c) (nI p) (upd AX (p + 1) (nI (li p)))) := by
      show bf_X3_lineUp_12 F szX nX wX nX recX (fun a b c d => lf_X3_lineUp_12 F szX nX wX nX recX k a b c d) (sg ri) (nI c) (nI (p + 1)) AX = _
      unfold bf_X3_lineUp_12 bf_X3_lineUp_62
      rw [if_neg (nI_nle (by omega) (by omega)), show nI (p + 1) - (1 : Int32) = nI p from nI_pred p, nI_clamp (n := p) (by omega), nI_clamp (n := p + 1) (by omega), nI_clamp (n := c) (by omega), if_neg (gin (by omega) (by omega)), x1, nI_clamp (n := li p) (by omega), if_neg (gin (by omega) (by omega)), if_neg (gin (by omega) (by omega)), w2, v2, if_neg (gin (by omega) (by omega)), if_neg (gin (by omega) (by omega)), if_neg (gin (by omega) (by omega)), pk_m1, show nI c + (1 : Int32) = nI (c + 1) from nI_add c 1]
    have s67 : bf_X12_sort_67 F szM 96 wM 96 recM (fun a b c d => lf_X12_sort_12 F szM 96 wM 96 recM k' a b c d) (b01 ri) (nI c) (nI (p + 1)) AM = lf_X12_sort_12 F szM 96 wM 96 recM k' (b01 ri) (nI c) (nI p) (upd AM (p + 1) (nI (li p))) := by
      unfold bf_X12_sort_67
      rw [show nI (p + 1) - (1 : Int32) = nI p from nI_pred p, nI_clamp (n := p) (by omega), nI_clamp (n := p + 1) (by omega), if_neg (gin (by omega) (by omega)), if_neg (gin (by omega) (by omega)), x2, pk_m1]
    have s87 : bf_X12_sort_87 F szM 96 wM 96 recM (b01 ri) (nI c) (nI (p + 1)) AM = recM (b01 ri) (nI (c + 1)) (upd AM (p + 1) (nI c)) := by
      unfold bf_X12_sort_87
      rw [nI_clamp (n := p + 1) (by omega), if_neg (gin (by omega) (by omega)), show nI c + (1 : Int32) = nI (c + 1) from nI_add c 1]
    have um : lf_X12_sort_12 F szM 96 wM 96 recM (k' + 1) (b01 ri) (nI c) (nI (p + 1)) AM = (if sg ri * nI (wt (li p)) ≤ sg ri * nI (wt c) then recM (b01 ri) (nI (c + 1)) (upd AM (p + 1) (nI c)) else lf_X12_sort_12 F szM 96 wM 96 recM k' (b01 ri) (nI c) (nI p) (upd AM (p + 1) (nI (li p)))) := by
      show bf_X12_sort_12 F szM 96 wM 96 recM (fun a b c d => lf_X12_sort_12 F szM 96 wM 96 recM k' a b c d) (b01 ri) (nI c) (nI (p + 1)) AM = _
      unfold bf_X12_sort_12
      rw [if_neg (nI_nle (by omega) (by omega)), s67, s87, show nI (p + 1) - (1 : Int32) = nI p from nI_pred p, nI_clamp (n := p) (by omega), nI_clamp (n := c) (by omega), if_neg (gin (by omega) (by omega)), x2, nI_clamp (n := li p) (by omega), if_neg (gin (by omega) (by omega)), if_neg (gin (by omega) (by omega)), w3, v3, if_neg (gin (by omega) (by omega)), if_neg (gin (by omega) (by omega)), if_neg (gin (by omega) (by omega))]
      cases ri with
      | true =>
        rw [if_neg (show ¬ b01 true = 0 by decide)]
        have : (nI (wt (li p)) ≤ nI (wt c)) = (sg true * nI (wt (li p)) ≤ sg true * nI (wt c)) := by
          show _ = ((1 : Int32) * nI (wt (li p)) ≤ 1 * nI (wt c))
          rw [Int32.one_mul, Int32.one_mul]
        simp only [this]
      | false =>
        rw [if_pos (show b01 false = 0 from rfl)]
        have q1 : nI (wt c) ≤ nI (wt (li p)) ↔ sg false * nI (wt (li p)) ≤ sg false * nI (wt c) := by
          rw [sg_le w1 v1, nI_leI (by omega) (by omega)]
          show _ ↔ ¬ wt (li p) < wt c
          omega
        by_cases q2 : nI (wt c) ≤ nI (wt (li p))
        · rw [if_pos q2, if_pos (q1.mp q2)]
        · rw [if_neg q2, if_neg (fun z => q2 (q1.mpr z))]
    rw [ux, um]
    by_cases q : sg ri * nI (wt (li p)) ≤ sg ri * nI (wt c)
    · rw [if_pos q, if_pos q]
      have nl : ¬ late ri wt (li p) c := (sg_le (a := li p) (b := c) w1 v1).mp q
      refine ⟨putIn li (p + 1) c, _, _, rfl, rfl, fun i hi => ?_, putIn_prm hP hp, putIn_srt hS hp (fun i hi => ?_) h3⟩
      · unfold putIn
        by_cases e1 : i < p + 1
        · rw [if_pos e1, pk_un (by omega), pk_un (by omega)]; exact h1 i e1
        · rw [if_neg e1]
          by_cases e2 : i = p + 1
          · subst e2; rw [if_pos rfl, pk_us, pk_us]; exact ⟨rfl, rfl⟩
          · rw [if_neg e2, pk_un e2, pk_un e2]; exact h2 i (by omega) hi
      · by_cases e : i = p
        · subst e; exact nl
        · exact late_tr (hS i p (by omega) (by omega)) nl
    · rw [if_neg q, if_neg q]
      have il : late ri wt (li p) c := Classical.byContradiction fun z => q ((sg_le (a := li p) (b := c) w1 v1).mpr z)
      exact ih k k' _ _ (by omega) (by omega) (by omega) (fun i hi => by rw [pk_un (by omega), pk_un (by omega)]; exact h1 i (by omega)) (fun i h4 h5 => by
        by_cases e : i = p + 1
        · subst e; rw [pk_us, pk_us]; exact ⟨rfl, rfl⟩
        · rw [pk_un e, pk_un e]; exact h2 i (by omega) h5) (fun i h4 h5 => by
        by_cases e : i = p
        · subst e; exact il
        · exact h3 i (by omega) h5)
theorem sort_loop (F : Nat) {ri : Bool} {nX n : Nat} {wt : Nat → Nat} {wX wM : Nat → Int32} (hF : 1000 < F) (hnX : nX ≤ 96) (hn : n ≤ nX) (hw : ∀ k, k < n → wt k ≤ 600 ∧ wX k = nI (wt k) ∧ wM k = nI (wt k)) : ∀ (d c k k' : Nat) (li : Nat → Nat) (AX AM : Nat → Int32), c + d = n → d < k → d < k' → Prm c li → Srt ri wt c li → (∀ i, i < c → AX i = nI (li i) ∧ AM i = nI (li i)) →
    ∃ (li' : Nat → Nat) (AX' AM' : Nat → Int32), lf_X3_lineUp_2 F (nI n) nX wX nX k (sg ri) (nI c) AX = some AX' ∧ lf_X12_sort_2 F (nI n) 96 wM 96 k' (b01 ri) (nI c) AM = some AM' ∧ (∀ i, i < n → AX' i = nI (li' i) ∧ AM' i = nI (li' i)) ∧ Prm n li' ∧ Srt ri wt n li' := by
  intro d
  induction d with
  | zero =>
    intro c k k' li AX AM hc hk hk' hP hS hA
    obtain ⟨k, rfl⟩ : ∃ z, k = z + 1 := ⟨k - 1, by omega⟩
    obtain ⟨k', rfl⟩ : ∃ z, k' = z + 1 := ⟨k' - 1, by omega⟩
    obtain rfl : c = n := by omega
    refine ⟨li, AX, AM, ?_, ?_, hA, hP, hS⟩
    · show bf_X3_lineUp_2 F (nI c) nX wX nX (fun a b d => lf_X3_lineUp_2 F (nI c) nX wX nX k a b d) (sg ri) (nI c) AX = _
      unfold bf_X3_lineUp_2
      rw [if_pos (nI_le (Nat.le_refl _) (by omega))]
    · show bf_X12_sort_2 F (nI c) 96 wM 96 (fun a b d => lf_X12_sort_2 F (nI c) 96 wM 96 k' a b d) (b01 ri) (nI c) AM = _
      unfold bf_X12_sort_2
      rw [if_pos (nI_le (Nat.le_refl _) (by omega))]
  | succ d ih =>
    intro c k k' li AX AM hc hk hk' hP hS hA
    obtain ⟨k, rfl⟩ : ∃ z, k = z + 1 := ⟨k - 1, by omega⟩
    obtain ⟨k', rfl⟩ : ∃ z, k' = z + 1 := ⟨k' - 1, by omega⟩
    obtain ⟨li1, AX1, AM1, r1, r2, r3, r4, r5⟩ := sort_in F (szX := nI n) (szM := nI n) (recX := fun a b d => lf_X3_lineUp_2 F (nI n) nX wX nX k a b d) (recM := fun a b d => lf_X12_sort_2 F (nI n) 96 wM 96 k' a b d) hnX rfl (c := c) (by omega) (fun k hk => hw k (by omega)) hP hS c F F AX AM (Nat.le_refl _) (by omega) (by omega) hA (fun i h1 h2 => by omega) (fun i h1 h2 => by omega)
    obtain ⟨li2, AX2, AM2, u1, u2, u3⟩ := ih (c + 1) k k' li1 AX1 AM1 (by omega) (by omega) (by omega) r4 r5 (fun i hi => r3 i (by omega))
    refine ⟨li2, AX2, AM2, ?_, ?_, u3⟩
    · show bf_X3_lineUp_2 F (nI n) nX wX nX (fun a b d => lf_X3_lineUp_2 F (nI n) nX wX nX k a b d) (sg ri) (nI c) AX = _
      unfold bf_X3_lineUp_2
      rw [if_neg (nI_ge (by omega) (by omega))]
      exact r1.trans u1
    · show bf_X12_sort_2 F (nI n) 96 wM 96 (fun a b d => lf_X12_sort_2 F (nI n) 96 wM 96 k' a b d) (b01 ri) (nI c) AM = _
      unfold bf_X12_sort_2
      rw [if_neg (nI_ge (by omega) (by omega))]
      exact r2.trans u2
theorem sort_eq (F : Nat) {ri : Bool} {nX n : Nat} {wt : Nat → Nat} {wX wM : Nat → Int32} (AX AM : Nat → Int32) (hF : 1000 < F) (hnX : nX ≤ 96) (hn : n ≤ nX) (hw : ∀ k, k < n → wt k ≤ 600 ∧ wX k = nI (wt k) ∧ wM k = nI (wt k)) :
    ∃ (li : Nat → Nat) (AX' AM' : Nat → Int32), fn_X3_lineUp F (nI n) nX wX nX AX (sg ri) = some AX' ∧ fn_X12_sort F (nI n) 96 wM 96 AM (b01 ri) = some AM' ∧ (∀ i, i < n → AX' i = nI (li i) ∧ AM' i = nI (li i)) ∧ Prm n li ∧ Srt ri wt n li :=
  sort_loop F hF hnX hn hw n 0 F F (fun _ => 0) AX AM (by omega) (by omega) (by omega) ⟨fun i hi => by omega, fun i j hi => by omega⟩ (fun i j hij hj => by omega) (fun i hi => by omega)
