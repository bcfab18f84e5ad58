/-! Reading one code: the class's tree against the reference's search. -/
theorem m1s : ∀ s, s < 96 → ¬ (0 : Int32) ≤ (-1 : Int32) - nI s ∧ ¬ (-1 : Int32) - nI s = 0 ∧ (-1 : Int32) - ((-1 : Int32) - nI s) = nI s := by decide +kernel
/-- what a loaded table gives for reading -/
def Rd (io : Bool) (S K : Nat) (len : Nat → Nat) (N : Nat) (pre : Nat → Nat × Nat) (below lenM codesM : Nat → Int32) : Prop :=
  (S ≤ 96 ∧ K ≤ 24 ∧ 1 ≤ N ∧ N ≤ S + K ∧ 0 < ncA len S) ∧ (∀ s, s < S → len s ≤ 24 ∧ lenM s = nI (len s)) ∧ (∀ s, s < S → 0 < len s → cd io S len s ≤ 16777216 ∧ codesM s = nI (cd io S len s)) ∧ Tree io S len N pre below
/-- some symbol from i on has a longer code that begins so -/
def begF (io : Bool) (S : Nat) (len : Nat → Nat) (u m i : Nat) : Prop := ∃ s, i ≤ s ∧ s < S ∧ m < len s ∧ cd io S len s / 2 ^ (len s - m) = u
theorem scan_loop (F : Nat) {io : Bool} {S K N u m nb : Nat} {len : Nat → Nat} {pre : Nat → Nat × Nat} {below lenM codesM bits : Nat → Int32} {rec4 : Int32 → Int32 → Int32 → Int32 → Int32 → Option (Int32 × Int32 × Int32 × Int32)} {pl at0 sy : Int32} (h : Rd io S K len N pre below lenM codesM) (hm : 1 ≤ m) (hm2 : m ≤ 24) (hu : u < 2 ^ 31) : ∀ (d i k : Nat) (f : Bool), i + d = S → d < k →
    ((∃ s, i ≤ s ∧ isCod io S len u m s ∧ lf_X12_readCode_45 F (nI S) (nI nb) 96 lenM 96 codesM 6000 bits rec4 k (nI u) (nI m) (b01 f) (nI i) pl at0 sy = some (0, pl, at0 + 1, nI s)) ∨ (∀ s, i ≤ s → ¬ isCod io S len u m s)) ∧
    ((∀ s, i ≤ s → ¬ isCod io S len u m s) → ((f = true ∨ begF io S len u m i) → lf_X12_readCode_45 F (nI S) (nI nb) 96 lenM 96 codesM 6000 bits rec4 k (nI u) (nI m) (b01 f) (nI i) pl at0 sy = rec4 (nI u) (nI m) pl (at0 + 1) sy) ∧ (¬ (f = true ∨ begF io S len u m i) → lf_X12_readCode_45 F (nI S) (nI nb) 96 lenM 96 codesM 6000 bits rec4 k (nI u) (nI m) (b01 f) (nI i) pl at0 sy = some (3, at0, at0, sy))) := by
  obtain ⟨⟨hS, hK, _, _, _⟩, hl, hc, _⟩ := h
  intro d
  induction d with
  | zero =>
    intro i k f hi hk
    obtain ⟨k, rfl⟩ : ∃ q, k = q + 1 := ⟨k - 1, by omega⟩
    have unf : lf_X12_readCode_45 F (nI S) (nI nb) 96 lenM 96 codesM 6000 bits rec4 (k + 1) (nI u) (nI m) (b01 f) (nI i) pl at0 sy = bf_X12_readCode_45 F (nI S) (nI nb) 96 lenM 96 codesM 6000 bits rec4 (fun a b c d e g h => lf_X12_readCode_45 F (nI S) (nI nb) 96 lenM 96 codesM 6000 bits rec4 k a b c d e g h) (nI u) (nI m) (b01 f) (nI i) pl at0 sy := rfl
    rw [unf]
    unfold bf_X12_readCode_45
    rw [if_pos (nI_le (by omega) (by omega))]
    refine ⟨Or.inr fun s hs z => by have := z.1; omega, fun _ => ⟨fun z => ?_, fun z => ?_⟩⟩
    · rcases z with z | ⟨s, s1, s2, _⟩
      · subst z; rw [if_neg (by decide)]
      · omega
    · rw [if_pos (by cases f with
        | true => exact absurd (Or.inl rfl) z
        | false => rfl)]
  | succ d ih =>
    intro i k f hi hk
    obtain ⟨k, rfl⟩ : ∃ q, k = q + 1 := ⟨k - 1, by omega⟩
    obtain ⟨l1, l2⟩ := hl i (by omega)
    have unf : lf_X12_readCode_45 F (nI S) (nI nb) 96 lenM 96 codesM 6000 bits rec4 (k + 1) (nI u) (nI m) (b01 f) (nI i) pl at0 sy = bf_X12_readCode_45 F (nI S) (nI nb) 96 lenM 96 codesM 6000 bits rec4 (fun a b c d e g h => lf_X12_readCode_45 F (nI S) (nI nb) 96 lenM 96 codesM 6000 bits rec4 k a b c d e g h) (nI u) (nI m) (b01 f) (nI i) pl at0 sy := rfl
    by_cases hcod : isCod io S len u m i
    · refine ⟨Or.inl ⟨i, Nat.le_refl _, hcod, ?_⟩, fun z => absurd hcod (z i (Nat.le_refl _))⟩
      obtain ⟨a1, a2, a3, a4⟩ := hcod
      rw [unf]
      unfold bf_X12_readCode_45
      rw [if_neg (nI_ge (by omega) (by omega)), if_neg (nI_in (by omega) (by omega)), nI_clamp (by omega), l2, a3, if_pos rfl, if_neg (gin (by omega) (by omega)), (hc i a1 a2).2, a4, if_pos rfl]
    · -- the symbol has not this code
      let g : Bool := decide (m < len i ∧ cd io S len i / 2 ^ (len i - m) = u)
      have st : lf_X12_readCode_45 F (nI S) (nI nb) 96 lenM 96 codesM 6000 bits rec4 (k + 1) (nI u) (nI m) (b01 f) (nI i) pl at0 sy = lf_X12_readCode_45 F (nI S) (nI nb) 96 lenM 96 codesM 6000 bits rec4 k (nI u) (nI m) (b01 (f || g)) (nI (i + 1)) pl at0 sy := by
        have h94 : bf_X12_readCode_94 F (nI S) (nI nb) 96 lenM 96 codesM 6000 bits rec4 (fun a b c d e g h => lf_X12_readCode_45 F (nI S) (nI nb) 96 lenM 96 codesM 6000 bits rec4 k a b c d e g h) (nI u) (nI m) (b01 f) (nI i) pl at0 sy = lf_X12_readCode_45 F (nI S) (nI nb) 96 lenM 96 codesM 6000 bits rec4 k (nI u) (nI m) (b01 (f || g)) (nI (i + 1)) pl at0 sy := by
          unfold bf_X12_readCode_94
          cases f with
          | true => rw [if_neg (by decide), show nI i + (1 : Int32) = nI (i + 1) from nI_add i 1]; rfl
          | false =>
            rw [if_pos (show b01 false = 0 from rfl), if_neg (nI_in (by omega) (by omega)), nI_clamp (by omega), l2, show nI i + (1 : Int32) = nI (i + 1) from nI_add i 1]
            by_cases q : len i ≤ m
            · rw [if_pos (nI_le q (by omega))]
              have : g = false := by simp [g]; omega
              rw [this]; rfl
            · obtain ⟨c1, c2⟩ := hc i (by omega) (by omega)
              rw [if_neg (nI_ge (by omega) (by omega)), if_neg (gin (by omega) (by omega)), if_neg (gin (by omega) (by omega)), c2, pk_sub (by omega), pk_shrN (by omega) _ (len i - m) (s_l _ (by omega))]
              have cb : cd io S len i / 2 ^ (len i - m) < 2 ^ 31 := Nat.lt_of_le_of_lt (Nat.div_le_self _ _) (by omega)
              by_cases q2 : cd io S len i / 2 ^ (len i - m) = u
              · rw [if_pos (by rw [q2])]
                have : g = true := by simp [g]; exact ⟨by omega, q2⟩
                rw [this]; rfl
              · rw [if_neg (fun z => q2 ((nI_eq cb hu).mp z))]
                have : g = false := by simp [g, q2]
                rw [this]; rfl
        rw [unf]
        unfold bf_X12_readCode_45
        rw [if_neg (nI_ge (by omega) (by omega)), if_neg (nI_in (by omega) (by omega)), nI_clamp (by omega), l2, h94, if_neg (gin (by omega) (by omega))]
        by_cases q : len i = m
        · obtain ⟨c1, c2⟩ := hc i (by omega) (by omega)
          rw [if_pos (by rw [q]), c2, if_neg (fun z => hcod ⟨by omega, by omega, q, (nI_eq (by omega) hu).mp z⟩)]
        · rw [if_neg (fun z => q ((nI_eq (by omega) (by omega)).mp z))]
      obtain ⟨i1, i2⟩ := ih (i + 1) k (f || g) (by omega) (by omega)
      rw [st]
      have allc : (∀ s, i + 1 ≤ s → ¬ isCod io S len u m s) → ∀ s, i ≤ s → ¬ isCod io S len u m s := fun z s hs => by
        by_cases q : s = i
        · subst q; exact hcod
        · exact z s (by omega)
      have bg : (f = true ∨ begF io S len u m i) ↔ ((f || g) = true ∨ begF io S len u m (i + 1)) := by
        constructor
        · rintro (z | ⟨s, s1, s2, s3, s4⟩)
          · exact Or.inl (by simp [z])
          · by_cases q : s = i
            · subst q; exact Or.inl (by simp [g, s3, s4])
            · exact Or.inr ⟨s, by omega, s2, s3, s4⟩
        · rintro (z | ⟨s, s1, s2, s3, s4⟩)
          · rcases (Bool.or_eq_true _ _).mp z with y | y
            · exact Or.inl y
            · have y2 : m < len i ∧ cd io S len i / 2 ^ (len i - m) = u := of_decide_eq_true y
              exact Or.inr ⟨i, Nat.le_refl _, by omega, y2.1, y2.2⟩
          · exact Or.inr ⟨s, by omega, s2, s3, s4⟩
      refine ⟨?_, fun z => ?_⟩
      · rcases i1 with ⟨s, s1, s2, s3⟩ | z
        · exact Or.inl ⟨s, by omega, s2, s3⟩
        · exact Or.inr (allc z)
      · obtain ⟨j1, j2⟩ := i2 (fun s hs => z s (by omega))
        exact ⟨fun y => j1 (bg.mp y), fun y => j2 (fun x => y (bg.mpr x))⟩
theorem step_eq (F : Nat) {S K v b : Nat} {below : Nat → Int32} (hS : S ≤ 96) (hK : K ≤ 24) (hv : v < S + K) (hb : b < 2) : fn_X10_step F (2 * (S + K)) below (nI v) (nI b) = some (below (2 * v + b)) := by
  unfold fn_X10_step bf_X10_step_0
  rw [show (2 : Int32) * nI v + nI b = nI (2 * v + b) by rw [show (2 : Int32) = nI 2 from rfl, pk_mul, nI_add], if_neg (nI_pos (by omega)), if_neg (nI_ge (by omega) (by omega)), if_neg (nI_in (by omega) (by omega)), nI_clamp (by omega)]
/-- one symbol is read, or both fail alike -/
def RdOut (S nb at0 : Nat) (pl sy : Int32) (x : Option (Int32 × Int32 × Int32)) (y : Option (Int32 × Int32 × Int32 × Int32)) : Prop :=
  (∃ s j, s < S ∧ at0 < j ∧ j ≤ nb ∧ x = some (nI s, nI j, pl) ∧ y = some (0, pl, nI j, nI s)) ∨ (∃ j a : Int32, (∃ c, x = some (-3, c, j)) ∧ y = some (3, j, a, sy)) ∨ (∃ j a : Int32, (∃ c, x = some (-2, c, j)) ∧ y = some (2, j, a, sy))
theorem read_loop (F : Nat) {io : Bool} {S K N nb : Nat} {len : Nat → Nat} {pre : Nat → Nat × Nat} {below lenM codesM bits words : Nat → Int32} {pl sy c : Int32} (h : Rd io S K len N pre below lenM codesM) (hF : 1000 < F) (hnb : nb ≤ 6000) (hbits : ∀ i, i < nb → bits i = b01 (wbit words i)) : ∀ (d i k k' w : Nat), i + d = nb → d < k → d < k' → w < N →
    RdOut S nb i pl sy (lf_X8_readSymbol_8 F (nI nb) 188 words (2 * (S + K)) below k (nI w) (nI i) c pl) (lf_X12_readCode_4 F (nI S) (nI nb) 96 lenM 96 codesM 6000 bits k' (nI (pre w).1) (nI (pre w).2) pl (nI i) sy) := by
  obtain ⟨⟨hS, hK, hN1, hN, hnc⟩, hl, hc, hT⟩ := id h
  obtain ⟨t1, t2, t3, t4, t5⟩ := hT
  intro d
  induction d with
  | zero =>
    intro i k k' w hi hk hk' hw
    obtain ⟨k, rfl⟩ : ∃ q, k = q + 1 := ⟨k - 1, by omega⟩
    obtain ⟨k', rfl⟩ : ∃ q, k' = q + 1 := ⟨k' - 1, by omega⟩
    refine Or.inr (Or.inr ⟨nI nb, nI i, ⟨c, ?_⟩, ?_⟩)
    · show bf_X8_readSymbol_8 F (nI nb) 188 words (2 * (S + K)) below (fun a b e g => lf_X8_readSymbol_8 F (nI nb) 188 words (2 * (S + K)) below k a b e g) (nI w) (nI i) c pl = _
      unfold bf_X8_readSymbol_8
      rw [if_pos (nI_le (by omega) (by omega))]
      rfl
    · show bf_X12_readCode_4 F (nI S) (nI nb) 96 lenM 96 codesM 6000 bits (fun a b e g q => lf_X12_readCode_4 F (nI S) (nI nb) 96 lenM 96 codesM 6000 bits k' a b e g q) (nI (pre w).1) (nI (pre w).2) pl (nI i) sy = _
      unfold bf_X12_readCode_4
      rw [if_pos (nI_le (by omega) (by omega))]
  | succ d ih =>
    intro i k k' w hi hk hk' hw
    obtain ⟨k, rfl⟩ : ∃ q, k = q + 1 := ⟨k - 1, by omega⟩
    obtain ⟨k', rfl⟩ : ∃ q, k' = q + 1 := ⟨k' - 1, by omega⟩
    obtain ⟨s0, p1, p2, p3⟩ := t2 w hw
    have v1 : (pre w).1 ≤ 16777216 := by
      rw [← p3]
      exact Nat.le_trans (Nat.div_le_self _ _) (hc s0 p1 (by omega)).1
    have n1 : (pre w).2 + 1 ≤ 24 := by have := (hl s0 p1).1; omega
    obtain ⟨b, hb, hbe⟩ : ∃ b, b < 2 ∧ b01 (wbit words i) = nI b := by
      cases wbit words i with
      | true => exact ⟨1, by decide, rfl⟩
      | false => exact ⟨0, by decide, rfl⟩
    obtain ⟨e1, e2, e3⟩ := t5 w b hw hb
    have gx : lf_X8_readSymbol_8 F (nI nb) 188 words (2 * (S + K)) below (k + 1) (nI w) (nI i) c pl = (if below (2 * w + b) = 0 then some ((-3 : Int32), c, nI i) else (if 0 ≤ below (2 * w + b) then lf_X8_readSymbol_8 F (nI nb) 188 words (2 * (S + K)) below k (below (2 * w + b)) (nI (i + 1)) c pl else some ((-1 : Int32) - below (2 * w + b), nI (i + 1), pl))) := by
      show bf_X8_readSymbol_8 F (nI nb) 188 words (2 * (S + K)) below (fun a b e g => lf_X8_readSymbol_8 F (nI nb) 188 words (2 * (S + K)) below k a b e g) (nI w) (nI i) c pl = _
      unfold bf_X8_readSymbol_8
      rw [if_neg (nI_ge (by omega) (by omega)), get_in F words (by omega) (by omega) (by omega) (by decide), bs, hbe, step_eq F hS hK (by omega) hb, bs, show nI i + (1 : Int32) = nI (i + 1) from nI_add i 1]
      rfl
    have gy : lf_X12_readCode_4 F (nI S) (nI nb) 96 lenM 96 codesM 6000 bits (k' + 1) (nI (pre w).1) (nI (pre w).2) pl (nI i) sy = lf_X12_readCode_45 F (nI S) (nI nb) 96 lenM 96 codesM 6000 bits (fun a b e g q => lf_X12_readCode_4 F (nI S) (nI nb) 96 lenM 96 codesM 6000 bits k' a b e g q) F (nI (2 * (pre w).1 + b)) (nI ((pre w).2 + 1)) (b01 false) (nI 0) pl (nI i) sy := by
      show bf_X12_readCode_4 F (nI S) (nI nb) 96 lenM 96 codesM 6000 bits (fun a b e g q => lf_X12_readCode_4 F (nI S) (nI nb) 96 lenM 96 codesM 6000 bits k' a b e g q) (nI (pre w).1) (nI (pre w).2) pl (nI i) sy = _
      unfold bf_X12_readCode_4
      have m2 : (2 : Int32) * nI (pre w).1 = nI (2 * (pre w).1) := by rw [show (2 : Int32) = nI 2 from rfl, pk_mul]
      rw [if_neg (nI_ge (by omega) (by omega)), if_neg (nI_in (by omega) (by omega)), nI_clamp (by omega), hbits i (by omega), hbe, m2, show nI (pre w).2 + (1 : Int32) = nI ((pre w).2 + 1) from nI_add _ 1]
      have hb' : b = 0 ∨ b = 1 := by omega
      rcases hb' with rfl | rfl
      · rw [if_pos (show nI 0 = 0 from rfl), show nI (2 * (pre w).1) + (0 : Int32) = nI (2 * (pre w).1 + 0) from nI_add _ 0]; rfl
      · rw [if_neg (by decide), show nI (2 * (pre w).1) + (1 : Int32) = nI (2 * (pre w).1 + 1) from nI_add _ 1]; rfl
    obtain ⟨s1, s2⟩ := scan_loop F (nb := nb) (bits := bits) (rec4 := fun a b e g q => lf_X12_readCode_4 F (nI S) (nI nb) 96 lenM 96 codesM 6000 bits k' a b e g q) (pl := pl) (at0 := nI i) (sy := sy) h (u := 2 * (pre w).1 + b) (m := (pre w).2 + 1) (by omega) n1 (by omega) S 0 F false (by omega) (by omega)
    rw [← gy] at s1 s2
    have ei : nI i + (1 : Int32) = nI (i + 1) := nI_add i 1
    rw [gx]
    rcases s1 with ⟨s, _, z1, z2⟩ | z
    · have hs : s < 96 := by have := z1.1; omega
      obtain ⟨q1, q2, q3⟩ := m1s s hs
      rw [e1 s z1, if_neg q2, if_neg q1, q3]
      exact Or.inl ⟨s, i + 1, z1.1, by omega, by omega, rfl, by rw [z2, ei]⟩
    · obtain ⟨j1, j2⟩ := s2 z
      by_cases hp : isPre io S len (2 * (pre w).1 + b) ((pre w).2 + 1)
      · obtain ⟨x, x1, x2⟩ := t3 _ _ hp
        have x0 : 0 < x := by
          rcases Nat.eq_zero_or_pos x with q | q
          · subst q
            rw [t1] at x2
            have := congrArg Prod.snd x2
            simp only at this
            omega
          · exact q
        rw [e2 x x1 x2, if_neg (fun y => by have := (nI_e0 (by omega)).mp y; omega), if_pos (nI_pos' (by omega))]
        have j3 := j1 (Or.inr (by obtain ⟨s, a1, a2, a3⟩ := hp; exact ⟨s, by omega, a1, a2, a3⟩))
        have ihx := ih (i + 1) k k' x (by omega) (by omega) (by omega) x1
        rw [x2] at ihx
        rw [j3, ei]
        rcases ihx with ⟨s, j, y1, y2, y3, y4⟩ | y
        · exact Or.inl ⟨s, j, y1, by omega, y3, y4⟩
        · exact Or.inr y
      · rw [e3 (fun ⟨s, y⟩ => z s (by omega) y) hp, if_pos rfl]
        have j4 := j2 (by
          rintro (y | ⟨s, a0, a1, a2, a3⟩)
          · exact absurd y (by decide)
          · exact hp ⟨s, a1, a2, a3⟩)
        exact Or.inr (Or.inl ⟨nI i, nI i, ⟨c, rfl⟩, j4⟩)
