/-! key: the reference's beginnings against the class's nodes. -/
section
variable {io : Bool} {S K N : Nat} {len : Nat → Nat} {pre : Nat → Nat × Nat} {below lenM codesM : Nat → Int32}
theorem isPre_up {v b n : Nat} (hb : b < 2) (h : isPre io S len (2 * v + b) (n + 1)) : isPre io S len v n := by
  obtain ⟨s, a1, a2, a3⟩ := h
  refine ⟨s, a1, by omega, ?_⟩
  rw [show len s - n = len s - (n + 1) + 1 by omega, Nat.pow_succ, ← Nat.div_div_eq_div_mul, a3]
  omega
theorem isCod_up {v b n s : Nat} (hb : b < 2) (h : isCod io S len (2 * v + b) (n + 1) s) : isPre io S len v n := by
  obtain ⟨a1, a2, a3, a4⟩ := h
  refine ⟨s, a1, by omega, ?_⟩
  rw [show len s - n = 1 by omega, Nat.pow_one, a4]
  omega
theorem no_both (hS : S ≤ 96) (hNS : N < 2 ^ 31) (hT : Tree io S len N pre below) {u m s : Nat} (hp : isPre io S len u m) (hc : isCod io S len u m s) : False := by
  obtain ⟨t1, t2, t3, t4, t5⟩ := hT
  obtain ⟨m, rfl⟩ : ∃ z, m = z + 1 := ⟨m - 1, by have := hc.2.1; have := hc.2.2.1; omega⟩
  obtain ⟨v, b, hb, rfl⟩ : ∃ v b, b < 2 ∧ u = 2 * v + b := ⟨u / 2, u % 2, by omega, by omega⟩
  obtain ⟨w0, p1, p2⟩ := t3 _ _ (isPre_up hb hp)
  obtain ⟨w1, q1, q2⟩ := t3 _ _ hp
  obtain ⟨e1, e2, _⟩ := t5 w0 b p1 hb
  rw [p2] at e1 e2
  have x1 := e1 s hc
  have x2 := e2 w1 q1 q2
  have hs := hc.1
  have := (m1s s (by omega)).1
  rw [← x1, x2] at this
  exact this (nI_pos' (by omega))
/-- below a beginning of a FULL table there is a code's end or a beginning, by either bit -/
theorem child_ex (hS : S ≤ 96) (hNS : N < 2 ^ 31) (hl : ∀ s, s < S → len s ≤ 24) (hT : Tree io S len N pre below) (hdv : ∀ s, s < S → 0 < len s → 2 ^ (24 - len s) ∣ stO io S len s)
    (hcov : ∀ x, x < 16777216 → ∃ s, s < S ∧ 0 < len s ∧ stO io S len s ≤ x ∧ x < stO io S len s + 2 ^ (24 - len s)) (hst : ∀ s, s < S → 0 < len s → stO io S len s < 16777216) {v n b : Nat} (hp : isPre io S len v n) (hb : b < 2) : (∃ s, isCod io S len (2 * v + b) (n + 1) s) ∨ isPre io S len (2 * v + b) (n + 1) := by
  obtain ⟨s', a1, a2, a3⟩ := id hp
  have l' := hl s' a1
  have hv : v < 2 ^ n := by
    rw [← a3, cd_div (by omega) l']
    refine (Nat.div_lt_iff_lt_mul (Nat.pow_pos (by decide))).mpr ?_
    rw [← Nat.pow_add, show n + (24 - n) = 24 by omega]
    exact hst s' a1 (by omega)
  have hx : (2 * v + b) * 2 ^ (24 - (n + 1)) < 16777216 := by
    have h1 : (2 * v + b) * 2 ^ (24 - (n + 1)) < 2 ^ (n + 1) * 2 ^ (24 - (n + 1)) := Nat.mul_lt_mul_of_pos_right (by rw [Nat.pow_succ]; omega) (Nat.pow_pos (by decide))
    rw [← Nat.pow_add, show n + 1 + (24 - (n + 1)) = 24 by omega] at h1
    exact h1
  obtain ⟨s, c1, c2, c3, c4⟩ := hcov _ hx
  have ls := hl s c1
  have hcd : cd io S len s = (2 * v + b) * 2 ^ (24 - (n + 1)) / 2 ^ (24 - len s) := by
    unfold cd
    obtain ⟨y, hy⟩ := hdv s c1 c2
    have hpos : 0 < 2 ^ (24 - len s) := Nat.pow_pos (by decide)
    rw [hy, Nat.mul_div_cancel_left _ hpos]
    rw [hy] at c3 c4
    refine (Nat.div_eq_of_lt_le ?_ ?_).symm
    · rw [Nat.mul_comm]; exact c3
    · rw [Nat.add_mul y 1, Nat.one_mul, Nat.mul_comm y]; exact c4
  by_cases hn : n + 1 ≤ len s
  · have e1 : cd io S len s / 2 ^ (len s - (n + 1)) = 2 * v + b := by
      rw [hcd, Nat.div_div_eq_div_mul, ← Nat.pow_add, show 24 - len s + (len s - (n + 1)) = 24 - (n + 1) by omega, Nat.mul_div_cancel _ (Nat.pow_pos (by decide))]
    by_cases hn2 : len s = n + 1
    · rw [hn2, Nat.sub_self, Nat.pow_zero, Nat.div_one] at e1
      exact Or.inl ⟨s, c1, c2, hn2, e1⟩
    · exact Or.inr ⟨s, c1, by omega, e1⟩
  · exfalso
    have e1 : cd io S len s = v / 2 ^ (n - len s) := by
      rw [hcd, show 24 - len s = (24 - (n + 1)) + (n + 1 - len s) by omega, Nat.pow_add, ← Nat.div_div_eq_div_mul, Nat.mul_div_cancel _ (Nat.pow_pos (by decide)), show n + 1 - len s = (n - len s) + 1 by omega, Nat.pow_succ, Nat.mul_comm (2 ^ (n - len s)) 2, ← Nat.div_div_eq_div_mul, show (2 * v + b) / 2 = v by omega]
    refine no_both hS hNS hT (u := cd io S len s) (m := len s) (s := s) ⟨s', a1, by omega, ?_⟩ ⟨c1, c2, rfl, rfl⟩
    rw [e1, ← a3, Nat.div_div_eq_div_mul, ← Nat.pow_add, show len s' - n + (n - len s) = len s' - len s by omega]
/-- the reference's beginnings so far -/
def BgI (io : Bool) (S : Nat) (len : Nat → Nat) (M : Nat) (bg : Nat → Nat × Nat) (be bl : Nat → Int32) : Prop :=
  (bg 0 = (0, 0) ∧ 1 ≤ M) ∧ (∀ k, k < M → isPre io S len (bg k).1 (bg k).2 ∧ (bg k).1 < 2 ^ 31 ∧ (bg k).2 < 2 ^ 31 ∧ be k = nI (bg k).1 ∧ bl k = nI (bg k).2) ∧ ∀ k l, k < M → l < M → bg k = bg l → k = l
theorem BgI.le {M : Nat} {bg : Nat → Nat × Nat} {be bl : Nat → Int32} (h : BgI io S len M bg be bl) (hT : Tree io S len N pre below) : M ≤ N := by
  have ex : ∀ k, ∃ w, k < M → w < N ∧ pre w = bg k := fun k => by
    by_cases hk : k < M
    · obtain ⟨w, w1, w2⟩ := hT.2.2.1 _ _ (h.2.1 k hk).1
      exact ⟨w, fun _ => ⟨w1, w2⟩⟩
    · exact ⟨0, fun z => absurd z hk⟩
  refine pigeon N M (fun k => Classical.choose (ex k)) (fun k hk => (Classical.choose_spec (ex k) hk).1) (fun k l hk hl e => ?_)
  refine h.2.2 k l hk hl ?_
  rw [← (Classical.choose_spec (ex k) hk).2, ← (Classical.choose_spec (ex l) hl).2]
  exact congrArg pre e
theorem begin_loop (F : Nat) {M v n : Nat} {bg : Nat → Nat × Nat} {be bl : Nat → Int32} (h : BgI io S len M bg be bl) (hM : M ≤ 16) (hv : v < 2 ^ 31) (hn : n < 2 ^ 31) : ∀ (d i k : Nat), i + d = M → d < k → (∀ j, j < i → bg j ≠ (v, n)) →
    ∃ t, lf_X12_beginning_2 F (nI M) 16 be 16 bl k (nI v) (nI n) (nI i) = some (nI t) ∧ ((t < M ∧ bg t = (v, n)) ∨ (t = M ∧ ∀ j, j < M → bg j ≠ (v, n))) := by
  intro d
  induction d with
  | zero =>
    intro i k hi hk hj
    obtain ⟨k, rfl⟩ : ∃ z, k = z + 1 := ⟨k - 1, by omega⟩
    obtain rfl : i = M := by omega
    refine ⟨i, ?_, Or.inr ⟨rfl, hj⟩⟩
    show bf_X12_beginning_2 F (nI i) 16 be 16 bl (fun a b c => lf_X12_beginning_2 F (nI i) 16 be 16 bl k a b c) (nI v) (nI n) (nI i) = _
    unfold bf_X12_beginning_2
    rw [if_pos (nI_le (by omega) (by omega))]
  | succ d ih =>
    intro i k hi hk hj
    obtain ⟨k, rfl⟩ : ∃ z, k = z + 1 := ⟨k - 1, by omega⟩
    obtain ⟨_, b1, b2, b3, b4⟩ := h.2.1 i (by omega)
    have next : bg i ≠ (v, n) → ∃ t, lf_X12_beginning_2 F (nI M) 16 be 16 bl k (nI v) (nI n) (nI (i + 1)) = some (nI t) ∧ ((t < M ∧ bg t = (v, n)) ∨ (t = M ∧ ∀ j, j < M → bg j ≠ (v, n))) := fun hne => ih (i + 1) k (by omega) (by omega) (fun j hj' => by
      by_cases e : j = i
      · subst e; exact hne
      · exact hj j (by omega))
    show ∃ t, bf_X12_beginning_2 F (nI M) 16 be 16 bl (fun a b c => lf_X12_beginning_2 F (nI M) 16 be 16 bl k a b c) (nI v) (nI n) (nI i) = some (nI t) ∧ _
    unfold bf_X12_beginning_2
    rw [if_neg (nI_ge (by omega) (by omega)), nI_clamp (n := i) (by omega), if_neg (gin (by omega) (by omega)), b3, b4, if_neg (gin (by omega) (by omega)), show nI i + (1 : Int32) = nI (i + 1) from nI_add i 1]
    by_cases e1 : (bg i).1 = v
    · rw [if_pos (by rw [e1])]
      by_cases e2 : (bg i).2 = n
      · rw [if_pos (by rw [e2])]
        exact ⟨i, rfl, Or.inl ⟨by omega, Prod.ext e1 e2⟩⟩
      · rw [if_neg (fun z => e2 ((nI_eq b2 hn).mp z))]
        exact next (fun z => e2 (by rw [z]))
    · rw [if_neg (fun z => e1 ((nI_eq b1 hv).mp z))]
      exact next (fun z => e1 (by rw [z]))
theorem isCode_loop (F : Nat) {u m : Nat} (h : Rd io S K len N pre below lenM codesM) (hm : 1 ≤ m) (hm2 : m < 2 ^ 31) (hu : u < 2 ^ 31) : ∀ (d i k : Nat) (f : Bool), i + d = S → d < k →
    ∃ g : Bool, lf_X12_isCode_5 F (nI S) 96 lenM 96 codesM k (nI u) (nI m) (b01 f) (nI i) = some (b01 g) ∧ (g = true ↔ (f = true ∨ ∃ s, i ≤ s ∧ isCod io S len u m s)) := by
  obtain ⟨⟨hS, hK, _, _, _⟩, hl, hc, _⟩ := h
  intro d
  induction d with
  | zero =>
    intro i k f hi hk
    obtain ⟨k, rfl⟩ : ∃ z, k = z + 1 := ⟨k - 1, by omega⟩
    refine ⟨f, ?_, ⟨fun z => Or.inl z, fun z => ?_⟩⟩
    · show bf_X12_isCode_5 F (nI S) 96 lenM 96 codesM (fun a b c d => lf_X12_isCode_5 F (nI S) 96 lenM 96 codesM k a b c d) (nI u) (nI m) (b01 f) (nI i) = _
      unfold bf_X12_isCode_5
      rw [if_pos (nI_le (by omega) (by omega)), if_neg (fun z => z (b01_cases f))]
    · rcases z with z | ⟨s, s1, s2⟩
      · exact z
      · have := s2.1; omega
  | succ d ih =>
    intro i k f hi hk
    obtain ⟨k, rfl⟩ : ∃ z, k = z + 1 := ⟨k - 1, by omega⟩
    obtain ⟨l1, l2⟩ := hl i (by omega)
    have st : ∃ g : Bool, lf_X12_isCode_5 F (nI S) 96 lenM 96 codesM (k + 1) (nI u) (nI m) (b01 f) (nI i) = lf_X12_isCode_5 F (nI S) 96 lenM 96 codesM k (nI u) (nI m) (b01 g) (nI (i + 1)) ∧ (g = true ↔ (f = true ∨ isCod io S len u m i)) := by
      show ∃ g : Bool, bf_X12_isCode_5 F (nI S) 96 lenM 96 codesM (fun a b c d => lf_X12_isCode_5 F (nI S) 96 lenM 96 codesM k a b c d) (nI u) (nI m) (b01 f) (nI i) = _ ∧ _
      unfold bf_X12_isCode_5
      rw [if_neg (nI_ge (by omega) (by omega)), show nI i + (1 : Int32) = nI (i + 1) from nI_add i 1]
      cases f with
      | true =>
        rw [if_neg (show ¬ b01 true = 0 by decide)]
        exact ⟨true, rfl, ⟨fun z => Or.inl z, fun _ => rfl⟩⟩
      | false =>
        rw [if_pos (show b01 false = 0 from rfl), if_neg (nI_in (by omega) (by decide)), nI_clamp (by omega), l2]
        by_cases e1 : len i = m
        · obtain ⟨c1, c2⟩ := hc i (by omega) (by omega)
          rw [if_pos (by rw [e1]), if_neg (nI_nle (by omega) hm2), if_neg (gin (by omega) (by omega)), c2]
          by_cases e2 : cd io S len i = u
          · rw [if_pos (by rw [e2])]
            exact ⟨true, rfl, ⟨fun _ => Or.inr ⟨by omega, by omega, e1, e2⟩, fun _ => rfl⟩⟩
          · rw [if_neg (fun z => e2 ((nI_eq (by omega) hu).mp z))]
            exact ⟨false, rfl, ⟨fun z => absurd z (by decide), fun z => by
              rcases z with z | z
              · exact absurd z (by decide)
              · exact absurd z.2.2.2 e2⟩⟩
        · rw [if_neg (fun z => e1 ((nI_eq (by omega) hm2).mp z))]
          exact ⟨false, rfl, ⟨fun z => absurd z (by decide), fun z => by
            rcases z with z | z
            · exact absurd z (by decide)
            · exact absurd z.2.2.1 e1⟩⟩
    obtain ⟨g, g1, g2⟩ := st
    obtain ⟨g', r1, r2⟩ := ih (i + 1) k g (by omega) (by omega)
    refine ⟨g', g1.trans r1, r2.trans ?_⟩
    rw [g2]
    constructor
    · rintro ((z | z) | ⟨s, s1, s2⟩)
      · exact Or.inl z
      · exact Or.inr ⟨i, Nat.le_refl _, z⟩
      · exact Or.inr ⟨s, by omega, s2⟩
    · rintro (z | ⟨s, s1, s2⟩)
      · exact Or.inl (Or.inl z)
      · by_cases e : s = i
        · subst e; exact Or.inl (Or.inr s2)
        · exact Or.inr ⟨s, by omega, s2⟩
theorem beg31_loop (F : Nat) {s : Nat} {leads : Nat → Int32} {rec21 : Int32 → Int32 → (Nat → Int32) → (Nat → Int32) → (Nat → Int32) → Option (Int32 × (Nat → Int32) × (Nat → Int32) × (Nat → Int32))} (h : Rd io S K len N pre below lenM codesM) (hN : N ≤ 10) (hF : 100 < F) (hs : s < S) : ∀ (d n k M : Nat) (bg : Nat → Nat × Nat) (be bl : Nat → Int32), 1 ≤ n → n ≤ 25 → d = len s - n → d < k → BgI io S len M bg be bl →
    ∃ (M' : Nat) (bg' : Nat → Nat × Nat) (be' bl' : Nat → Int32), lf_X12_findBeginnings_31 F (nI S) 96 lenM 96 codesM 16 16 32 rec21 k (nI s) (nI n) (nI M) be bl leads = rec21 (nI (s + 1)) (nI M') be' bl' leads ∧ BgI io S len M' bg' be' bl' ∧ M ≤ M' ∧ (∀ j, j < M → bg' j = bg j) ∧ ∀ m, n ≤ m → m < len s → ∃ j, j < M' ∧ bg' j = (cd io S len s / 2 ^ (len s - m), m) := by
  obtain ⟨⟨hS, hK, _, _, _⟩, hl, hc, hT⟩ := id h
  obtain ⟨l1, l2⟩ := hl s hs
  intro d
  induction d with
  | zero =>
    intro n k M bg be bl hn hn25 hd hk hB
    obtain ⟨k, rfl⟩ : ∃ z, k = z + 1 := ⟨k - 1, by omega⟩
    refine ⟨M, bg, be, bl, ?_, hB, Nat.le_refl _, fun _ _ => rfl, fun m h1 h2 => by omega⟩
    show bf_X12_findBeginnings_31 F (nI S) 96 lenM 96 codesM 16 16 32 rec21 (fun a b c d e f => lf_X12_findBeginnings_31 F (nI S) 96 lenM 96 codesM 16 16 32 rec21 k a b c d e f) (nI s) (nI n) (nI M) be bl leads = _
    unfold bf_X12_findBeginnings_31
    rw [if_neg (nI_in (by omega) (by decide)), nI_clamp (by omega), l2, if_pos (nI_le (by omega) (by omega)), show nI s + (1 : Int32) = nI (s + 1) from nI_add s 1]
  | succ d ih =>
    intro n k M bg be bl hn hn25 hd hk hB
    obtain ⟨k, rfl⟩ : ∃ z, k = z + 1 := ⟨k - 1, by omega⟩
    have hMN := hB.le hT
    obtain ⟨c1, c2⟩ := hc s hs (by omega)
    have hv : cd io S len s / 2 ^ (len s - n) < 2 ^ 31 := Nat.lt_of_le_of_lt (Nat.div_le_self _ _) (by omega)
    have hpre : isPre io S len (cd io S len s / 2 ^ (len s - n)) n := ⟨s, hs, by omega, rfl⟩
    obtain ⟨t, t1, t2⟩ := begin_loop F hB (by omega) hv (n := n) (by omega) M 0 F (by omega) (by omega) (fun j hj => by omega)
    have st : lf_X12_findBeginnings_31 F (nI S) 96 lenM 96 codesM 16 16 32 rec21 (k + 1) (nI s) (nI n) (nI M) be bl leads = (if nI t = nI M then lf_X12_findBeginnings_31 F (nI S) 96 lenM 96 codesM 16 16 32 rec21 k (nI s) (nI (n + 1)) (nI (M + 1)) (upd be M (nI (cd io S len s / 2 ^ (len s - n)))) (upd bl M (nI n)) leads else lf_X12_findBeginnings_31 F (nI S) 96 lenM 96 codesM 16 16 32 rec21 k (nI s) (nI (n + 1)) (nI M) be bl leads) := by
      show bf_X12_findBeginnings_31 F (nI S) 96 lenM 96 codesM 16 16 32 rec21 (fun a b c d e f => lf_X12_findBeginnings_31 F (nI S) 96 lenM 96 codesM 16 16 32 rec21 k a b c d e f) (nI s) (nI n) (nI M) be bl leads = _
      unfold bf_X12_findBeginnings_31
      rw [if_neg (nI_in (by omega) (by decide)), nI_clamp (n := s) (by omega), l2, if_neg (nI_ge (by omega) (by omega)), if_neg (gin (by omega) (by omega)), if_neg (gin (by omega) (by omega)), c2, pk_sub (by omega), pk_shrN (by omega) _ (len s - n) (s_l _ (by omega)), show fn_X12_beginning F (nI M) 16 be 16 bl (nI (cd io S len s / 2 ^ (len s - n))) (nI n) = _ from t1, bs, if_neg (nI_in (by omega) (by decide)), if_neg (nI_in (by omega) (by decide)), nI_clamp (n := M) (by omega), show nI n + (1 : Int32) = nI (n + 1) from nI_add n 1, show nI M + (1 : Int32) = nI (M + 1) from nI_add M 1]
    rw [st]
    rcases t2 with ⟨t2, t3⟩ | ⟨rfl, t3⟩
    · rw [if_neg (fun z => by have := (nI_eq (by omega) (by omega)).mp z; omega)]
      obtain ⟨M', bg', be', bl', r1, r2, r3, r4, r5⟩ := ih (n + 1) k M bg be bl (by omega) (by omega) (by omega) (by omega) hB
      refine ⟨M', bg', be', bl', r1, r2, r3, r4, fun m h1 h2 => ?_⟩
      by_cases e : m = n
      · subst e; exact ⟨t, by omega, by rw [r4 t t2]; exact t3⟩
      · exact r5 m (by omega) h2
    · rw [if_pos rfl]
      have hB' : BgI io S len (t + 1) (ext bg t (cd io S len s / 2 ^ (len s - n), n)) (upd be t (nI (cd io S len s / 2 ^ (len s - n)))) (upd bl t (nI n)) := by
        obtain ⟨⟨b1, b2⟩, b3, b4⟩ := hB
        refine ⟨⟨by rw [ext_o (by omega)]; exact b1, by omega⟩, fun j hj => ?_, fun j l hj hl e => ?_⟩
        · by_cases e : j = t
          · subst e; rw [ext_s, pk_us, pk_us]; exact ⟨hpre, hv, by show n < 2 ^ 31; omega, rfl, rfl⟩
          · rw [ext_o e, pk_un e, pk_un e]; exact b3 j (by omega)
        · by_cases ej : j = t
          · by_cases el : l = t
            · omega
            · subst ej; rw [ext_s, ext_o el] at e; exact absurd e.symm (t3 l (by omega))
          · by_cases el : l = t
            · subst el; rw [ext_s, ext_o ej] at e; exact absurd e (t3 j (by omega))
            · rw [ext_o ej, ext_o el] at e; exact b4 j l (by omega) (by omega) e
      obtain ⟨M', bg', be', bl', r1, r2, r3, r4, r5⟩ := ih (n + 1) k (t + 1) _ _ _ (by omega) (by omega) (by omega) (by omega) hB'
      refine ⟨M', bg', be', bl', r1, r2, by omega, fun j hj => by rw [r4 j (by omega), ext_o (by omega)], fun m h1 h2 => ?_⟩
      by_cases e : m = n
      · subst e; exact ⟨t, by omega, by rw [r4 t (by omega), ext_s]⟩
      · exact r5 m (by omega) h2
theorem beg21_loop (F : Nat) {leads : Nat → Int32} (h : Rd io S K len N pre below lenM codesM) (hN : N ≤ 10) (hF : 100 < F) : ∀ (d s k M : Nat) (bg : Nat → Nat × Nat) (be bl : Nat → Int32), s + d = S → d < k → BgI io S len M bg be bl → (∀ x m, x < s → 1 ≤ m → m < len x → ∃ j, j < M ∧ bg j = (cd io S len x / 2 ^ (len x - m), m)) →
    ∃ (M' : Nat) (bg' : Nat → Nat × Nat) (be' bl' : Nat → Int32), lf_X12_findBeginnings_21 F (nI S) 96 lenM 96 codesM 16 16 32 k (nI s) (nI M) be bl leads = lf_X12_findBeginnings_114 F (nI S) 96 lenM 96 codesM 16 16 32 F 0 (nI M') be' bl' leads ∧ BgI io S len M' bg' be' bl' ∧ ∀ x m, x < S → 1 ≤ m → m < len x → ∃ j, j < M' ∧ bg' j = (cd io S len x / 2 ^ (len x - m), m) := by
  intro d
  induction d with
  | zero =>
    intro s k M bg be bl hs hk hB hcm
    obtain ⟨k, rfl⟩ : ∃ z, k = z + 1 := ⟨k - 1, by omega⟩
    have hS := h.1.1
    refine ⟨M, bg, be, bl, ?_, hB, fun x m hx => hcm x m (by omega)⟩
    show bf_X12_findBeginnings_21 F (nI S) 96 lenM 96 codesM 16 16 32 (fun a b c d e => lf_X12_findBeginnings_21 F (nI S) 96 lenM 96 codesM 16 16 32 k a b c d e) (nI s) (nI M) be bl leads = _
    unfold bf_X12_findBeginnings_21
    rw [if_pos (nI_le (by omega) (by omega))]
  | succ d ih =>
    intro s k M bg be bl hs hk hB hcm
    obtain ⟨k, rfl⟩ : ∃ z, k = z + 1 := ⟨k - 1, by omega⟩
    have hS := h.1.1
    have hl := (h.2.1 s (by omega)).1
    obtain ⟨M1, bg1, be1, bl1, r1, r2, r3, r4, r5⟩ := beg31_loop F (s := s) (leads := leads) (rec21 := fun a b c d e => lf_X12_findBeginnings_21 F (nI S) 96 lenM 96 codesM 16 16 32 k a b c d e) h hN hF (by omega) (len s - 1) 1 F M bg be bl (by omega) (by omega) rfl (by omega) hB
    obtain ⟨M2, bg2, be2, bl2, u1, u2, u3⟩ := ih (s + 1) k M1 bg1 be1 bl1 (by omega) (by omega) r2 (fun x m hx h1 h2 => by
      by_cases e : x = s
      · subst e; exact r5 m h1 h2
      · obtain ⟨j, j1, j2⟩ := hcm x m (by omega) h1 h2
        exact ⟨j, by omega, by rw [r4 j j1]; exact j2⟩)
    refine ⟨M2, bg2, be2, bl2, ?_, u2, u3⟩
    show bf_X12_findBeginnings_21 F (nI S) 96 lenM 96 codesM 16 16 32 (fun a b c d e => lf_X12_findBeginnings_21 F (nI S) 96 lenM 96 codesM 16 16 32 k a b c d e) (nI s) (nI M) be bl leads = _
    unfold bf_X12_findBeginnings_21
    rw [if_neg (nI_ge (by omega) (by omega))]
    exact r1.trans u1
/-- where a beginning leads -/
def Ledg (io : Bool) (S : Nat) (len : Nat → Nat) (M : Nat) (bg : Nat → Nat × Nat) (b k t : Nat) : Prop := t < M ∧ (((∃ s, isCod io S len (2 * (bg k).1 + b) ((bg k).2 + 1) s) ∧ t = 0) ∨ ((¬ ∃ s, isCod io S len (2 * (bg k).1 + b) ((bg k).2 + 1) s) ∧ bg t = (2 * (bg k).1 + b, (bg k).2 + 1)))
theorem lead_one (F : Nat) {M i b k : Nat} {bg : Nat → Nat × Nat} {be bl leads : Nat → Int32} {rec114 : Int32 → Int32 → (Nat → Int32) → (Nat → Int32) → (Nat → Int32) → Option (Int32 × (Nat → Int32) × (Nat → Int32) × (Nat → Int32))} (h : Rd io S K len N pre below lenM codesM) (hF : 200 < F) (hM : M ≤ 10) (hB : BgI io S len M bg be bl) (hch : ∀ v n b, isPre io S len v n → b < 2 → (∃ s, isCod io S len (2 * v + b) (n + 1) s) ∨ isPre io S len (2 * v + b) (n + 1)) (hcm : ∀ v n, isPre io S len v n → ∃ j, j < M ∧ bg j = (v, n)) (hi : i < M) (hb : b < 2) :
    ∃ t, Ledg io S len M bg b i t ∧ lf_X12_findBeginnings_124 F (nI S) 96 lenM 96 codesM 16 16 32 rec114 (k + 1) (nI i) (nI b) (nI M) be bl leads = lf_X12_findBeginnings_124 F (nI S) 96 lenM 96 codesM 16 16 32 rec114 k (nI i) (nI (b + 1)) (nI M) be bl (upd leads (2 * i + b) (nI t)) := by
  obtain ⟨i1, i2, i3, i4, i5⟩ := hB.2.1 i hi
  obtain ⟨s0, p1, p2, p3⟩ := id i1
  have v1 : (bg i).1 ≤ 16777216 := by
    rw [← p3]
    exact Nat.le_trans (Nat.div_le_self _ _) (h.2.2.1 s0 p1 (by omega)).1
  have n1 : (bg i).2 + 1 ≤ 24 := by have := (h.2.1 s0 p1).1; omega
  obtain ⟨g, g1, g2⟩ := isCode_loop F h (u := 2 * (bg i).1 + b) (m := (bg i).2 + 1) (by omega) (by omega) (by omega) S 0 F false (by omega) (by have := h.1.1; omega)
  have ic : fn_X12_isCode F (nI S) 96 lenM 96 codesM (nI (2 * (bg i).1 + b)) (nI ((bg i).2 + 1)) = some (b01 g) := g1
  have e2 : (2 : Int32) * nI (bg i).1 + nI b = nI (2 * (bg i).1 + b) := by rw [show (2 : Int32) = nI 2 from rfl, pk_mul, nI_add]
  have ei : (2 : Int32) * nI i + nI b = nI (2 * i + b) := by rw [show (2 : Int32) = nI 2 from rfl, pk_mul, nI_add]
  have g3 : g = true ↔ ∃ s, isCod io S len (2 * (bg i).1 + b) ((bg i).2 + 1) s := g2.trans ⟨fun z => by
    rcases z with z | ⟨s, _, z⟩
    · exact absurd z (by decide)
    · exact ⟨s, z⟩, fun ⟨s, z⟩ => Or.inr ⟨s, by omega, z⟩⟩
  have s182 : ∀ t, bf_X12_findBeginnings_182 F (nI S) 96 lenM 96 codesM 16 16 32 rec114 (fun a b c d e f => lf_X12_findBeginnings_124 F (nI S) 96 lenM 96 codesM 16 16 32 rec114 k a b c d e f) (nI i) (nI b) t (nI (2 * i + b)) (nI M) be bl leads = lf_X12_findBeginnings_124 F (nI S) 96 lenM 96 codesM 16 16 32 rec114 k (nI i) (nI (b + 1)) (nI M) be bl (upd leads (2 * i + b) t) := fun t => by
    unfold bf_X12_findBeginnings_182
    rw [if_neg (nI_in (by omega) (by decide)), nI_clamp (by omega), show nI b + (1 : Int32) = nI (b + 1) from nI_add b 1]
  have ux : lf_X12_findBeginnings_124 F (nI S) 96 lenM 96 codesM 16 16 32 rec114 (k + 1) (nI i) (nI b) (nI M) be bl leads = bf_X12_findBeginnings_124 F (nI S) 96 lenM 96 codesM 16 16 32 rec114 (fun a b c d e f => lf_X12_findBeginnings_124 F (nI S) 96 lenM 96 codesM 16 16 32 rec114 k a b c d e f) (nI i) (nI b) (nI M) be bl leads := rfl
  rw [ux]
  unfold bf_X12_findBeginnings_124
  rw [if_neg (show ¬ (2 : Int32) ≤ nI b from nI_ge (b := 2) (by omega) (by decide)), nI_clamp (n := i) (by omega), if_neg (gin (by omega) (by omega)), if_neg (gin (by omega) (by omega)), i4, i5, e2, ei, show nI (bg i).2 + (1 : Int32) = nI ((bg i).2 + 1) from nI_add _ 1, ic, bs]
  cases g with
  | true =>
    rw [if_neg (show ¬ b01 true = 0 by decide), s182]
    exact ⟨0, ⟨by omega, Or.inl ⟨g3.mp rfl, rfl⟩⟩, rfl⟩
  | false =>
    have hno : ¬ ∃ s, isCod io S len (2 * (bg i).1 + b) ((bg i).2 + 1) s := fun z => absurd (g3.mpr z) (by decide)
    have hpr := (hch _ _ b i1 hb).resolve_left hno
    obtain ⟨j, j1, j2⟩ := hcm _ _ hpr
    obtain ⟨t, t1, t2⟩ := begin_loop F hB (v := 2 * (bg i).1 + b) (n := (bg i).2 + 1) (by omega) (by omega) (by omega) M 0 F (by omega) (by omega) (fun j hj => by omega)
    have t3 : t < M ∧ bg t = (2 * (bg i).1 + b, (bg i).2 + 1) := by
      rcases t2 with t2 | ⟨_, t2⟩
      · exact t2
      · exact absurd j2 (t2 j j1)
    rw [if_pos (show b01 false = 0 from rfl), if_neg (gin (by omega) (by omega)), show fn_X12_beginning F (nI M) 16 be 16 bl (nI (2 * (bg i).1 + b)) (nI ((bg i).2 + 1)) = _ from t1, bs, s182]
    exact ⟨t, ⟨t3.1, Or.inr ⟨hno, t3.2⟩⟩, rfl⟩
theorem lead_loop (F : Nat) {M : Nat} {bg : Nat → Nat × Nat} {be bl : Nat → Int32} (h : Rd io S K len N pre below lenM codesM) (hF : 200 < F) (hM : M ≤ 10) (hB : BgI io S len M bg be bl) (hch : ∀ v n b, isPre io S len v n → b < 2 → (∃ s, isCod io S len (2 * v + b) (n + 1) s) ∨ isPre io S len (2 * v + b) (n + 1)) (hcm : ∀ v n, isPre io S len v n → ∃ j, j < M ∧ bg j = (v, n)) : ∀ (d i k : Nat) (leads : Nat → Int32), i + d = M → d < k → (∀ x b, x < i → b < 2 → ∃ t, Ledg io S len M bg b x t ∧ leads (2 * x + b) = nI t) →
    ∃ leads', lf_X12_findBeginnings_114 F (nI S) 96 lenM 96 codesM 16 16 32 k (nI i) (nI M) be bl leads = some (nI M, be, bl, leads') ∧ ∀ x b, x < M → b < 2 → ∃ t, Ledg io S len M bg b x t ∧ leads' (2 * x + b) = nI t := by
  intro d
  induction d with
  | zero =>
    intro i k leads hi hk hL
    obtain ⟨k, rfl⟩ : ∃ z, k = z + 1 := ⟨k - 1, by omega⟩
    refine ⟨leads, ?_, fun x b hx => hL x b (by omega)⟩
    show bf_X12_findBeginnings_114 F (nI S) 96 lenM 96 codesM 16 16 32 (fun a b c d e => lf_X12_findBeginnings_114 F (nI S) 96 lenM 96 codesM 16 16 32 k a b c d e) (nI i) (nI M) be bl leads = _
    unfold bf_X12_findBeginnings_114
    rw [if_pos (nI_le (by omega) (by omega))]
  | succ d ih =>
    intro i k leads hi hk hL
    obtain ⟨k, rfl⟩ : ∃ z, k = z + 1 := ⟨k - 1, by omega⟩
    obtain ⟨F1, rfl⟩ : ∃ z, F = z + 3 := ⟨F - 3, by omega⟩
    obtain ⟨t0, a1, a2⟩ := lead_one (F1 + 3) (k := F1 + 2) (b := 0) (i := i) (leads := leads) (rec114 := fun a b c d e => lf_X12_findBeginnings_114 (F1 + 3) (nI S) 96 lenM 96 codesM 16 16 32 k a b c d e) h hF hM hB hch hcm (by omega) (by decide)
    obtain ⟨t1, a3, a4⟩ := lead_one (F1 + 3) (k := F1 + 1) (b := 1) (i := i) (leads := upd leads (2 * i + 0) (nI t0)) (rec114 := fun a b c d e => lf_X12_findBeginnings_114 (F1 + 3) (nI S) 96 lenM 96 codesM 16 16 32 k a b c d e) h hF hM hB hch hcm (by omega) (by decide)
    obtain ⟨leads', r1, r2⟩ := ih (i + 1) k (upd (upd leads (2 * i + 0) (nI t0)) (2 * i + 1) (nI t1)) (by omega) (by omega) (fun x b hx hb => by
      by_cases e : x = i
      · subst e
        have : b = 0 ∨ b = 1 := by omega
        rcases this with rfl | rfl
        · exact ⟨t0, a1, by rw [pk_un (by omega), pk_us]⟩
        · exact ⟨t1, a3, pk_us⟩
      · rw [pk_un (by omega), pk_un (by omega)]
        exact hL x b (by omega) hb)
    refine ⟨leads', ?_, r2⟩
    show bf_X12_findBeginnings_114 (F1 + 3) (nI S) 96 lenM 96 codesM 16 16 32 (fun a b c d e => lf_X12_findBeginnings_114 (F1 + 3) (nI S) 96 lenM 96 codesM 16 16 32 k a b c d e) (nI i) (nI M) be bl leads = _
    unfold bf_X12_findBeginnings_114
    rw [if_neg (nI_ge (by omega) (by omega))]
    refine Eq.trans (show lf_X12_findBeginnings_124 (F1 + 3) (nI S) 96 lenM 96 codesM 16 16 32 _ (F1 + 3) (nI i) 0 (nI M) be bl leads = _ from a2) (Eq.trans a4 (Eq.trans ?_ r1))
    show bf_X12_findBeginnings_124 (F1 + 3) (nI S) 96 lenM 96 codesM 16 16 32 (fun a b c d e => lf_X12_findBeginnings_114 (F1 + 3) (nI S) 96 lenM 96 codesM 16 16 32 k a b c d e) (fun a b c d e f => lf_X12_findBeginnings_124 (F1 + 3) (nI S) 96 lenM 96 codesM 16 16 32 (fun a b c d e => lf_X12_findBeginnings_114 (F1 + 3) (nI S) 96 lenM 96 codesM 16 16 32 k a b c d e) F1 a b c d e f) (nI i) (nI (1 + 1)) (nI M) be bl _ = _
    unfold bf_X12_findBeginnings_124
    rw [if_pos (by decide), show nI i + (1 : Int32) = nI (i + 1) from nI_add i 1]
end
