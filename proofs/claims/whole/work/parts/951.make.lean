/-! The reference's makeCodes. -/
def MC (io : Bool) (S : Nat) (len : Nat → Nat) (p : Nat → Bool) (E : Nat) (f : Bool) (codes : Nat → Int32) : Prop :=
  E = stA len p S ∧ (f = true ↔ ∀ s, s < S → p s = true → 0 < len s → 2 ^ (24 - len s) ∣ stO io S len s) ∧ ∀ s, s < S → p s = true → 0 < len s → codes s = nI (cd io S len s)
theorem MC.congr {io : Bool} {S E : Nat} {len : Nat → Nat} {p q : Nat → Bool} {f : Bool} {codes : Nat → Int32} (h : MC io S len p E f codes) (hpq : ∀ s, s < S → 0 < len s → p s = q s) : MC io S len q E f codes := by
  obtain ⟨h1, h2, h3⟩ := h
  refine ⟨h1.trans (stA_congr S hpq), h2.trans ⟨fun z s hs hp hl => z s hs ((hpq s hs hl).trans hp) hl, fun z s hs hp hl => z s hs ((hpq s hs hl).symm.trans hp) hl⟩, fun s hs hp hl => h3 s hs ((hpq s hs hl).trans hp) hl⟩
theorem MC.step {io : Bool} {S E s : Nat} {len : Nat → Nat} {p : Nat → Bool} {f : Bool} {codes : Nat → Int32} (h : MC io S len p E f codes) (hs : s < S) (hl : 0 < len s) (hp : p s = false) (hst : stO io S len s = E) : MC io S len (ins p s) (E + 2 ^ (24 - len s)) (f && decide (2 ^ (24 - len s) ∣ E)) (upd codes s (nI (E / 2 ^ (24 - len s)))) := by
  obtain ⟨h1, h2, h3⟩ := h
  refine ⟨?_, ?_, fun x hx hxp hxl => ?_⟩
  · rw [stA_ins hl hp, if_pos hs, ← h1]
  · rw [Bool.and_eq_true, h2, decide_eq_true_iff]
    constructor
    · rintro ⟨a1, a2⟩ x hx hxp hxl
      by_cases e : x = s
      · subst e; rw [hst]; exact a2
      · rw [ins_o e] at hxp
        exact a1 x hx hxp hxl
    · intro a
      refine ⟨fun x hx hxp hxl => a x hx (by simp [ins, hxp]) hxl, ?_⟩
      have := a s hs (ins_s p s) hl
      rw [hst] at this
      exact this
  · by_cases e : x = s
    · subst e
      rw [pk_us]
      unfold cd
      rw [hst]
    · rw [pk_un e]
      rw [ins_o e] at hxp
      exact h3 x hx hxp hxl
theorem mk_85 (F : Nat) {io x3 : Int32} {S E s L : Nat} {f : Bool} {w codes : Nat → Int32} {rec36 : Int32 → Int32 → Int32 → (Nat → Int32) → Option (Int32 × (Nat → Int32))} {rec45 : Int32 → Int32 → Int32 → Int32 → (Nat → Int32) → Option (Int32 × (Nat → Int32))} (hs : s < 96) (hL : L ≤ 24) (hw : w s = nI L) (hE : E ≤ 16777216) :
    bf_X12_makeCodes_85 F (nI S) io 96 w 96 rec36 rec45 (nI E) (b01 f) x3 (nI s) codes = rec45 (nI (E + 2 ^ (24 - L))) (b01 (f && decide (2 ^ (24 - L) ∣ E))) x3 (nI (s + 1)) (upd codes s (nI (E / 2 ^ (24 - L)))) := by
  have hp : 0 < 2 ^ (24 - L) := Nat.pow_pos (by decide)
  have hp2 : 2 ^ (24 - L) ≤ 2 ^ 24 := Nat.pow_le_pow_right (by decide) (by omega)
  have h115 : ∀ s0, bf_X12_makeCodes_115 F (nI S) io 96 w 96 rec36 rec45 (nI E) x3 (nI s) (nI (2 ^ (24 - L))) s0 codes = rec45 (nI (E + 2 ^ (24 - L))) s0 x3 (nI (s + 1)) (upd codes s (nI (E / 2 ^ (24 - L)))) := fun s0 => by
    unfold bf_X12_makeCodes_115
    rw [if_neg (show ¬ nI (2 ^ (24 - L)) = 0 from fun z => by have := (nI_e0 (by omega)).mp z; omega), if_neg (nI_in hs (by omega)), nI_clamp (by omega), pk_div (by omega) hp (by omega), nI_add, show nI s + (1 : Int32) = nI (s + 1) from nI_add s 1]
  unfold bf_X12_makeCodes_85
  rw [if_neg (nI_in hs (by omega)), nI_clamp (by omega), hw, (share_eq F hL).2, h115, h115]
  cases f with
  | false => rw [if_pos (show b01 false = 0 from rfl)]; rfl
  | true =>
    rw [if_neg (show ¬ b01 true = 0 by decide), if_neg (show ¬ nI (2 ^ (24 - L)) = 0 from fun z => by have := (nI_e0 (by omega)).mp z; omega), pk_rem (by omega) hp (by omega)]
    by_cases q : 2 ^ (24 - L) ∣ E
    · rw [if_pos (by rw [Nat.mod_eq_zero_of_dvd q]; rfl)]; simp [q, b01]
    · rw [if_neg (fun z => q (Nat.dvd_of_mod_eq_zero ((nI_e0 (by have := Nat.mod_lt E hp; omega)).mp z)))]; simp [q, b01]
theorem mk_in (F : Nat) {io : Bool} {S L : Nat} {len : Nat → Nat} {w : Nat → Int32} {rec36 : Int32 → Int32 → Int32 → (Nat → Int32) → Option (Int32 × (Nat → Int32))} (hS : S ≤ 96) (hL : 0 < L) (hLK : L ≤ 24) (hw : ∀ s, s < S → len s ≤ 24 ∧ w s = nI (len s)) (hsum : stA len (fun _ => true) S ≤ 16777216) : ∀ (d i k E : Nat) (f : Bool) (codes : Nat → Int32), i + d = S → d < k → MC io S len (if io then pord i else pcan len L i) E f codes →
    ∃ (E' : Nat) (f' : Bool) (codes' : Nat → Int32), lf_X12_makeCodes_45 F (nI S) (b01 io) 96 w 96 rec36 k (nI E) (b01 f) (nI L) (nI i) codes = rec36 (nI E') (b01 f') (nI (L + 1)) codes' ∧ MC io S len (if io then (fun _ => true) else pcan len (L + 1) 0) E' f' codes' := by
  intro d
  induction d with
  | zero =>
    intro i k E f codes hi hk h
    obtain ⟨k, rfl⟩ : ∃ q, k = q + 1 := ⟨k - 1, by omega⟩
    refine ⟨E, f, codes, ?_, h.congr (fun s hs _ => ?_)⟩
    · show bf_X12_makeCodes_45 F (nI S) (b01 io) 96 w 96 rec36 (fun a b c d e => lf_X12_makeCodes_45 F (nI S) (b01 io) 96 w 96 rec36 k a b c d e) (nI E) (b01 f) (nI L) (nI i) codes = _
      unfold bf_X12_makeCodes_45
      rw [if_pos (nI_le (by omega) (by omega)), show nI L + (1 : Int32) = nI (L + 1) from nI_add L 1]
    · cases io with
      | true => simp [pord]; omega
      | false => exact decide_eq_decide.mpr (by omega)
  | succ d ih =>
    intro i k E f codes hi hk h
    obtain ⟨k, rfl⟩ : ∃ q, k = q + 1 := ⟨k - 1, by omega⟩
    obtain ⟨w1, w2⟩ := hw i (by omega)
    have hE : E = stA len (if io then pord i else pcan len L i) S := h.1
    have hb0 := stA_mono (len := len) (p := if io then pord i else pcan len L i) (q := fun _ => true) (fun _ _ => rfl) S
    show ∃ (E' : Nat) (f' : Bool) (codes' : Nat → Int32), bf_X12_makeCodes_45 F (nI S) (b01 io) 96 w 96 rec36 (fun a b c d e => lf_X12_makeCodes_45 F (nI S) (b01 io) 96 w 96 rec36 k a b c d e) (nI E) (b01 f) (nI L) (nI i) codes = _ ∧ _
    unfold bf_X12_makeCodes_45
    rw [if_neg (nI_ge (by omega) (by omega)), if_neg (nI_in (by omega) (by omega)), nI_clamp (by omega), w2, mk_85 F (by omega) w1 w2 (by omega), if_neg (gin (by omega) (by omega)), show nI i + (1 : Int32) = nI (i + 1) from nI_add i 1]
    by_cases e0 : len i = 0
    · rw [if_pos ((nI_e0 (by omega)).mpr e0)]
      exact ih (i + 1) k E f codes (by omega) (by omega) (h.congr (fun s hs hl => by
        have : s ≠ i := fun z => by subst z; omega
        cases io with
        | true => exact decide_eq_decide.mpr (by omega)
        | false => exact decide_eq_decide.mpr (by omega)))
    rw [if_neg (fun z => e0 ((nI_e0 (by omega)).mp z))]
    cases io with
    | true =>
      rw [if_neg (show ¬ b01 true = 0 by decide)]
      have hp : pord i i = false := by simp [pord]
      exact ih (i + 1) k _ _ _ (by omega) (by omega) ((MC.step (p := pord i) h (by omega) (Nat.pos_of_ne_zero e0) hp (stO_ord.trans hE.symm)).congr (fun s hs _ => by
        by_cases q : s = i
        · subst q; simp [ins, pord]
        · rw [ins_o q]; exact decide_eq_decide.mpr (by omega)))
    | false =>
      rw [if_pos (show b01 false = 0 from rfl)]
      by_cases e : len i = L
      · have hp : pcan len L i i = false := by simp [pcan]; omega
        have hs : stO false S len i = E := by rw [stO_can, e, hE]; rfl
        rw [if_pos (by rw [e])]
        exact ih (i + 1) k _ _ _ (by omega) (by omega) ((MC.step (p := pcan len L i) h (by omega) (by omega) hp hs).congr (fun s hs _ => by
          by_cases q : s = i
          · subst q; simp [ins, pcan, e]
          · rw [ins_o q]; exact decide_eq_decide.mpr (by omega)))
      · rw [if_neg (fun z => e ((nI_eq (by omega) (by omega)).mp z))]
        exact ih (i + 1) k E f codes (by omega) (by omega) (h.congr (fun s hs hl => by
          by_cases q : s = i
          · subst q; simp [pcan, e]
          · exact decide_eq_decide.mpr (by omega)))
theorem mk_end (F : Nat) {io : Int32} {S E k : Nat} {f : Bool} {w codes : Nat → Int32} : lf_X12_makeCodes_36 F (nI S) io 96 w 96 (k + 1) (nI E) (b01 f) (nI 25) codes = some (b01 f, codes) := by
  show bf_X12_makeCodes_36 F (nI S) io 96 w 96 (fun a b c d => lf_X12_makeCodes_36 F (nI S) io 96 w 96 k a b c d) (nI E) (b01 f) (nI 25) codes = _
  unfold bf_X12_makeCodes_36
  rw [if_pos (by decide), if_neg (fun z => z (b01_cases f))]
theorem mk_can (F : Nat) {S : Nat} {len : Nat → Nat} {w : Nat → Int32} (hS : S ≤ 96) (hF : 96 < F) (hw : ∀ s, s < S → len s ≤ 24 ∧ w s = nI (len s)) (hsum : stA len (fun _ => true) S ≤ 16777216) : ∀ (d L k E : Nat) (f : Bool) (codes : Nat → Int32), 0 < L → L + d = 25 → d < k → MC false S len (pcan len L 0) E f codes →
    ∃ (E' : Nat) (f' : Bool) (codes' : Nat → Int32), lf_X12_makeCodes_36 F (nI S) (b01 false) 96 w 96 k (nI E) (b01 f) (nI L) codes = some (b01 f', codes') ∧ MC false S len (fun _ => true) E' f' codes' := by
  intro d
  induction d with
  | zero =>
    intro L k E f codes hL0 hi hk h
    obtain ⟨k, rfl⟩ : ∃ q, k = q + 1 := ⟨k - 1, by omega⟩
    obtain rfl : L = 25 := by omega
    exact ⟨E, f, codes, mk_end F, h.congr (fun s hs _ => by have := (hw s hs).1; simp [pcan]; omega)⟩
  | succ d ih =>
    intro L k E f codes hL0 hi hk h
    obtain ⟨k, rfl⟩ : ∃ q, k = q + 1 := ⟨k - 1, by omega⟩
    obtain ⟨E', f', codes', r1, r2⟩ := mk_in F (io := false) (rec36 := fun a b c d => lf_X12_makeCodes_36 F (nI S) (b01 false) 96 w 96 k a b c d) hS hL0 (by omega) hw hsum S 0 F E f codes (by omega) (by omega) h
    obtain ⟨E2, f2, codes2, u1, u2⟩ := ih (L + 1) k E' f' codes' (by omega) (by omega) (by omega) r2
    refine ⟨E2, f2, codes2, ?_, u2⟩
    show bf_X12_makeCodes_36 F (nI S) (b01 false) 96 w 96 (fun a b c d => lf_X12_makeCodes_36 F (nI S) (b01 false) 96 w 96 k a b c d) (nI E) (b01 f) (nI L) codes = _
    unfold bf_X12_makeCodes_36
    rw [if_neg (show ¬ (24 : Int32) < nI L from nI_nlt (a := 24) (by omega) (by decide))]
    exact r1.trans u1
theorem MC.start {io : Bool} {S : Nat} {len : Nat → Nat} {codes : Nat → Int32} : MC io S len (fun _ => false) 0 true codes := by
  have e0 : ∀ n, stA len (fun _ => false) n = 0 := fun n => by
    induction n with
    | zero => rfl
    | succ n ih => unfold stA; rw [ih]; simp
  exact ⟨(e0 S).symm, ⟨fun _ s _ h => by simp at h, fun _ => rfl⟩, fun s _ h => by simp at h⟩
/-- makeCodes of a table whose sum is no more than a whole -/
theorem make_eq (F : Nat) {io : Bool} {S : Nat} {len : Nat → Nat} {w : Nat → Int32} (codes : Nat → Int32) (hS : S ≤ 96) (hF : 1000 < F) (hw : ∀ s, s < S → len s ≤ 24 ∧ w s = nI (len s)) (hnc : 0 < ncA len S) (hsum : stA len (fun _ => true) S ≤ 16777216) :
    ∃ (f : Bool) (codes' : Nat → Int32), fn_X12_makeCodes F (nI S) (b01 io) 96 w 96 codes = some (b01 f, codes') ∧ (f = true ↔ ∀ s, s < S → 0 < len s → 2 ^ (24 - len s) ∣ stO io S len s) ∧ ∀ s, s < S → 0 < len s → codes' s = nI (cd io S len s) := by
  have hc := codesThere_eq (F := F) (S := S) (n := 96) (g := len) (w := w) hS (by decide) (by omega) (fun s hs => ⟨by have := (hw s hs).1; omega, (hw s hs).2⟩)
  obtain ⟨x, x1, x2, x3, x4⟩ := sumOf_eq (F := F) (S := S) (n := 96) (len := len) (w := w) hS hS (by decide) (by omega) hw
  have hnc' := hnc
  rw [ncA_eq] at hnc'
  have hncl := nc_le len S
  have hx : x = sm len S := x3 (by rw [← stA_all]; exact hsum)
  have hsum' := hsum
  rw [stA_all] at hsum'
  have hu : fn_X12_makeCodes F (nI S) (b01 io) 96 w 96 codes = (if b01 io = 0 then lf_X12_makeCodes_36 F (nI S) (b01 io) 96 w 96 F (0 : Int32) (1 : Int32) (1 : Int32) codes else lf_X12_makeCodes_36 F (nI S) (b01 io) 96 w 96 F (0 : Int32) (1 : Int32) (24 : Int32) codes) := by
    unfold fn_X12_makeCodes bf_X12_makeCodes_0
    rw [hc, bs, if_neg (show ¬ nI (nc len S) = 0 from fun z => by have := (nI_e0 (by omega)).mp z; omega), x1, bs, if_pos (show nI x ≤ 16777216 from nI_le (b := 16777216) (by omega) (by decide))]
  rw [hu]
  have fin : ∀ (E : Nat) (f : Bool) (codes' : Nat → Int32), MC io S len (fun _ => true) E f codes' → (f = true ↔ ∀ s, s < S → 0 < len s → 2 ^ (24 - len s) ∣ stO io S len s) ∧ ∀ s, s < S → 0 < len s → codes' s = nI (cd io S len s) := fun E f codes' h =>
    ⟨h.2.1.trans ⟨fun z s hs hl => z s hs rfl hl, fun z s hs _ hl => z s hs hl⟩, fun s hs hl => h.2.2 s hs rfl hl⟩
  cases io with
  | false =>
    rw [if_pos (show b01 false = 0 from rfl)]
    obtain ⟨E', f', codes', r1, r2⟩ := mk_can F hS (by omega) hw hsum 24 1 F 0 true codes (by decide) (by decide) (by omega) (MC.start.congr (fun s _ hl => by simp [pcan]; omega))
    exact ⟨f', codes', r1, fin _ _ _ r2⟩
  | true =>
    rw [if_neg (show ¬ b01 true = 0 by decide)]
    obtain ⟨F1, rfl⟩ : ∃ q, F = q + 2 := ⟨F - 2, by omega⟩
    obtain ⟨E', f', codes', r1, r2⟩ := mk_in (F1 + 2) (io := true) (L := 24) (rec36 := fun a b c d => lf_X12_makeCodes_36 (F1 + 2) (nI S) (b01 true) 96 w 96 (F1 + 1) a b c d) hS (by decide) (by decide) hw hsum S 0 (F1 + 2) 0 true codes (by omega) (by omega) (MC.start.congr (fun s _ hl => by simp [pord]))
    refine ⟨f', codes', ?_, fin _ _ _ r2⟩
    show bf_X12_makeCodes_36 (F1 + 2) (nI S) (b01 true) 96 w 96 (fun a b c d => lf_X12_makeCodes_36 (F1 + 2) (nI S) (b01 true) 96 w 96 (F1 + 1) a b c d) (nI 0) (b01 true) (nI 24) codes = _
    unfold bf_X12_makeCodes_36
    rw [if_neg (show ¬ (24 : Int32) < nI 24 by decide)]
    exact r1.trans (mk_end (F1 + 2))
/-- makeCodes where there is no code, or too many -/
theorem make_no (F : Nat) {io : Int32} {S : Nat} {len : Nat → Nat} {w : Nat → Int32} (codes : Nat → Int32) (hS : S ≤ 96) (hF : 1000 < F) (hw : ∀ s, s < S → len s ≤ 24 ∧ w s = nI (len s)) (h : ncA len S = 0 ∨ 16777216 < stA len (fun _ => true) S) : fn_X12_makeCodes F (nI S) io 96 w 96 codes = some (0, codes) := by
  have hc := codesThere_eq (F := F) (S := S) (n := 96) (g := len) (w := w) hS (by decide) (by omega) (fun s hs => ⟨by have := (hw s hs).1; omega, (hw s hs).2⟩)
  obtain ⟨x, x1, x2, x3, x4⟩ := sumOf_eq (F := F) (S := S) (n := 96) (len := len) (w := w) hS hS (by decide) (by omega) hw
  have hncl := nc_le len S
  rw [ncA_eq, stA_all] at h
  unfold fn_X12_makeCodes bf_X12_makeCodes_0
  rw [hc, bs]
  by_cases q : nc len S = 0
  · rw [if_pos (by rw [q]; rfl)]
  · have := x4 (by omega)
    rw [if_neg (show ¬ nI (nc len S) = 0 from fun z => by have := (nI_e0 (by omega)).mp z; omega), x1, bs, if_neg (show ¬ nI x ≤ 16777216 from nI_ge (a := 16777216) (by omega) x2)]
