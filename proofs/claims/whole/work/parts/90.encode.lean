/-! encode. -/
theorem cnt_pos {t : Nat → Nat} {s : Nat} : ∀ n, 0 < cnt t n s ↔ ∃ k, k < n ∧ t k = s
  | 0 => ⟨fun h => absurd h (Nat.lt_irrefl 0), fun ⟨k, hk, _⟩ => by omega⟩
  | n + 1 => by
    unfold cnt
    constructor
    · intro h
      by_cases e : t n = s
      · exact ⟨n, by omega, e⟩
      · rw [if_neg e] at h
        obtain ⟨k, h1, h2⟩ := (cnt_pos n).mp (by omega)
        exact ⟨k, by omega, h2⟩
    · rintro ⟨k, h1, h2⟩
      by_cases e : t n = s
      · rw [if_pos e]; omega
      · have hk : k < n := by
          rcases Nat.lt_or_ge k n with q | q
          · exact q
          · have : k = n := by omega
            exact absurd (this ▸ h2) e
        have := (cnt_pos n).mpr ⟨k, hk, h2⟩
        omega
/-- a symbol from i on is used and has no code -/
def lack (S : Nat) (g len : Nat → Nat) (i : Nat) : Prop := ∃ s, i ≤ s ∧ s < S ∧ 0 < g s ∧ len s = 0
theorem refusal_loop (F : Nat) (ld : Int32) {S : Nat} {g len : Nat → Nat} {c w : Nat → Int32} (hS : S ≤ 96) (hc : ∀ s, s < S → g s < 2 ^ 31 ∧ c s = nI (g s)) (hw : ∀ s, s < S → len s < 2 ^ 31 ∧ w s = nI (len s)) : ∀ (d i k : Nat), i + d = S → d < k →
    (lack S g len i → lf_X11_refusalToWrite_14 F (nI S) S c ld S w k (nI i) = some (-2)) ∧ (¬ lack S g len i → lf_X11_refusalToWrite_14 F (nI S) S c ld S w k (nI i) = some 0) := by
  intro d
  induction d with
  | zero =>
    intro i k hi hk
    obtain ⟨k, rfl⟩ : ∃ q, k = q + 1 := ⟨k - 1, by omega⟩
    refine ⟨fun ⟨s, a1, a2, _⟩ => by omega, fun _ => ?_⟩
    show bf_X11_refusalToWrite_14 F (nI S) S c ld S w (fun a => lf_X11_refusalToWrite_14 F (nI S) S c ld S w k a) (nI i) = _
    unfold bf_X11_refusalToWrite_14
    rw [if_pos (nI_le (by omega) (by omega))]
  | succ d ih =>
    intro i k hi hk
    obtain ⟨k, rfl⟩ : ∃ q, k = q + 1 := ⟨k - 1, by omega⟩
    obtain ⟨c1, c2⟩ := hc i (by omega)
    obtain ⟨w1, w2⟩ := hw i (by omega)
    obtain ⟨a1, a2⟩ := ih (i + 1) k (by omega) (by omega)
    have step : lf_X11_refusalToWrite_14 F (nI S) S c ld S w (k + 1) (nI i) = (if nI (g i) ≤ 0 then lf_X11_refusalToWrite_14 F (nI S) S c ld S w k (nI (i + 1)) else (if nI (len i) = 0 then some ((-2 : Int32)) else lf_X11_refusalToWrite_14 F (nI S) S c ld S w k (nI (i + 1)))) := by
      show bf_X11_refusalToWrite_14 F (nI S) S c ld S w (fun a => lf_X11_refusalToWrite_14 F (nI S) S c ld S w k a) (nI i) = _
      unfold bf_X11_refusalToWrite_14
      rw [if_neg (nI_ge (by omega) (by omega)), if_neg (nI_in (by omega) (by omega)), nI_clamp (by omega), c2, w2, if_neg (gin (by omega) (by omega)), show nI i + (1 : Int32) = nI (i + 1) from nI_add i 1]
    have next : ¬ (0 < g i ∧ len i = 0) → (lack S g len i ↔ lack S g len (i + 1)) := fun hne => by
      constructor
      · rintro ⟨s, b1, b2, b3, b4⟩
        refine ⟨s, ?_, b2, b3, b4⟩
        rcases Nat.lt_or_ge i s with q | q
        · exact q
        · have : s = i := by omega
          subst this
          exact absurd ⟨b3, b4⟩ hne
      · rintro ⟨s, b1, b2, b3, b4⟩
        exact ⟨s, by omega, b2, b3, b4⟩
    rw [step]
    by_cases e : g i = 0
    · rw [if_pos ((le0 c1).mpr e)]
      have q := next (fun z => by omega)
      exact ⟨fun z => a1 (q.mp z), fun z => a2 (fun y => z (q.mpr y))⟩
    · rw [if_neg (fun z => e ((le0 c1).mp z))]
      by_cases e2 : len i = 0
      · rw [if_pos (by rw [e2]; rfl)]
        exact ⟨fun _ => rfl, fun z => absurd ⟨i, Nat.le_refl _, by omega, Nat.pos_of_ne_zero e, e2⟩ z⟩
      · rw [if_neg (show ¬ nI (len i) = 0 from fun z => e2 ((nI_eq (b := 0) w1 (by decide)).mp z))]
        have q := next (fun z => e2 z.2)
        exact ⟨fun z => a1 (q.mp z), fun z => a2 (fun y => z (q.mpr y))⟩
/-- the bits of the first n symbols of the text -/
def tb (len t : Nat → Nat) : Nat → Nat
  | 0 => 0
  | n + 1 => tb len t n + len (t n)
theorem tb_le {len t : Nat → Nat} : ∀ n, (∀ k, k < n → len (t k) ≤ 24) → tb len t n ≤ 24 * n
  | 0, _ => Nat.le_refl _
  | n + 1, h => by
    unfold tb
    have := tb_le n (fun k hk => h k (by omega))
    have := h n (by omega)
    omega
def lackT (T : Nat) (len t : Nat → Nat) (i : Nat) : Prop := ∃ k, i ≤ k ∧ k < T ∧ len (t k) = 0
theorem textBits_loop (F : Nat) {S T : Nat} {len t : Nat → Nat} {x w : Nat → Int32} (hS : S ≤ 96) (hT : T ≤ 600) (hx : ∀ k, k < T → t k < S ∧ x k = nI (t k)) (hw : ∀ s, s < S → len s ≤ 24 ∧ w s = nI (len s)) : ∀ (d i k : Nat), i + d = T → d < k →
    (lackT T len t i → lf_X12_textBits_4 F (nI T) 600 x 96 w k (nI (tb len t i)) (nI i) = some (-1)) ∧ (¬ lackT T len t i → lf_X12_textBits_4 F (nI T) 600 x 96 w k (nI (tb len t i)) (nI i) = some (nI (tb len t T))) := by
  intro d
  induction d with
  | zero =>
    intro i k hi hk
    obtain ⟨k, rfl⟩ : ∃ q, k = q + 1 := ⟨k - 1, by omega⟩
    refine ⟨fun ⟨s, a1, a2, _⟩ => by omega, fun _ => ?_⟩
    show bf_X12_textBits_4 F (nI T) 600 x 96 w (fun a b => lf_X12_textBits_4 F (nI T) 600 x 96 w k a b) (nI (tb len t i)) (nI i) = _
    unfold bf_X12_textBits_4
    rw [if_pos (nI_le (by omega) (by omega)), show i = T by omega]
  | succ d ih =>
    intro i k hi hk
    obtain ⟨k, rfl⟩ : ∃ q, k = q + 1 := ⟨k - 1, by omega⟩
    obtain ⟨t1, t2⟩ := hx i (by omega)
    obtain ⟨w1, w2⟩ := hw (t i) t1
    obtain ⟨a1, a2⟩ := ih (i + 1) k (by omega) (by omega)
    have step : lf_X12_textBits_4 F (nI T) 600 x 96 w (k + 1) (nI (tb len t i)) (nI i) = (if nI (len (t i)) = 0 then some ((-1 : Int32)) else lf_X12_textBits_4 F (nI T) 600 x 96 w k (nI (tb len t (i + 1))) (nI (i + 1))) := by
      show bf_X12_textBits_4 F (nI T) 600 x 96 w (fun a b => lf_X12_textBits_4 F (nI T) 600 x 96 w k a b) (nI (tb len t i)) (nI i) = _
      unfold bf_X12_textBits_4
      rw [if_neg (nI_ge (by omega) (by omega)), if_neg (nI_in (by omega) (by omega)), nI_clamp (by omega), t2, if_neg (nI_in (by omega) (by omega)), nI_clamp (by omega), w2, if_neg (gin (by omega) (by omega)), if_neg (gin (by omega) (by omega)), show nI i + (1 : Int32) = nI (i + 1) from nI_add i 1, show nI (tb len t i) + nI (len (t i)) = nI (tb len t (i + 1)) from nI_add _ _]
    rw [step]
    by_cases e : len (t i) = 0
    · rw [if_pos (by rw [e]; rfl)]
      exact ⟨fun _ => rfl, fun z => absurd ⟨i, Nat.le_refl _, by omega, e⟩ z⟩
    · rw [if_neg (show ¬ nI (len (t i)) = 0 from fun z => e ((nI_eq (b := 0) (by omega) (by decide)).mp z))]
      have q : lackT T len t i ↔ lackT T len t (i + 1) := by
        constructor
        · rintro ⟨s, b1, b2, b3⟩
          refine ⟨s, ?_, b2, b3⟩
          rcases Nat.lt_or_ge i s with q | q
          · exact q
          · have : s = i := by omega
            subst this
            exact absurd b3 e
        · rintro ⟨s, b1, b2, b3⟩
          exact ⟨s, by omega, b2, b3⟩
      exact ⟨fun z => a1 (q.mp z), fun z => a2 (fun y => z (q.mpr y))⟩
theorem lack_iff {S T : Nat} {len t : Nat → Nat} (hx : ∀ k, k < T → t k < S) : lack S (cnt t T) len 0 ↔ lackT T len t 0 := by
  constructor
  · rintro ⟨s, -, b2, b3, b4⟩
    obtain ⟨k, k1, k2⟩ := (cnt_pos T).mp b3
    exact ⟨k, Nat.zero_le _, k1, by rw [k2]; exact b4⟩
  · rintro ⟨k, -, k1, k2⟩
    exact ⟨t k, Nat.zero_le _, hx k k1, (cnt_pos T).mpr ⟨k, k1, rfl⟩, k2⟩
/-- the stream of the text's codes, behind M bits of f -/
def stm (f : Nat → Bool) (M : Nat) (cx : Nat → Int32) (len t : Nat → Nat) : Nat → Nat → Bool
  | 0 => f
  | n + 1 => fx (stm f M cx len t n) (M + tb len t n) (cx (t n)) (len (t n))
theorem writeText_loop (F : Nat) {S T M : Nat} {len t : Nat → Nat} {x w cx : Nat → Int32} {f : Nat → Bool} (hS : S ≤ 96) (hT : T ≤ 600) (hF : 24 < F) (hx : ∀ k, k < T → t k < S ∧ x k = nI (t k)) (hw : ∀ s, s < S → len s ≤ 24 ∧ w s = nI (len s)) : ∀ (d i k n : Nat) (ov : Bool) (b : Nat → Int32), i + d = T → d < k → WS 6000 (M + tb len t i) (stm f M cx len t i) n ov b →
    ∃ (n' : Nat) (ov' : Bool) (b' : Nat → Int32), lf_X11_writeText_2 F (nI T) 600 x S w S cx (nI 6000) 188 k (nI i) (nI n) (b01 ov) b = some (nI n', b01 ov', b') ∧ WS 6000 (M + tb len t T) (stm f M cx len t T) n' ov' b' := by
  intro d
  induction d with
  | zero =>
    intro i k n ov b hi hk h
    obtain ⟨k, rfl⟩ : ∃ q, k = q + 1 := ⟨k - 1, by omega⟩
    refine ⟨n, ov, b, ?_, by rw [show T = i by omega]; exact h⟩
    show bf_X11_writeText_2 F (nI T) 600 x S w S cx (nI 6000) 188 (fun a c e g => lf_X11_writeText_2 F (nI T) 600 x S w S cx (nI 6000) 188 k a c e g) (nI i) (nI n) (b01 ov) b = _
    unfold bf_X11_writeText_2
    rw [if_pos (nI_le (by omega) (by omega))]
  | succ d ih =>
    intro i k n ov b hi hk h
    obtain ⟨k, rfl⟩ : ∃ q, k = q + 1 := ⟨k - 1, by omega⟩
    obtain ⟨t1, t2⟩ := hx i (by omega)
    obtain ⟨w1, w2⟩ := hw (t i) t1
    obtain ⟨n1, o1, b1, a1, a2⟩ := addNumber_eq F (N := 6000) (nw := 188) (d := len (t i)) (cx (t i)) (by decide) (by decide) (by decide) (by omega) (by omega) h
    rw [Nat.add_assoc] at a2
    obtain ⟨n2, o2, b2, p1, p2⟩ := ih (i + 1) k n1 o1 b1 (by omega) (by omega) a2
    refine ⟨n2, o2, b2, ?_, p2⟩
    show bf_X11_writeText_2 F (nI T) 600 x S w S cx (nI 6000) 188 (fun a c e g => lf_X11_writeText_2 F (nI T) 600 x S w S cx (nI 6000) 188 k a c e g) (nI i) (nI n) (b01 ov) b = _
    unfold bf_X11_writeText_2
    rw [if_neg (nI_ge (by omega) (by omega)), if_neg (nI_in (by omega) (by omega)), nI_clamp (by omega), t2, if_neg (nI_in (by omega) (by omega)), if_neg (nI_in (by omega) (by omega)), nI_clamp (by omega), w2, a1, bs, show nI i + (1 : Int32) = nI (i + 1) from nI_add i 1]
    exact p1
theorem layText_loop (F : Nat) {S T M : Nat} {len t : Nat → Nat} {x w cx cm : Nat → Int32} {f : Nat → Bool} (hS : S ≤ 96) (hT : T ≤ 600) (hF : 24 < F) (hM : M + tb len t T ≤ 6000) (hx : ∀ k, k < T → t k < S ∧ x k = nI (t k) ∧ cm (t k) = cx (t k)) (hw : ∀ s, s < S → len s ≤ 24 ∧ w s = nI (len s)) : ∀ (d i k : Nat) (b : Nat → Int32), i + d = T → d < k → M + tb len t i ≤ 6000 → WM_ (M + tb len t i) (stm f M cx len t i) b →
    ∃ b', lf_X12_layText_2 F (nI T) 600 x 96 w 96 cm 6000 k (nI i) (nI (M + tb len t i)) b = some (nI (M + tb len t T), b') ∧ WM_ (M + tb len t T) (stm f M cx len t T) b' := by
  intro d
  induction d with
  | zero =>
    intro i k b hi hk hM2 h
    obtain ⟨k, rfl⟩ : ∃ q, k = q + 1 := ⟨k - 1, by omega⟩
    refine ⟨b, ?_, by rw [show T = i by omega]; exact h⟩
    show bf_X12_layText_2 F (nI T) 600 x 96 w 96 cm 6000 (fun a c e => lf_X12_layText_2 F (nI T) 600 x 96 w 96 cm 6000 k a c e) (nI i) (nI (M + tb len t i)) b = _
    unfold bf_X12_layText_2
    rw [if_pos (nI_le (by omega) (by omega)), show i = T by omega]
  | succ d ih =>
    intro i k b hi hk hM2 h
    obtain ⟨k, rfl⟩ : ∃ q, k = q + 1 := ⟨k - 1, by omega⟩
    obtain ⟨t1, t2, t3⟩ := hx i (by omega)
    obtain ⟨w1, w2⟩ := hw (t i) t1
    have mono : ∀ e, tb len t (i + 1) ≤ tb len t (i + 1 + e) := fun e => by
      induction e with
      | zero => exact Nat.le_refl _
      | succ e ihe => exact Nat.le_trans ihe (by show tb len t (i + 1 + e) ≤ tb len t (i + 1 + e) + _; omega)
    have hm1 : M + tb len t (i + 1) ≤ 6000 := by
      have := mono d
      rw [show i + 1 + d = T by omega] at this
      omega
    have hm2 : M + tb len t i + len (t i) ≤ 6000 := by rw [Nat.add_assoc]; exact hm1
    obtain ⟨b1, a1, a2⟩ := lay_ws F (N := 6000) (d := len (t i)) (cx (t i)) (by decide) (by omega) (by omega) hm2 h
    rw [Nat.add_assoc] at a1 a2
    obtain ⟨b2, p1, p2⟩ := ih (i + 1) k b1 (by omega) (by omega) hm1 a2
    refine ⟨b2, ?_, p2⟩
    show bf_X12_layText_2 F (nI T) 600 x 96 w 96 cm 6000 (fun a c e => lf_X12_layText_2 F (nI T) 600 x 96 w 96 cm 6000 k a c e) (nI i) (nI (M + tb len t i)) b = _
    unfold bf_X12_layText_2
    rw [if_neg (nI_ge (by omega) (by omega)), if_neg (nI_in (by omega) (by omega)), nI_clamp (by omega), t2, if_neg (nI_in (by omega) (by omega)), if_neg (gin (by omega) (by omega)), if_neg (nI_in (by omega) (by omega)), nI_clamp (by omega), t3, w2, a1, bs, show nI i + (1 : Int32) = nI (i + 1) from nI_add i 1]
    exact p1
theorem keep_ok (F : Nat) (r s o : Int32) (nw : Nat) (w : Nat → Int32) (r2 s2 : Int32) (nw2 : Nat) (w2 : Nat → Int32) : fn_X11_keepWritten F r s o nw w r2 s2 (b01 false) nw2 w2 = some (s2, r2, s2, b01 false, nw2, w2, r, s, o, nw, w) := rfl
theorem keep_over (F : Nat) (r s o : Int32) (nw : Nat) (w : Nat → Int32) (r2 s2 : Int32) (nw2 : Nat) (w2 : Nat → Int32) : fn_X11_keepWritten F r s o nw w r2 s2 (b01 true) nw2 w2 = some (-3, r, s, o, nw, w, r2, s2, b01 true, nw2, w2) := rfl
theorem refusal_eq {S : Nat} {g len : Nat → Nat} {c w : Nat → Int32} (hS : S ≤ 96) (hc : ∀ s, s < S → g s < 2 ^ 31 ∧ c s = nI (g s)) (hw : ∀ s, s < S → len s < 2 ^ 31 ∧ w s = nI (len s)) :
    (lack S g len 0 → fn_X11_refusalToWrite FU (nI S) S c 1 S w = some (-2)) ∧ (¬ lack S g len 0 → fn_X11_refusalToWrite FU (nI S) S c 1 S w = some 0) :=
  refusal_loop FU 1 hS hc hw S 0 FU (by omega) (by unfold FU; omega)
theorem sim_encode : Sim_encode FU Inv := by
  intro ci cn ca mi mn ma hI
  obtain ⟨S, K, T, t, len, nb, no, nk, hC, hM, hT, hLn, hB, hO, hKy, hP⟩ := id hI
  obtain ⟨h1, ⟨h2, h3, h4, h5, h6⟩, h7⟩ := id hLn
  obtain ⟨⟨t1, t2, t3⟩, t4, t5⟩ := id hT
  have c0 : ci 0 = nI S := hC.2.1.1
  have c3 : cn 3 = 600 := hC.2.2.1.1
  have c5 : cn 5 = S := hC.2.2.1.2
  have c69 : cn 69 = S := hC.2.2.2.2.2.2.2.2.1.2.2.1
  have c71 : cn 71 = S := hC.2.2.2.2.2.2.2.2.1.2.2.2.1
  have c92 : ci 92 = nI 6000 := hC.2.2.2.2.2.2.2.2.2.2.1.2.2.1
  have c95 : cn 95 = 188 := hC.2.2.2.2.2.2.2.2.2.2.1.2.2.2
  have hS : S ≤ 96 := hC.1.2.1
  have hK : K ≤ 24 := hC.1.2.2.2
  have m13 : mn 13 = 600 := hM.2.1.1
  have m15 : mn 15 = 96 := hM.2.1.2.1
  have m17 : mn 17 = 96 := hM.2.1.2.2.1
  have m19 : mn 19 = 6000 := hM.2.1.2.2.2.1
  have ge : gX_encode FU ci cn ca = (fn_X11_refusalToWrite FU (ci 0) (cn 5) (ca 6) (ci 67) (cn 69) (ca 70)).bind fun v1 => (if 0 ≤ v1 then ((fn_X11_writeText FU (ci 2) (cn 3) (ca 4) (cn 69) (ca 70) (cn 71) (ca 72) (ci 92) (cn 95) 0 0 (ca 96)).bind fun v19 => ((fn_X11_keepWritten FU (ci 87) (ci 88) (ci 89) (cn 90) (ca 91) (ci 92) v19.1 v19.2.1 (cn 95) v19.2.2).bind fun v23 => some (v23.1, v23.2.1, v23.2.2.1, v23.2.2.2.1, v23.2.2.2.2.1, v23.2.2.2.2.2.1, v23.2.2.2.2.2.2.1, v23.2.2.2.2.2.2.2.1, v23.2.2.2.2.2.2.2.2.1, v23.2.2.2.2.2.2.2.2.2.1, v23.2.2.2.2.2.2.2.2.2.2))) else some (v1, ci 87, ci 88, ci 89, cn 90, ca 91, ci 92, ci 93, ci 94, cn 95, ca 96)) := rfl
  have gm : gM_encode FU mi mn ma = (if mi 4 = 0 then some ((-1 : Int32), mi 5, ma 20) else ((fn_X12_textBits FU (mi 2) (mn 13) (ma 14) (mn 15) (ma 16)).bind fun v10 => (if v10 = (-1 : Int32) then (if v10 = (-1 : Int32) then some ((-2 : Int32), mi 5, ma 20) else some ((-3 : Int32), mi 5, ma 20)) else (if v10 ≤ (6000 : Int32) then ((fn_X12_layText FU (mi 2) (mn 13) (ma 14) (mn 15) (ma 16) (mn 17) (ma 18) (mn 19) (0 : Int32) (ma 20)).bind fun v45 => some (v45.1, v45.1, v45.2)) else (if v10 = (-1 : Int32) then some ((-2 : Int32), mi 5, ma 20) else some ((-3 : Int32), mi 5, ma 20)))))) := rfl
  rw [← h4] at gm
  rcases h5 with hl | hl
  · rw [if_pos hl] at gm
    have e : fn_X11_refusalToWrite FU (ci 0) (cn 5) (ca 6) (ci 67) (cn 69) (ca 70) = some (-1) := by rw [hl]; rfl
    rw [e, bs, if_neg (by decide)] at ge
    exact ⟨_, _, ge, gm, rfl, S, K, T, t, len, nb, no, nk, hC, hM, hT, hLn, hB, hO, hKy, hP⟩
  rw [if_neg (by rw [hl]; decide), t3, m13, m15, m17, m19] at gm
  rw [c0, c5, hl, c69, t2, c3, c71, c92, c95] at ge
  have hw : ∀ s, s < S → len s ≤ 24 ∧ ma 16 s = nI (len s) := fun s hs => ⟨by have := (h1 s hs).1; omega, (h1 s hs).2.2⟩
  have hwx : ∀ s, s < S → len s ≤ 24 ∧ ca 70 s = nI (len s) := fun s hs => ⟨by have := (h1 s hs).1; omega, (h1 s hs).2.1⟩
  obtain ⟨r1, r2⟩ := refusal_eq (S := S) (g := cnt t T) (len := len) (c := ca 6) (w := ca 70) hS (fun s hs => ⟨by have := cnt_le t s T; omega, t5 s hs⟩) (fun s hs => ⟨by have := (h1 s hs).1; omega, (h1 s hs).2.1⟩)
  obtain ⟨b1, b2⟩ := textBits_loop FU (S := S) (T := T) (len := len) (t := t) (x := ma 14) (w := ma 16) hS t1 (fun k hk => ⟨(t4 k hk).1, (t4 k hk).2.2⟩) hw T 0 FU (by omega) (by unfold FU; omega)
  have tbe : fn_X12_textBits FU (nI T) 600 (ma 14) 96 (ma 16) = lf_X12_textBits_4 FU (nI T) 600 (ma 14) 96 (ma 16) FU (nI (tb len t 0)) (nI 0) := rfl
  rw [tbe] at gm
  by_cases hlk : lackT T len t 0
  · rw [r1 ((lack_iff (fun k hk => (t4 k hk).1)).mpr hlk), bs, if_neg (by decide)] at ge
    rw [b1 hlk, bs, if_pos rfl, if_pos rfl] at gm
    rw [← c92, ← c95] at ge
    exact ⟨_, _, ge, gm, rfl, S, K, T, t, len, nb, no, nk, hC, hM, hT, hLn, hB, hO, hKy, hP⟩
  rw [r2 (fun z => hlk ((lack_iff (fun k hk => (t4 k hk).1)).mp z)), bs, if_pos (by decide)] at ge
  have ht24 : tb len t T ≤ 24 * T := tb_le T (fun k hk => (hw (t k) (t4 k hk).1).1)
  rw [b2 hlk, bs, if_neg (show ¬ nI (tb len t T) = -1 from fun z => by
    have z2 := congrArg Int32.toInt z
    rw [nI_toInt (by omega)] at z2
    have : (-1 : Int32).toInt = -1 := by decide
    omega)] at gm
  have ws0 : WS 6000 (0 + tb len t 0) (stm (fun _ => false) 0 (ca 72) len t 0) 0 false (ca 96) := ⟨rfl, rfl, fun i hi => absurd hi (Nat.not_lt_zero i)⟩
  obtain ⟨n', ov', w', p1, p2⟩ := writeText_loop FU (S := S) (T := T) (M := 0) (len := len) (t := t) (x := ca 4) (w := ca 70) (cx := ca 72) (f := fun _ => false) hS t1 (by decide) (fun k hk => ⟨(t4 k hk).1, (t4 k hk).2.1⟩) hwx T 0 FU 0 false (ca 96) (by omega) (by unfold FU; omega) ws0
  have wte : fn_X11_writeText FU (nI T) 600 (ca 4) S (ca 70) S (ca 72) (nI 6000) 188 0 0 (ca 96) = some (nI n', b01 ov', w') := p1
  rw [wte, bs] at ge
  rw [Nat.zero_add] at p2
  obtain ⟨q1, q2, q3⟩ := p2
  by_cases hov : 6000 < tb len t T
  · rw [show ov' = true by rw [q2]; simp [hov], keep_over, bs] at ge
    rw [if_neg (show ¬ nI (tb len t T) ≤ 6000 from nI_ge hov (by omega)), if_neg (show ¬ nI (tb len t T) = -1 from fun z => by
      have z2 := congrArg Int32.toInt z
      rw [nI_toInt (by omega)] at z2
      have : (-1 : Int32).toInt = -1 := by decide
      omega)] at gm
    rw [← c92, ← c95] at ge
    exact ⟨_, _, ge, gm, rfl, S, K, T, t, len, nb, no, nk, hC, hM, hT, hLn, hB, hO, hKy, hP⟩
  · rw [show ov' = false by rw [q2]; simp [hov], keep_ok, bs] at ge
    rw [if_pos (show nI (tb len t T) ≤ 6000 from nI_le (Nat.not_lt.mp hov) (by decide))] at gm
    obtain ⟨io, l1, l2, l3, l4, l5, l6⟩ := h7 hl
    have hcm : ∀ k, k < T → t k < S ∧ ma 14 k = nI (t k) ∧ ma 18 (t k) = ca 72 (t k) := fun k hk => by
      have hp : 0 < len (t k) := Nat.pos_of_ne_zero (fun z => hlk ⟨k, Nat.zero_le _, hk, z⟩)
      obtain ⟨_, e1, e2⟩ := l5 (t k) (t4 k hk).1 hp
      exact ⟨(t4 k hk).1, (t4 k hk).2.2, by rw [e1, e2]⟩
    obtain ⟨b', u1, u2⟩ := layText_loop FU (S := S) (T := T) (M := 0) (len := len) (t := t) (x := ma 14) (w := ma 16) (cx := ca 72) (cm := ma 18) (f := fun _ => false) hS t1 (by decide) (by omega) hcm hw T 0 FU (ma 20) (by omega) (by unfold FU; omega) (by show 0 + 0 ≤ 6000; omega) (fun i hi => absurd hi (Nat.not_lt_zero i))
    have lte : fn_X12_layText FU (nI T) 600 (ma 14) 96 (ma 16) 96 (ma 18) 6000 0 (ma 20) = some (nI (0 + tb len t T), b') := u1
    rw [lte, bs] at gm
    rw [← c92, ← c95] at ge
    have hn : n' = tb len t T := by omega
    refine ⟨_, _, ge, gm, by show nI n' = nI (0 + tb len t T); rw [Nat.zero_add, hn], S, K, T, t, len, tb len t T, no, nk, ?_, hM, hT, hLn, ?_, hO, hKy, hP⟩
    · obtain ⟨d1, d2, d3, d4, d5, d6, d7, d8, d9, d10, d11, d12⟩ := hC
      exact ⟨d1, d2, d3, d4, d5, d6, d7, d8, d9, d10, ⟨d11.2.2.1, d11.2.2.2, d11.1, d11.2.1⟩, d12⟩
    · refine ⟨⟨by omega, by show nI n' = _; rw [hn], by show nI (0 + tb len t T) = _; rw [Nat.zero_add]⟩, fun i hi => ?_⟩
      show b' i = b01 (wbit w' i)
      rw [u2 i (by omega), q3 i (by omega)]
