/-! unpack. -/
theorem lies_loop (F : Nat) {S : Nat} {len : Nat → Nat} {w : Nat → Int32} (hS : S ≤ 96) (hw : ∀ s, s < S → len s ≤ 24 ∧ w s = nI (len s)) (hsum : stA len (fun _ => true) S ≤ 16777216) : ∀ (d i k : Nat), i + d = S → d < k →
    ∃ f : Bool, lf_X10_liesEvenly_4 F (nI S) S w k (nI (stA len (pord i) S)) (nI i) = some (b01 f) ∧ (f = true ↔ ∀ s, i ≤ s → s < S → 0 < len s → 2 ^ (24 - len s) ∣ stO true S len s) := by
  intro d
  induction d with
  | zero =>
    intro i k hi hk
    obtain ⟨k, rfl⟩ : ∃ q, k = q + 1 := ⟨k - 1, by omega⟩
    refine ⟨true, ?_, ⟨fun _ s h1 h2 => by omega, fun _ => rfl⟩⟩
    show bf_X10_liesEvenly_4 F (nI S) S w (fun a b => lf_X10_liesEvenly_4 F (nI S) S w k a b) (nI (stA len (pord i) S)) (nI i) = _
    unfold bf_X10_liesEvenly_4
    rw [if_pos (nI_le (by omega) (by omega))]
    rfl
  | succ d ih =>
    intro i k hi hk
    obtain ⟨k, rfl⟩ : ∃ q, k = q + 1 := ⟨k - 1, by omega⟩
    obtain ⟨w1, w2⟩ := hw i (by omega)
    obtain ⟨f, f1, f2⟩ := ih (i + 1) k (by omega) (by omega)
    have unf : lf_X10_liesEvenly_4 F (nI S) S w (k + 1) (nI (stA len (pord i) S)) (nI i) = bf_X10_liesEvenly_4 F (nI S) S w (fun a b => lf_X10_liesEvenly_4 F (nI S) S w k a b) (nI (stA len (pord i) S)) (nI i) := rfl
    rw [unf]
    unfold bf_X10_liesEvenly_4
    rw [if_neg (nI_ge (by omega) (by omega)), if_neg (nI_in (by omega) (by omega)), nI_clamp (by omega), w2, show nI i + (1 : Int32) = nI (i + 1) from nI_add i 1, if_neg (gin (by omega) (by omega)), (share_eq F w1).1, bs]
    by_cases e : len i = 0
    · rw [if_pos ((le0 (by omega)).mpr e)]
      have nei : ∀ s, 0 < len s → s ≠ i := fun s hl y => by subst y; omega
      refine ⟨f, ?_, f2.trans ⟨fun z s h1 h2 h3 => z s (by have := nei s h3; omega) h2 h3, fun z s h1 => z s (by omega)⟩⟩
      rw [stA_congr S (p := pord i) (q := pord (i + 1)) (fun s hs hl => decide_eq_decide.mpr (by have := nei s hl; omega))]
      exact f1
    · have hp : pord i i = false := by simp [pord]
      have hb := sum_ins (S := S) (len := len) (s := i) (by omega) (Nat.pos_of_ne_zero e) hp
      have hpos : 0 < 2 ^ (24 - len i) := Nat.pow_pos (by decide)
      have hst : stA len (pord (i + 1)) S = stA len (pord i) S + 2 ^ (24 - len i) := by
        rw [stA_congr S (p := pord (i + 1)) (q := ins (pord i) i) (fun s hs hl => by
          by_cases q : s = i
          · subst q; simp [ins, pord]
          · rw [ins_o q]; exact decide_eq_decide.mpr (by omega)), stA_ins (Nat.pos_of_ne_zero e) hp, if_pos (by omega)]
      rw [if_neg (fun z => e ((le0 (by omega)).mp z)), show nI (2 ^ (24 - len i)) - (1 : Int32) = nI (2 ^ (24 - len i) - 1) from pk_sub (b := 1) hpos, pk_andN (by omega) (24 - len i) (pk_tn (by omega)), nI_add, ← hst]
      have hm := Nat.mod_lt (stA len (pord i) S) hpos
      by_cases q : 2 ^ (24 - len i) ∣ stA len (pord i) S
      · rw [if_pos (by rw [Nat.mod_eq_zero_of_dvd q]; rfl)]
        refine ⟨f, f1, f2.trans ⟨fun z s h1 h2 h3 => ?_, fun z s h1 => z s (by omega)⟩⟩
        by_cases es : s = i
        · subst es; exact q
        · exact z s (by omega) h2 h3
      · rw [if_neg (fun z => q (Nat.dvd_of_mod_eq_zero ((nI_e0 (by omega)).mp z)))]
        exact ⟨false, rfl, ⟨fun z => absurd z (by decide), fun z => absurd (z i (Nat.le_refl _) (by omega) (Nat.pos_of_ne_zero e)) q⟩⟩
theorem right_eq (F : Nat) {io : Bool} {S : Nat} {len : Nat → Nat} {w : Nat → Int32} (hF : 1000 < F) (hS : S ≤ 96) (hw : ∀ s, s < S → len s ≤ 24 ∧ w s = nI (len s)) :
    ∃ f : Bool, fn_X10_isRight F (nI S) (b01 io) S w = some (b01 f) ∧ (f = true ↔ (0 < ncA len S ∧ stA len (fun _ => true) S ≤ 16777216 ∧ ∀ s, s < S → 0 < len s → 2 ^ (24 - len s) ∣ stO io S len s)) := by
  have hncl := nc_le len S
  have hb := sm_le len S
  unfold fn_X10_isRight bf_X10_isRight_0
  rw [codeNumber_eq (F := F) (S := S) (n := S) (g := len) (Nat.le_refl _) (by omega) (by omega) (fun s hs => ⟨by have := (hw s hs).1; omega, (hw s hs).2⟩), bs, sum_eq (F := F) (S := S) (n := S) (len := len) (Nat.le_refl _) hS (by omega) (by omega) hw, bs, ncA_eq, stA_all]
  by_cases h1 : nc len S = 0
  · rw [if_pos ((le0 (by omega)).mpr h1)]
    exact ⟨false, rfl, ⟨fun z => absurd z (by decide), fun z => by omega⟩⟩
  rw [if_neg (fun z => h1 ((le0 (by omega)).mp z))]
  by_cases h2 : 16777216 < sm len S
  · rw [if_pos (show (16777216 : Int32) < nI (sm len S) from nI_lt (a := 16777216) h2 (by omega))]
    exact ⟨false, rfl, ⟨fun z => absurd z (by decide), fun z => by omega⟩⟩
  rw [if_neg (show ¬ (16777216 : Int32) < nI (sm len S) from nI_nlt (a := 16777216) (by omega) (by decide))]
  cases io with
  | false =>
    rw [if_pos (show b01 false = 0 from rfl)]
    exact ⟨true, rfl, ⟨fun _ => ⟨by omega, by omega, fun s hs _ => even_canon (fun s hs => (hw s hs).1) hs⟩, fun _ => rfl⟩⟩
  | true =>
    rw [if_neg (show ¬ b01 true = 0 by decide)]
    have e0 : stA len (pord 0) S = 0 := by
      rw [stA_congr S (p := pord 0) (q := fun _ => false) (fun s _ _ => by simp [pord])]
      exact (MC.start (io := true) (S := S) (len := len) (codes := w)).1.symm
    obtain ⟨f, f1, f2⟩ := lies_loop F hS hw (by rw [stA_all]; omega) S 0 F (by omega) (by omega)
    rw [e0] at f1
    rw [show fn_X10_liesEvenly F (nI S) S w = some (b01 f) from f1, bs]
    refine ⟨f, ?_, f2.trans ⟨fun z => ⟨by omega, by omega, fun s h2 h3 => z s (by omega) h2 h3⟩, fun z s _ h2 h3 => z.2.2 s h2 h3⟩⟩
    cases f with
    | false => rfl
    | true => rfl
/-- the reference's makeCodes says the same -/
theorem make_any (F : Nat) {io : Bool} {S : Nat} {len : Nat → Nat} {w : Nat → Int32} (codes : Nat → Int32) (hS : S ≤ 96) (hF : 1000 < F) (hw : ∀ s, s < S → len s ≤ 24 ∧ w s = nI (len s)) :
    ∃ (f : Bool) (codes' : Nat → Int32), fn_X12_makeCodes F (nI S) (b01 io) 96 w 96 codes = some (b01 f, codes') ∧ (f = true ↔ (0 < ncA len S ∧ stA len (fun _ => true) S ≤ 16777216 ∧ ∀ s, s < S → 0 < len s → 2 ^ (24 - len s) ∣ stO io S len s)) ∧ (0 < ncA len S ∧ stA len (fun _ => true) S ≤ 16777216 → ∀ s, s < S → 0 < len s → codes' s = nI (cd io S len s)) := by
  by_cases h : 0 < ncA len S ∧ stA len (fun _ => true) S ≤ 16777216
  · obtain ⟨f, c, a1, a2, a3⟩ := make_eq F (io := io) codes hS hF hw h.1 h.2
    exact ⟨f, c, a1, a2.trans ⟨fun z => ⟨h.1, h.2, z⟩, fun z => z.2.2⟩, fun _ => a3⟩
  · refine ⟨false, codes, make_no F codes hS hF hw (by omega), ⟨fun z => absurd z (by decide), fun z => absurd ⟨z.1, z.2.1⟩ h⟩, fun z => absurd z h⟩
/-- the packed text is read, or both fail alike -/
def UOut (S K : Nat) (x : Option (Int32 × Int32 × Int32 × Int32 × Int32 × Int32 × Int32 × (Nat → Int32) × (Nat → Int32) × (Nat → Int32) × Int32 × (Nat → Int32))) (y : Option (Int32 × Int32 × Int32 × Int32 × Int32 × (Nat → Int32) × (Nat → Int32) × (Nat → Int32))) : Prop :=
  (∃ (n : Nat) (io : Bool) (len : Nat → Nat) (z1 p nodes full y1 y2 : Int32) (lx cx bx oX lm cm oM : Nat → Int32), n ≤ 600 ∧ x = some (nI n, z1, p, nodes, b01 io, 1, full, lx, cx, bx, nI n, oX) ∧ y = some (nI n, b01 io, p, y1, y2, lm, cm, oM) ∧ (∀ j, j < n → oX j = oM j) ∧ (∀ s, s < S → len s ≤ K ∧ lx s = nI (len s) ∧ lm s = nI (len s)) ∧ Ld S K len (b01 io) nodes full cx bx cm) ∨
  (∃ (a p : Int32), ¬ 0 ≤ a ∧ (∃ z1 z2, x = some (a, z1, p, z2)) ∧ ∃ y1 y2, y = some (a, y1, p, y2))
theorem text_loop (F : Nat) {io io1 : Bool} {S K N nb n : Nat} {len : Nat → Nat} {pre : Nat → Nat × Nat} {nodes full most symX : Int32} {below lx cx lenM codesM bits words : Nat → Int32} (hRd : Rd io1 S K len N pre below lenM codesM) (hF : 10000 < F) (hnb : nb ≤ 6000) (hn : n ≤ 600) (hbits : ∀ i, i < nb → bits i = b01 (wbit words i)) (hlen : ∀ s, s < S → len s ≤ K ∧ lx s = nI (len s) ∧ lenM s = nI (len s)) (hLd : Ld S K len (b01 io) nodes full cx below codesM) : ∀ (d o i k k' : Nat) (pl sy : Int32) (oX oM : Nat → Int32), o + d = n → d < k → d < k' → i ≤ nb → (∀ j, j < o → oX j = oM j) →
    UOut S K (lf_X8_readPacked_73 F (nI nb) 188 words symX most S S (2 * (S + K)) 600 k (nI n) (nI o) (nI i) pl nodes (b01 io) 1 full lx cx below (nI o) oX) (lf_X12_readPacked_157 F (nI S) most (nI nb) 96 96 6000 bits 600 k' (nI n) (nI o) (b01 io) pl (nI i) sy lenM codesM oM) := by
  intro d
  induction d with
  | zero =>
    intro o i k k' pl sy oX oM ho hk hk' hi ha
    obtain ⟨k, rfl⟩ : ∃ q, k = q + 1 := ⟨k - 1, by omega⟩
    obtain ⟨k', rfl⟩ : ∃ q, k' = q + 1 := ⟨k' - 1, by omega⟩
    obtain rfl : o = n := by omega
    have ux : lf_X8_readPacked_73 F (nI nb) 188 words symX most S S (2 * (S + K)) 600 (k + 1) (nI o) (nI o) (nI i) pl nodes (b01 io) 1 full lx cx below (nI o) oX = bf_X8_readPacked_73 F (nI nb) 188 words symX most S S (2 * (S + K)) 600 (fun a b c d e f g h i j l m q => lf_X8_readPacked_73 F (nI nb) 188 words symX most S S (2 * (S + K)) 600 k a b c d e f g h i j l m q) (nI o) (nI o) (nI i) pl nodes (b01 io) 1 full lx cx below (nI o) oX := rfl
    have um : lf_X12_readPacked_157 F (nI S) most (nI nb) 96 96 6000 bits 600 (k' + 1) (nI o) (nI o) (b01 io) pl (nI i) sy lenM codesM oM = bf_X12_readPacked_157 F (nI S) most (nI nb) 96 96 6000 bits 600 (fun a b c d e f g h i => lf_X12_readPacked_157 F (nI S) most (nI nb) 96 96 6000 bits 600 k' a b c d e f g h i) (nI o) (nI o) (b01 io) pl (nI i) sy lenM codesM oM := rfl
    rw [ux, um]
    unfold bf_X8_readPacked_73 bf_X12_readPacked_157
    rw [if_pos (nI_le (Nat.le_refl _) (by omega)), if_pos (nI_le (Nat.le_refl _) (by omega))]
    by_cases h : nb ≤ i
    · rw [if_pos (nI_le h (by omega)), if_pos (nI_le h (by omega))]
      exact Or.inl ⟨o, io, len, _, pl, nodes, full, _, _, lx, cx, below, oX, lenM, codesM, oM, hn, rfl, rfl, ha, hlen, hLd⟩
    · rw [if_neg (nI_ge (by omega) (by omega)), if_neg (nI_ge (by omega) (by omega))]
      exact Or.inr ⟨-10, nI i, by decide, ⟨_, _, rfl⟩, ⟨_, _, rfl⟩⟩
  | succ d ih =>
    intro o i k k' pl sy oX oM ho hk hk' hi ha
    obtain ⟨k, rfl⟩ : ∃ q, k = q + 1 := ⟨k - 1, by omega⟩
    obtain ⟨k', rfl⟩ : ∃ q, k' = q + 1 := ⟨k' - 1, by omega⟩
    have ux : lf_X8_readPacked_73 F (nI nb) 188 words symX most S S (2 * (S + K)) 600 (k + 1) (nI n) (nI o) (nI i) pl nodes (b01 io) 1 full lx cx below (nI o) oX = bf_X8_readPacked_73 F (nI nb) 188 words symX most S S (2 * (S + K)) 600 (fun a b c d e f g h i j l m q => lf_X8_readPacked_73 F (nI nb) 188 words symX most S S (2 * (S + K)) 600 k a b c d e f g h i j l m q) (nI n) (nI o) (nI i) pl nodes (b01 io) 1 full lx cx below (nI o) oX := rfl
    have um : lf_X12_readPacked_157 F (nI S) most (nI nb) 96 96 6000 bits 600 (k' + 1) (nI n) (nI o) (b01 io) pl (nI i) sy lenM codesM oM = bf_X12_readPacked_157 F (nI S) most (nI nb) 96 96 6000 bits 600 (fun a b c d e f g h i => lf_X12_readPacked_157 F (nI S) most (nI nb) 96 96 6000 bits 600 k' a b c d e f g h i) (nI n) (nI o) (b01 io) pl (nI i) sy lenM codesM oM := rfl
    rw [ux, um]
    unfold bf_X8_readPacked_73 bf_X12_readPacked_157
    rw [if_neg (nI_ge (by omega) (by omega)), if_neg (nI_ge (by omega) (by omega))]
    rcases readOne F pl sy hRd hF hnb hi hbits with ⟨s, j, s1, s2, s3, s4, s5⟩ | ⟨j, a, ⟨c, s4⟩, s5⟩ | ⟨j, a, ⟨c, s4⟩, s5⟩
    · have hS := hRd.1.1
      rw [s4, bs, s5, bs, if_pos (nI_pos' (by omega)), if_pos (show (0 : Int32) ≤ 0 by decide), addRow_eq F oX (nI s) (by omega), bs, if_neg (nI_in (by omega) (by decide)), nI_clamp (by omega), show nI o + (1 : Int32) = nI (o + 1) from nI_add o 1]
      exact ih (o + 1) j k k' pl (nI s) (upd oX o (nI s)) (upd oM o (nI s)) (by omega) (by omega) (by omega) s3 (fun x hx => by
        by_cases q : x = o
        · subst q; rw [pk_us, pk_us]
        · rw [pk_un q, pk_un q]; exact ha x (by omega))
    · rw [s4, bs, s5, bs, if_neg (show ¬ (0 : Int32) ≤ -3 by decide), if_neg (show ¬ (3 : Int32) ≤ 0 by decide)]
      exact Or.inr ⟨-3, j, by decide, ⟨_, _, rfl⟩, ⟨_, _, rfl⟩⟩
    · rw [s4, bs, s5, bs, if_neg (show ¬ (0 : Int32) ≤ -2 by decide), if_neg (show ¬ (2 : Int32) ≤ 0 by decide)]
      exact Or.inr ⟨-2, j, by decide, ⟨_, _, rfl⟩, ⟨_, _, rfl⟩⟩
theorem packed_eq (F : Nat) {S K nb : Nat} {bits words : Nat → Int32} (atX pl nodes ioX ld full szX ioM atM sy : Int32) (lx cx bx iX lm cm oM : Nat → Int32) (hF : 10000 < F) (hS2 : 2 ≤ S) (hS : S ≤ 96) (hK : K ≤ 24) (hnb : nb ≤ 6000) (hbits : ∀ i, i < nb → bits i = b01 (wbit words i)) :
    UOut S K (fn_X8_readPacked F (nI nb) 188 words (nI S) (nI K) S S (2 * (S + K)) 600 atX pl nodes ioX ld full lx cx bx szX iX) (fn_X12_readPacked F (nI S) (nI K) (nI nb) 96 96 6000 bits 600 ioM pl atM sy lm cm oM) := by
  unfold fn_X8_readPacked bf_X8_readPacked_0 fn_X8_readTable bf_X8_readTable_0 fn_X12_readPacked bf_X12_readPacked_0
  have sS : nI S - (1 : Int32) = nI (S - 1) := pk_sub (b := 1) (by omega)
  by_cases h7 : nb < 0 + 7
  · obtain ⟨n1, n2⟩ := num_no F bits words pl hnb (W := 7) (by decide) (i := 0) (by omega) h7
    rw [show fn_X8_readNumber F (nI nb) 188 words 0 pl 7 = _ from n1, bs, show fn_X12_number F (nI nb) 6000 bits 0 7 = _ from n2, bs, if_neg (show ¬ (0 : Int32) ≤ -2 by decide), if_pos rfl, bs, if_neg (show ¬ (0 : Int32) ≤ -2 by decide)]
    exact Or.inr ⟨-2, nI nb, by decide, ⟨_, _, rfl⟩, ⟨_, _, rfl⟩⟩
  obtain ⟨v, v1, v2, v3⟩ := num_ok F (W := 7) pl (by omega) hnb (by decide) (by omega) hbits (i := 0)
  have v128 : v < 128 := v1
  rw [show fn_X8_readNumber F (nI nb) 188 words 0 pl 7 = _ from v2, bs, show fn_X12_number F (nI nb) 6000 bits 0 7 = _ from v3, bs, if_pos (nI_pos' (by omega)), if_neg (nI_nm1 (by omega)), sS]
  by_cases hv : ¬ v = S - 1
  · rw [if_neg (fun z => hv ((nI_eq (by omega) (by omega)).mp z)), if_neg (fun z => hv ((nI_eq (by omega) (by omega)).mp z)), show fn_X8_fail F (nI v, nI (0 + 7), pl).2.2 (-5) 0 = some (-5, 0) from rfl, bs, bs, if_neg (show ¬ (0 : Int32) ≤ -5 by decide)]
    exact Or.inr ⟨-5, 0, by decide, ⟨_, _, rfl⟩, ⟨_, _, rfl⟩⟩
  obtain rfl : v = S - 1 := Classical.not_not.mp hv
  rw [if_pos rfl, if_pos rfl]
  by_cases h1 : nb < 0 + 7 + 1
  · obtain ⟨n1, n2⟩ := num_no F bits words pl hnb (W := 1) (by decide) (i := 0 + 7) (by omega) h1
    rw [show fn_X8_readNumber F (nI nb) 188 words (nI (0 + 7)) pl 1 = _ from n1, bs, show fn_X12_number F (nI nb) 6000 bits (nI (0 + 7)) 1 = _ from n2, bs, if_neg (show ¬ (0 : Int32) ≤ -2 by decide), if_pos rfl, bs, if_neg (show ¬ (0 : Int32) ≤ -2 by decide)]
    exact Or.inr ⟨-2, nI nb, by decide, ⟨_, _, rfl⟩, ⟨_, _, rfl⟩⟩
  obtain ⟨o, o1, o2, o3⟩ := num_ok F (W := 1) pl (by omega) hnb (by decide) (by omega) hbits (i := 0 + 7)
  have o12 : o < 2 := o1
  obtain ⟨io, hio⟩ : ∃ io : Bool, nI o = b01 io := by
    have : o = 0 ∨ o = 1 := by omega
    rcases this with rfl | rfl
    · exact ⟨false, rfl⟩
    · exact ⟨true, rfl⟩
  rw [show fn_X8_readNumber F (nI nb) 188 words (nI (0 + 7)) pl 1 = _ from o2, bs, show fn_X12_number F (nI nb) 6000 bits (nI (0 + 7)) 1 = _ from o3, bs, if_pos (nI_pos' (by omega)), if_neg (nI_nm1 (by omega)), hio]
  have pick : ∀ {α : Type} (p : Int32 → α), (if b01 io = 1 then p 1 else p 0) = p (b01 io) := fun p => by cases io <;> rfl
  rw [pick (fun q => bf_X8_readTable_60 F (nI nb) 188 words (nI S) (nI K) S q (nI (0 + 7 + 1)) pl ioX lx), pick (fun q => bf_X12_readPacked_79 F (nI S) (nI K) (nI nb) 96 96 6000 bits 600 q ioM pl (nI (0 + 7 + 1)) sy lm cm oM)]
  unfold bf_X8_readTable_60 bf_X12_readPacked_79
  rw [if_neg (fun z => z (b01_cases io)), if_neg (fun z => z (b01_cases io))]
  obtain ⟨l0, z1, z2⟩ := fill_eq (F := F) (n := S) (by omega) (by omega) lx 0
  have rl := lens_read F (pl := pl) (by omega) hS hK hnb hbits S 0 (0 + 7 + 1) F F (fun _ => 0) l0 lm (by omega) (by omega) (by omega) (by omega) (fun x hx => by omega) (fun x _ hx => z2 x hx)
  have ex : fn_X8_readLengths F (nI nb) 188 words (nI S) (nI K) S (nI (0 + 7 + 1)) pl lx = lf_X8_readLengths_10 F (nI nb) 188 words (nI S) (nI K) S F (nI 0) (nI (0 + 7 + 1)) pl l0 := by
    unfold fn_X8_readLengths bf_X8_readLengths_0
    rw [z1, bs]
    rfl
  have em : fn_X12_readLengths F (nI S) (nI K) (nI nb) 96 6000 bits pl (nI (0 + 7 + 1)) lm = lf_X12_readLengths_2 F (nI S) (nI K) (nI nb) 96 6000 bits F (nI 0) pl (nI (0 + 7 + 1)) lm := rfl
  rw [← ex, ← em] at rl
  rcases rl.symm with ⟨a, p, q1, ⟨y1, y2, q2⟩, ⟨y3, y4, q3⟩⟩ | ⟨j, len, lx', lm', j1, r1, r2, r3⟩
  · rw [q2, bs, q3, bs, if_neg q1, if_neg q1, bs, if_neg q1]
    exact Or.inr ⟨a, p, q1, ⟨_, _, rfl⟩, ⟨_, _, rfl⟩⟩
  have hwx : ∀ s, s < S → len s ≤ 24 ∧ lx' s = nI (len s) := fun s hs => ⟨by have := (r3 s hs).1; omega, (r3 s hs).2.1⟩
  have hwm : ∀ s, s < S → len s ≤ 24 ∧ lm' s = nI (len s) := fun s hs => ⟨by have := (r3 s hs).1; omega, (r3 s hs).2.2⟩
  obtain ⟨f, f1, f2⟩ := right_eq F (io := io) (by omega) hS hwx
  obtain ⟨f', cm', g1, g2, g3⟩ := make_any F (io := io) cm hS (by omega) hwm
  obtain rfl : f = f' := Bool.eq_iff_iff.mpr (f2.trans g2.symm)
  rw [r1, bs, r2, bs, if_pos (show (0 : Int32) ≤ 0 by decide), if_pos (show (0 : Int32) ≤ 0 by decide), f1, bs, g1, bs]
  cases f with
  | false =>
    rw [if_pos (show b01 false = 0 from rfl), if_pos (show b01 false = 0 from rfl), show fn_X8_fail F pl (-8) (nI j) = some (-8, nI j) from rfl, bs, bs, if_neg (show ¬ (0 : Int32) ≤ -8 by decide)]
    exact Or.inr ⟨-8, nI j, by decide, ⟨_, _, rfl⟩, ⟨_, _, rfl⟩⟩
  | true =>
    rw [if_neg (show ¬ b01 true = 0 by decide), if_neg (show ¬ b01 true = 0 by decide), bs, if_pos (show (0 : Int32) ≤ 0 by decide)]
    obtain ⟨d1, d2, d3⟩ := f2.mp rfl
    obtain ⟨nd, fl, cx', bx', w1, w2⟩ := forge_eq F (io := io) nodes ld full cx bx (by omega) hS hK (by omega) (fun s hs => ⟨(r3 s hs).1, (r3 s hs).2.1⟩) d1 d2 d3
    have hLd := w2 cm' (g3 ⟨d1, d2⟩)
    rw [w1, bs]
    by_cases h10 : nb < j + 10
    · obtain ⟨n1, n2⟩ := num_no F bits words pl hnb (W := 10) (by decide) (i := j) j1 h10
      rw [show fn_X8_readNumber F (nI nb) 188 words (nI j) pl 10 = _ from n1, bs, show fn_X12_number F (nI nb) 6000 bits (nI j) 10 = _ from n2, bs, if_neg (show ¬ (0 : Int32) ≤ -2 by decide), if_pos rfl]
      exact Or.inr ⟨-2, nI nb, by decide, ⟨_, _, rfl⟩, ⟨_, _, rfl⟩⟩
    obtain ⟨n, n1, n2, n3⟩ := num_ok F (W := 10) pl (by omega) hnb (by decide) (by omega) hbits (i := j)
    have n1024 : n < 1024 := n1
    rw [show fn_X8_readNumber F (nI nb) 188 words (nI j) pl 10 = _ from n2, bs, show fn_X12_number F (nI nb) 6000 bits (nI j) 10 = _ from n3, bs, if_pos (nI_pos' (by omega)), if_neg (nI_nm1 (by omega))]
    by_cases h6 : n ≤ 600
    · rw [if_pos (show nI n ≤ 600 from nI_le (b := 600) h6 (by decide)), if_pos (show nI n ≤ 600 from nI_le (b := 600) h6 (by decide))]
      obtain ⟨io1, N, pre, hR⟩ := hLd.rd (lenM := lm') hS hK (fun s hs => ⟨(r3 s hs).1, (r3 s hs).2.2⟩)
      exact text_loop F (symX := nI S) hR hF hnb h6 hbits r3 hLd n 0 (j + 10) F F pl sy iX oM (by omega) (by omega) (by omega) (by omega) (fun x hx => by omega)
    · rw [if_neg (show ¬ nI n ≤ 600 from nI_ge (a := 600) (by omega) (by omega)), if_neg (show ¬ nI n ≤ 600 from nI_ge (a := 600) (by omega) (by omega))]
      exact Or.inr ⟨-9, nI j, by decide, ⟨_, _, rfl⟩, ⟨_, _, rfl⟩⟩
