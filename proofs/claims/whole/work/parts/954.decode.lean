/-! decode. -/
theorem readOne (F : Nat) {io : Bool} {S K N nb i : Nat} {len : Nat → Nat} {pre : Nat → Nat × Nat} {below lenM codesM bits words : Nat → Int32} (pl sy : Int32) (h : Rd io S K len N pre below lenM codesM) (hF : 10000 < F) (hnb : nb ≤ 6000) (hi : i ≤ nb) (hbits : ∀ i, i < nb → bits i = b01 (wbit words i)) :
    RdOut S nb i pl sy (fn_X8_readSymbol F (nI nb) 188 words (2 * (S + K)) below (nI i) pl) (fn_X12_readCode F (nI S) (nI nb) 96 lenM 96 codesM 6000 bits pl (nI i) sy) := by
  have r := read_loop F (pl := pl) (sy := sy) (c := nI i) h (by omega) hnb hbits (nb - i) i F F 0 (by omega) (by omega) (by omega) (by have := h.1.2.2.1; omega)
  rw [h.2.2.2.1] at r
  exact r
theorem addRow_eq (F : Nat) {o : Nat} (w : Nat → Int32) (x : Int32) (h : o < 600) : fn_X9_add F 600 (nI o) w x = some (nI (o + 1), upd w o x) := by
  unfold fn_X9_add bf_X9_add_0
  rw [if_neg (show ¬ (600 : Int32) ≤ nI o from nI_ge (b := 600) h (by decide)), if_neg (nI_in (by omega) (by decide)), nI_clamp (by omega), show nI o + (1 : Int32) = nI (o + 1) from nI_add o 1]
theorem decode_loop (F : Nat) {io : Bool} {S K N nb : Nat} {ld : Int32} {len : Nat → Nat} {pre : Nat → Nat × Nat} {below lenM codesM bits words : Nat → Int32} (h : Rd io S K len N pre below lenM codesM) (hF : 10000 < F) (hnb : nb ≤ 6000) (hbits : ∀ i, i < nb → bits i = b01 (wbit words i)) : ∀ (e o i k k' : Nat) (pl sy : Int32) (oX oM : Nat → Int32), o ≤ 600 → i ≤ nb → o + e = 601 → e < k → e < k' → (∀ j, j < o → oX j = oM j) →
    ∃ (a pl' a1 a2 a3 : Int32) (o' : Nat) (oX' oM' : Nat → Int32), lf_X8_readAll_13 F (nI nb) 188 words (2 * (S + K)) below 600 k (nI o) (nI i) pl (nI o) oX = some (a, a1, pl', nI o', oX') ∧ lf_X12_decode_19 F (nI S) ld (nI nb) 96 lenM 96 codesM 6000 bits 600 k' (nI o) pl (nI i) sy oM = some (a, nI o', pl', a2, a3, oM') ∧ o' ≤ 600 ∧ ∀ j, j < o' → oX' j = oM' j := by
  intro e
  induction e with
  | zero => intro o i k k' pl sy oX oM ho hi he; omega
  | succ e ih =>
    intro o i k k' pl sy oX oM ho hi he hk hk' ha
    obtain ⟨k, rfl⟩ : ∃ q, k = q + 1 := ⟨k - 1, by omega⟩
    obtain ⟨k', rfl⟩ : ∃ q, k' = q + 1 := ⟨k' - 1, by omega⟩
    have ux : lf_X8_readAll_13 F (nI nb) 188 words (2 * (S + K)) below 600 (k + 1) (nI o) (nI i) pl (nI o) oX = bf_X8_readAll_13 F (nI nb) 188 words (2 * (S + K)) below 600 (fun a b c d f => lf_X8_readAll_13 F (nI nb) 188 words (2 * (S + K)) below 600 k a b c d f) (nI o) (nI i) pl (nI o) oX := rfl
    have um : lf_X12_decode_19 F (nI S) ld (nI nb) 96 lenM 96 codesM 6000 bits 600 (k' + 1) (nI o) pl (nI i) sy oM = bf_X12_decode_19 F (nI S) ld (nI nb) 96 lenM 96 codesM 6000 bits 600 (fun a b c d f => lf_X12_decode_19 F (nI S) ld (nI nb) 96 lenM 96 codesM 6000 bits 600 k' a b c d f) (nI o) pl (nI i) sy oM := rfl
    rw [ux, um]
    unfold bf_X8_readAll_13 bf_X12_decode_19
    rw [if_neg (show ¬ (600 : Int32) < nI o from nI_nlt (a := 600) ho (by decide))]
    by_cases hd : nb ≤ i
    · rw [if_pos (nI_le hd (by omega)), if_pos (nI_le hd (by omega))]
      exact ⟨_, _, _, _, _, o, oX, oM, rfl, rfl, ho, ha⟩
    rw [if_neg (nI_ge (by omega) (by omega)), if_neg (nI_ge (by omega) (by omega))]
    rcases readOne F pl sy h hF hnb hi hbits with ⟨s, j, s1, s2, s3, s4, s5⟩ | ⟨j, a, ⟨c, s4⟩, s5⟩ | ⟨j, a, ⟨c, s4⟩, s5⟩
    · have hS := h.1.1
      rw [s4, bs, s5, bs, if_pos (nI_pos' (by omega)), if_pos (show (0 : Int32) ≤ 0 by decide)]
      by_cases h6 : o = 600
      · subst h6
        rw [if_neg (by decide), if_pos (show nI 600 = 600 from rfl)]
        exact ⟨-4, nI i, nI j, _, _, 600, oX, oM, rfl, rfl, ho, ha⟩
      · rw [if_pos (show nI o < (600 : Int32) from nI_lt (b := 600) (by omega) (by decide)), if_neg (show ¬ nI o = 600 from fun z => h6 ((nI_eq (b := 600) (by omega) (by decide)).mp z)), addRow_eq F oX (nI s) (by omega), bs, if_neg (nI_in (by omega) (by decide)), nI_clamp (by omega), show nI o + (1 : Int32) = nI (o + 1) from nI_add o 1]
        exact ih (o + 1) j k k' pl (nI s) (upd oX o (nI s)) (upd oM o (nI s)) (by omega) s3 (by omega) (by omega) (by omega) (fun x hx => by
          by_cases q : x = o
          · subst q; rw [pk_us, pk_us]
          · rw [pk_un q, pk_un q]; exact ha x (by omega))
    · rw [s4, bs, s5, bs, if_neg (show ¬ (0 : Int32) ≤ -3 by decide), if_neg (show ¬ (3 : Int32) ≤ 0 by decide)]
      exact ⟨-3, j, _, _, _, o, oX, oM, rfl, rfl, ho, ha⟩
    · rw [s4, bs, s5, bs, if_neg (show ¬ (0 : Int32) ≤ -2 by decide), if_neg (show ¬ (2 : Int32) ≤ 0 by decide)]
      exact ⟨-2, j, _, _, _, o, oX, oM, rfl, rfl, ho, ha⟩
/-- a loaded table can be read -/
theorem Ld.rd {S K : Nat} {len : Nat → Nat} {inOrder nodes full : Int32} {codesX below codesM lenM : Nat → Int32} (h : Ld S K len inOrder nodes full codesX below codesM) (hS : S ≤ 96) (hK : K ≤ 24) (hl : ∀ s, s < S → len s ≤ K ∧ lenM s = nI (len s)) : ∃ (io : Bool) (N : Nat) (pre : Nat → Nat × Nat), Rd io S K len N pre below lenM codesM := by
  obtain ⟨io, l1, l2, l3, l4, l5, N, pre, l6, l7, l8, l9⟩ := h
  refine ⟨io, N, pre, ⟨hS, hK, l7, l8.1, l2⟩, fun s hs => ⟨by have := (hl s hs).1; omega, (hl s hs).2⟩, fun s hs hp => ⟨?_, (l5 s hs hp).2.2⟩, l9⟩
  exact Nat.le_trans (Nat.div_le_self _ _) (Nat.le_trans (stA_mono (fun _ _ => rfl) S) l3)
theorem sim_decode : Sim_decode FU Inv := by
  intro ci cn ca mi mn ma hI
  obtain ⟨S, K, T, t, len, nb, no, nk, hC, hM, hT, hLn, hB, hO, hKy, hP⟩ := id hI
  obtain ⟨h1, ⟨h2, h3, h4, h5, h6⟩, h7⟩ := id hLn
  obtain ⟨⟨b1, b2, b3⟩, b4⟩ := id hB
  have c73 : cn 73 = 2 * (S + K) := hC.2.2.2.2.2.2.2.2.1.2.2.2.2
  have c90 : cn 90 = 188 := hC.2.2.2.2.2.2.2.2.2.2.1.2.1
  have c98 : cn 98 = 600 := hC.2.2.2.2.2.2.2.2.2.2.2.1
  have hS : S ≤ 96 := hC.1.2.1
  have hK : K ≤ 24 := hC.1.2.2.2
  have m0 : mi 0 = nI S := hM.1.1
  have m15 : mn 15 = 96 := hM.2.1.2.1
  have m17 : mn 17 = 96 := hM.2.1.2.2.1
  have m19 : mn 19 = 6000 := hM.2.1.2.2.2.1
  have m21 : mn 21 = 600 := hM.2.1.2.2.2.2
  have ge := @rfl _ (gX_decode FU ci cn ca)
  have gm := @rfl _ (gM_decode FU mi mn ma)
  conv at ge => rhs; unfold gX_decode fn_X11_decode bf_X11_decode_0
  conv at gm => rhs; unfold gM_decode fn_X12_decode bf_X12_decode_0
  rw [← h4] at gm
  rcases h5 with hl | hl
  · rw [if_pos hl] at ge gm
    exact ⟨_, _, ge, gm, rfl, S, K, T, t, len, nb, no, nk, hC, hM, hT, hLn, hB, hO, hKy, hP⟩
  have hl0 : ¬ ci 67 = 0 := by rw [hl]; decide
  obtain ⟨io, N, pre, hR⟩ := (h7 hl).rd (lenM := ma 16) hS hK (fun s hs => ⟨(h1 s hs).1, (h1 s hs).2.2⟩)
  obtain ⟨a, pl', a1, a2, a3, o', oX', oM', r1, r2, r3, r4⟩ := decode_loop FU (nb := nb) (ld := ci 67) (bits := ma 20) (words := ca 91) hR (by unfold FU; omega) b1 b4 601 0 0 FU FU (mi 7) (mi 10) (ca 99) (ma 22) (by omega) (by omega) (by omega) (by unfold FU; omega) (by unfold FU; omega) (fun j hj => by omega)
  rw [if_neg hl0, c73, b2, c90, c98, hP, show fn_X8_readAll FU (nI nb) 188 (ca 91) (2 * (S + K)) (ca 74) 600 (ci 52) (mi 7) (ci 97) (ca 99) = _ from r1, bs] at ge
  rw [if_neg hl0, m0, b3, m15, m17, m19, m21, show lf_X12_decode_19 FU (nI S) (ci 67) (nI nb) 96 (ma 16) 96 (ma 18) 6000 (ma 20) 600 FU 0 (mi 7) 0 (mi 10) (ma 22) = _ from r2] at gm
  exact ⟨_, _, ge, gm, rfl, S, K, T, t, len, nb, o', nk, hC, hM, hT, hLn, hB, ⟨⟨r3, rfl, rfl⟩, r4⟩, hKy, rfl⟩
