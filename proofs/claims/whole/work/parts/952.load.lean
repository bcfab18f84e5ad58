/-! load. -/
theorem sim_load : Sim_load FU Inv := by
  intro ci cn ca mi mn ma hI
  obtain ⟨S, K, T, t, len, nb, no, nk, hC, hM, hT, hLn, hB, hO, hKy, hP⟩ := id hI
  obtain ⟨h1, ⟨h2, h3, h4, h5, h6⟩, h7⟩ := id hLn
  have c63 : ci 63 = nI S := hC.2.2.2.2.2.2.2.2.1.1
  have c64 : ci 64 = nI K := hC.2.2.2.2.2.2.2.2.1.2.1
  have c69 : cn 69 = S := hC.2.2.2.2.2.2.2.2.1.2.2.1
  have c71 : cn 71 = S := hC.2.2.2.2.2.2.2.2.1.2.2.2.1
  have c73 : cn 73 = 2 * (S + K) := hC.2.2.2.2.2.2.2.2.1.2.2.2.2
  have hS2 : 2 ≤ S := hC.1.1
  have hS : S ≤ 96 := hC.1.2.1
  have hK : K ≤ 24 := hC.1.2.2.2
  have m0 : mi 0 = nI S := hM.1.1
  have m15 : mn 15 = 96 := hM.2.1.2.1
  have m17 : mn 17 = 96 := hM.2.1.2.2.1
  have hw : ∀ s, s < S → len s ≤ 24 ∧ ma 16 s = nI (len s) := fun s hs => ⟨by have := (h1 s hs).1; omega, (h1 s hs).2.2⟩
  have hwx : ∀ s, s < S → len s ≤ 24 ∧ ca 70 s = nI (len s) := fun s hs => ⟨by have := (h1 s hs).1; omega, (h1 s hs).2.1⟩
  have hncl := nc_le len S
  have ge := @rfl _ (gX_load FU ci cn ca)
  have gm := @rfl _ (gM_load FU mi mn ma)
  conv at ge => rhs; unfold gX_load fn_X11_load bf_X11_load_0
  conv at gm => rhs; unfold gM_load fn_X12_load bf_X12_load_0
  rw [c63, c69, codeNumber_eq (F := FU) (S := S) (n := S) (g := len) (Nat.le_refl _) (by omega) (by unfold FU; omega) (fun s hs => ⟨by have := (hwx s hs).1; omega, (hwx s hs).2⟩), bs] at ge
  rw [m0, m15, m17, ← h2, codesThere_eq (F := FU) (S := S) (n := 96) (g := len) hS (by decide) (by unfold FU; omega) (fun s hs => ⟨by have := (hw s hs).1; omega, (hw s hs).2⟩), bs] at gm
  -- where the table stays as it is, it was not loaded
  have stay : ¬ (0 < ncA len S ∧ stA len (fun _ => true) S ≤ 16777216) → ci 67 = 0 := fun z => by
    rcases h5 with q | q
    · exact q
    · obtain ⟨_, _, l2, l3, _⟩ := h7 q
      exact absurd ⟨l2, l3⟩ z
  by_cases hz : nc len S = 0
  · have l0 := stay (fun z => by rw [ncA_eq] at z; omega)
    rw [if_pos (by rw [hz]; rfl)] at ge gm
    refine ⟨_, _, ge, gm, rfl, S, K, T, t, len, nb, no, nk, hC, hM, hT, ⟨h1, ⟨h2, h3, ?_, Or.inl l0, h6⟩, ?_⟩, hB, hO, hKy, hP⟩
    · show ci 67 = 0
      exact l0
    · intro z
      have z2 : ci 67 = 1 := z
      rw [l0] at z2
      exact absurd z2 (by decide)
  have hz0 : ¬ nI (nc len S) = 0 := fun z => hz ((nI_e0 (by omega)).mp z)
  have hb := sm_le len S
  rw [if_neg hz0, sum_eq (F := FU) (S := S) (n := S) (len := len) (Nat.le_refl _) hS (by omega) (by unfold FU; omega) hwx, bs] at ge
  rw [if_neg hz0] at gm
  by_cases hs : 16777216 < sm len S
  · have l0 := stay (fun z => by rw [stA_all] at z; omega)
    rw [if_neg (show ¬ nI (sm len S) ≤ 16777216 from nI_ge (a := 16777216) hs (by omega))] at ge
    rw [make_no FU (io := ci 66) (len := len) (ma 18) hS (by unfold FU; omega) hw (Or.inr (by rw [stA_all]; exact hs)), bs, if_neg (fun z => z (Or.inl rfl)), if_pos rfl] at gm
    refine ⟨_, _, ge, gm, rfl, S, K, T, t, len, nb, no, nk, hC, hM, hT, ⟨h1, ⟨h2, h3, ?_, Or.inl l0, h6⟩, ?_⟩, hB, hO, hKy, hP⟩
    · show ci 67 = 0
      exact l0
    · intro z
      have z2 : ci 67 = 1 := z
      rw [l0] at z2
      exact absurd z2 (by decide)
  · have hsum : stA len (fun _ => true) S ≤ 16777216 := by rw [stA_all]; omega
    have hnc : 0 < ncA len S := by rw [ncA_eq]; omega
    obtain ⟨io, hio, hdv⟩ : ∃ io : Bool, ci 66 = b01 io ∧ ∀ s, s < S → 0 < len s → 2 ^ (24 - len s) ∣ stO io S len s := by
      rcases h3 with q | q
      · exact ⟨false, q, fun s hs _ => even_canon (fun s hs => (hw s hs).1) hs⟩
      · obtain ⟨io, l1, _, _, _, l5, _⟩ := h7 (h6 q)
        exact ⟨io, l1, fun s hs hl => (l5 s hs hl).1⟩
    obtain ⟨nodes, full, codes', below', r1, r2⟩ := forge_eq FU (io := io) (S := S) (K := K) (len := len) (w := ca 70) (ci 65) (ci 67) (ci 68) (ca 72) (ca 74) (by omega) hS hK (by unfold FU; omega) (fun s hs => ⟨(h1 s hs).1, (h1 s hs).2.1⟩) hnc hsum hdv
    obtain ⟨f, cm, u1, u2, u3⟩ := make_eq FU (io := io) (S := S) (len := len) (w := ma 16) (ma 18) hS (by unfold FU; omega) hw hnc hsum
    obtain rfl : f = true := u2.mpr hdv
    rw [if_pos (show nI (sm len S) ≤ 16777216 from nI_le (b := 16777216) (by omega) (by decide)), c64, c71, c73, hio, r1, bs] at ge
    rw [hio, u1, bs, if_neg (fun z => z (Or.inr rfl)), if_neg (show ¬ b01 true = 0 by decide)] at gm
    refine ⟨_, _, ge, gm, rfl, S, K, T, t, len, nb, no, nk, hC, hM, hT, ⟨h1, ⟨h2, h3, rfl, Or.inr rfl, fun _ => rfl⟩, fun _ => ?_⟩, hB, hO, hKy, hP⟩
    show Ld S K len (ci 66) nodes full codes' below' cm
    rw [hio]
    exact r2 cm u3
