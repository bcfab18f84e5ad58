/-! code, told. -/
theorem stA_all (len : Nat → Nat) : ∀ n, stA len (fun _ => true) n = sm len n
  | 0 => rfl
  | n + 1 => by
    unfold stA sm
    rw [stA_all len n]
    by_cases h : 0 < len n <;> simp [h]
theorem ncA_eq (g : Nat → Nat) : ∀ n, ncA g n = nc g n
  | 0 => rfl
  | n + 1 => by
    unfold ncA nc
    rw [ncA_eq g n]
theorem sim_code : Sim_code FU Inv := by
  intro ci cn ca mi mn ma x hI
  obtain ⟨S, K, T, t, len, nb, no, nk, hC, hM, hT, hLn, hB, hO, hKy, hP⟩ := id hI
  obtain ⟨h1, ⟨h2, h3, h4, h5, h6⟩, h7⟩ := hLn
  have c0 : ci 0 = nI S := hC.2.1.1
  have c69 : cn 69 = S := hC.2.2.2.2.2.2.2.2.1.2.2.1
  have c71 : cn 71 = S := hC.2.2.2.2.2.2.2.2.1.2.2.2.1
  have hS : S ≤ 96 := hC.1.2.1
  have hK : K ≤ 24 := hC.1.2.2.2
  have m0 : mi 0 = nI S := hM.1.1
  have m15 : mn 15 = 96 := hM.2.1.2.1
  have m17 : mn 17 = 96 := hM.2.1.2.2.1
  have ge : gX_code FU ci cn ca x = (fn_X11_isSymbol FU (ci 0) x).bind fun v2 => (if v2 = 0 then some ((-1 : Int32)) else (if ci 67 = 0 then some ((-1 : Int32)) else (if x < 0 ∨ cn 69 ≤ x.toNatClampNeg then none else (if ca 70 x.toNatClampNeg = 0 then some ((-1 : Int32)) else (if x < 0 ∨ cn 71 ≤ x.toNatClampNeg then none else some (ca 72 x.toNatClampNeg)))))) := rfl
  have gm : gM_code FU mi mn ma x = (fn_X12_isSymbol FU (mi 0) x).bind fun v2 => (if v2 = 0 then some ((-1 : Int32)) else (if mi 4 = 0 then some ((-1 : Int32)) else (if x < 0 ∨ mn 15 ≤ x.toNatClampNeg then none else (if ma 16 x.toNatClampNeg ≤ 0 then some ((-1 : Int32)) else (if x < 0 ∨ mn 17 ≤ x.toNatClampNeg then none else some (ma 18 x.toNatClampNeg)))))) := rfl
  rw [c0, c69, c71] at ge
  rw [m0, m15, m17, ← h4] at gm
  rcases pk_ix x (n := S) (by omega) with h | h | ⟨j, hj, rfl⟩
  · rw [isX_out _ (Or.inl h), bs, if_pos rfl] at ge
    rw [isM_out _ (by omega) (Or.inl h), bs, if_pos rfl] at gm
    exact ⟨-1, -1, ge, gm, rfl, hI⟩
  · rw [isX_out _ (Or.inr h), bs, if_pos rfl] at ge
    rw [isM_out _ (by omega) (Or.inr h), bs, if_pos rfl] at gm
    exact ⟨-1, -1, ge, gm, rfl, hI⟩
  rw [isX_in _ (by omega) hj, bs, if_neg (by decide)] at ge
  rw [isM_in _ (by omega) hj, bs, if_neg (by decide)] at gm
  rcases h5 with hl | hl
  · rw [if_pos hl] at ge gm
    exact ⟨-1, -1, ge, gm, rfl, hI⟩
  · have hl0 : ¬ ci 67 = 0 := by rw [hl]; decide
    obtain ⟨hj1, hj2, hj3⟩ := h1 j hj
    rw [if_neg hl0, if_neg (nI_in hj (by omega)), nI_clamp (by omega), hj2] at ge
    rw [if_neg hl0, if_neg (nI_in (by omega) (by omega)), nI_clamp (by omega), hj3] at gm
    by_cases e : len j = 0
    · rw [if_pos (by rw [e]; rfl)] at ge
      rw [if_pos ((le0 (by omega)).mpr e)] at gm
      exact ⟨-1, -1, ge, gm, rfl, hI⟩
    · rw [if_neg (show ¬ nI (len j) = 0 from fun z => e ((nI_eq (b := 0) (by omega) (by decide)).mp z)), if_neg (gin hj (by omega))] at ge
      rw [if_neg (fun z => e ((le0 (by omega)).mp z)), if_neg (gin (by omega) (by omega))] at gm
      obtain ⟨io, -, -, -, -, hc, -⟩ := h7 hl
      obtain ⟨-, q1, q2⟩ := hc j hj (Nat.pos_of_ne_zero e)
      exact ⟨_, _, ge, gm, by rw [q1, q2], hI⟩
theorem told_loop (F : Nat) (y1 y3 y4 y5 y6 : Int32) (n15 : Nat) (w16 : Nat → Int32) {S T n : Nat} {t : Nat → Nat} {w : Nat → Int32} (hS : S < 2 ^ 31) (hT : T ≤ n) (hn : n < 2 ^ 31) (hF : T < F) (hw : ∀ k, k < T → t k < 2 ^ 31 ∧ w k = nI (t k)) : ∀ (d i k : Nat), i + d = S → d < k → lf_X12_told_75 F (nI S) y1 (nI T) y3 y4 y5 y6 n w n15 w16 k (nI (nc (cnt t T) i)) (nI i) = some (nI (nc (cnt t T) S)) := by
  intro d
  induction d with
  | zero =>
    intro i k hi hk
    obtain ⟨k, rfl⟩ : ∃ q, k = q + 1 := ⟨k - 1, by omega⟩
    show bf_X12_told_75 F (nI S) y1 (nI T) y3 y4 y5 y6 n w n15 w16 (fun a b => lf_X12_told_75 F (nI S) y1 (nI T) y3 y4 y5 y6 n w n15 w16 k a b) (nI (nc (cnt t T) i)) (nI i) = _
    unfold bf_X12_told_75
    rw [if_pos (nI_le (by omega) (by omega)), show i = S by omega]
  | succ d ih =>
    intro i k hi hk
    obtain ⟨k, rfl⟩ : ∃ q, k = q + 1 := ⟨k - 1, by omega⟩
    show bf_X12_told_75 F (nI S) y1 (nI T) y3 y4 y5 y6 n w n15 w16 (fun a b => lf_X12_told_75 F (nI S) y1 (nI T) y3 y4 y5 y6 n w n15 w16 k a b) (nI (nc (cnt t T) i)) (nI i) = _
    unfold bf_X12_told_75
    have hle := cnt_le t i T
    rw [if_neg (nI_ge (by omega) (by omega)), countOf_eq (t := t) hT hn (by omega) hF hw, bs, show nI i + (1 : Int32) = nI (i + 1) from nI_add i 1]
    have hh := ih (i + 1) k (by omega) (by omega)
    by_cases e : cnt t T i = 0
    · rw [if_pos ((le0 (by omega)).mpr e), show nI (nc (cnt t T) i) + (0 : Int32) = nI (nc (cnt t T) i) from nI_add _ 0]
      rw [show nc (cnt t T) (i + 1) = nc (cnt t T) i by simp [nc, e]] at hh
      exact hh
    · rw [if_neg (fun z => e ((le0 (by omega)).mp z)), show nI (nc (cnt t T) i) + (1 : Int32) = nI (nc (cnt t T) i + 1) from nI_add _ 1]
      rw [show nc (cnt t T) (i + 1) = nc (cnt t T) i + 1 by simp [nc, Nat.pos_of_ne_zero e]] at hh
      exact hh
theorem sim_told : Sim_told FU Inv := by
  intro ci cn ca mi mn ma x hI
  obtain ⟨S, K, T, t, len, nb, no, nk, hC, hM, hT, hLn, hB, hO, hKy, hP⟩ := id hI
  obtain ⟨h1, ⟨h2, h3, h4, h5, h6⟩, h7⟩ := hLn
  obtain ⟨⟨t1, t2, t3⟩, t4, t5⟩ := hT
  have c0 : ci 0 = nI S := hC.2.1.1
  have c1 : ci 1 = nI K := hC.2.1.2
  have c5 : cn 5 = S := hC.2.2.1.2
  have c63 : ci 63 = nI S := hC.2.2.2.2.2.2.2.2.1.1
  have c69 : cn 69 = S := hC.2.2.2.2.2.2.2.2.1.2.2.1
  have hS : S ≤ 96 := hC.1.2.1
  have hK : K ≤ 24 := hC.1.2.2.2
  have m0 : mi 0 = nI S := hM.1.1
  have m1 : mi 1 = nI K := hM.1.2
  have m13 : mn 13 = 600 := hM.2.1.1
  have m15 : mn 15 = 96 := hM.2.1.2.1
  have ge : gX_told FU ci cn ca x = fn_X11_told FU (ci 0) (ci 1) (ci 2) (cn 5) (ca 6) (ci 63) (ci 66) (ci 67) (ci 68) (cn 69) (ca 70) (ci 88) (ci 97) x := rfl
  have gm : gM_told FU mi mn ma x = fn_X12_told FU (mi 0) (mi 1) (mi 2) (mi 3) (mi 4) (mi 5) (mi 6) (mn 13) (ma 14) (mn 15) (ma 16) x := rfl
  unfold fn_X11_told bf_X11_told_0 at ge
  unfold fn_X12_told bf_X12_told_0 at gm
  have fin : ∀ v w : Int32, gX_told FU ci cn ca x = some v → gM_told FU mi mn ma x = some w → v = w → ∃ (r r' : Int32), gX_told FU ci cn ca x = some r ∧ gM_told FU mi mn ma x = some r' ∧ r = r' ∧ Inv (uXi_told r ci) (uXn_told r cn) (uXa_told r ca) (uMi_told r' mi) (uMn_told r' mn) (uMa_told r' ma) := fun v w a b c => ⟨v, w, a, b, c, hI⟩
  by_cases x0 : x = 0
  · rw [if_pos x0] at ge gm; exact fin _ _ ge gm (by rw [c0, m0])
  rw [if_neg x0] at ge gm
  by_cases x1 : x = 1
  · rw [if_pos x1] at ge gm; exact fin _ _ ge gm (by rw [c1, m1])
  rw [if_neg x1] at ge gm
  by_cases x2 : x = 2
  · rw [if_pos x2] at ge gm; exact fin _ _ ge gm (by rw [t2, t3])
  rw [if_neg x2] at ge gm
  by_cases x3 : x = 3
  · rw [if_pos x3] at ge gm
    rw [c0, c5, usedNumber_eq (g := cnt t T) (Nat.le_refl S) (by omega) (by unfold FU; omega) (fun s hs => ⟨by have := cnt_le t s T; omega, t5 s hs⟩), bs] at ge
    rw [m0, t3, m13] at gm
    have q := told_loop FU (mi 1) (mi 3) (mi 4) (mi 5) (mi 6) (mn 15) (ma 16) (S := S) (T := T) (n := 600) (t := t) (w := ma 14) (by omega) t1 (by decide) (by unfold FU; omega) (fun k hk => ⟨by have := (t4 k hk).1; omega, (t4 k hk).2.2⟩) S 0 FU (by omega) (by unfold FU; omega)
    exact fin _ _ ge (gm.trans q) rfl
  rw [if_neg x3] at ge gm
  by_cases x4 : x = 4
  · rw [if_pos x4] at ge gm; exact fin _ _ ge gm (by rw [hB.1.2.1, hB.1.2.2])
  rw [if_neg x4] at ge gm
  by_cases x5 : x = 5
  · rw [if_pos x5] at ge gm; exact fin _ _ ge gm (by rw [hO.1.2.1, hO.1.2.2])
  rw [if_neg x5] at ge gm
  by_cases x6 : x = 6
  · rw [if_pos x6] at ge gm
    rw [c63, c69, codeNumber_eq (g := len) (Nat.le_refl S) (by omega) (by unfold FU; omega) (fun s hs => ⟨by have := (h1 s hs).1; omega, (h1 s hs).2.1⟩), bs] at ge
    rw [m0, m15, codesThere_eq (g := len) (n := 96) hS (by omega) (by unfold FU; omega) (fun s hs => ⟨by have := (h1 s hs).1; omega, (h1 s hs).2.2⟩), bs] at gm
    exact fin _ _ ge gm rfl
  rw [if_neg x6] at ge gm
  by_cases x7 : x = 7
  · rw [if_pos x7] at ge gm
    rw [← h4] at gm
    rcases h5 with e | e
    · rw [if_pos e] at ge gm; exact fin _ _ ge gm rfl
    · rw [if_neg (by rw [e]; decide)] at ge gm; exact fin _ _ ge gm rfl
  rw [if_neg x7] at ge gm
  by_cases x8 : x = 8
  · rw [if_pos x8] at ge gm
    rw [← h4] at gm
    rcases h5 with e | e
    · rw [if_pos e] at ge gm; exact fin _ _ ge gm rfl
    · rw [if_neg (by rw [e]; decide)] at ge gm
      obtain ⟨io, -, -, l3, l4, -, -⟩ := h7 e
      rw [stA_all] at l3 l4
      obtain ⟨y, y1, y2, y3, -⟩ := sumOf_eq (F := FU) (S := S) (n := 96) (len := len) (w := ma 16) hS hS (by omega) (by unfold FU; omega) (fun s hs => ⟨by have := (h1 s hs).1; omega, (h1 s hs).2.2⟩)
      rw [m0, m15, y1, bs, y3 l3] at gm
      rw [l4] at ge
      by_cases f : sm len S = 16777216
      · rw [f] at gm ge
        rw [if_pos (show nI 16777216 = (16777216 : Int32) from rfl)] at gm
        exact fin _ _ ge gm rfl
      · rw [if_neg (show ¬ nI (sm len S) = (16777216 : Int32) from fun z => f ((nI_eq (b := 16777216) (by omega) (by decide)).mp z))] at gm
        rw [decide_eq_false f] at ge
        exact fin _ _ ge gm rfl
  rw [if_neg x8] at ge gm
  by_cases x9 : x = 9
  · rw [if_pos x9] at ge gm
    rw [← h2] at gm
    rcases h3 with e | e
    · rw [if_pos e] at ge gm; exact fin _ _ ge gm rfl
    · rw [if_neg (by rw [e]; decide)] at ge gm; exact fin _ _ ge gm rfl
  rw [if_neg x9] at ge gm
  exact fin _ _ ge gm rfl
