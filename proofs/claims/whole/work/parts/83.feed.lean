/-! feed, poke. -/
theorem takeIn_eq (F : Nat) {T S j : Nat} {w c : Nat → Int32} (hT : T < 600) (hS : S < 2 ^ 31) (hj : j < S) : fn_X11_takeIn F 600 S (nI T) w c (nI j) = some (nI (T + 1), upd w T (nI j), upd c j (c j + 1)) := by
  unfold fn_X11_takeIn bf_X11_takeIn_0 fn_X9_add bf_X9_add_0
  rw [if_neg (show ¬ (600 : Int32) ≤ nI T from nI_ge (a := T) (b := 600) hT (by decide)), if_neg (nI_in (by omega) (by decide)), nI_clamp (by omega), bs, if_neg (nI_in hj hS), if_neg (nI_in hj hS), nI_clamp (by omega), show nI T + (1 : Int32) = nI (T + 1) from nI_add T 1]
def tadd (t : Nat → Nat) (T j : Nat) : Nat → Nat := fun k => if k = T then j else t k
theorem IvT_add {S T j : Nat} {t : Nat → Nat} {w c u : Nat → Int32} (h4 : ∀ k, k < T → t k < S ∧ w k = nI (t k) ∧ u k = nI (t k)) (h5 : ∀ s, s < S → c s = nI (cnt t T s)) (hj : j < S) :
    (∀ k, k < T + 1 → tadd t T j k < S ∧ upd w T (nI j) k = nI (tadd t T j k) ∧ upd u T (nI j) k = nI (tadd t T j k)) ∧ (∀ s, s < S → upd c j (c j + 1) s = nI (cnt (tadd t T j) (T + 1) s)) := by
  refine ⟨fun k hk => ?_, fun s hs => ?_⟩
  · by_cases e : k = T
    · subst e
      rw [pk_us, pk_us, show tadd t k j k = j by simp [tadd]]
      exact ⟨hj, rfl, rfl⟩
    · rw [pk_un e, pk_un e, show tadd t T j k = t k by simp [tadd, e]]
      exact h4 k (by omega)
  · have e1 : cnt (tadd t T j) (T + 1) s = cnt t T s + (if j = s then 1 else 0) := by
      show cnt (tadd t T j) T s + (if tadd t T j T = s then 1 else 0) = _
      rw [cnt_congr (t := tadd t T j) (t' := t) T (fun k hk => by simp [tadd, Nat.ne_of_lt hk]), show tadd t T j T = j by simp [tadd]]
    rw [e1]
    by_cases e : s = j
    · subst e
      rw [pk_us, if_pos rfl, h5 s hs]
      exact nI_add _ 1
    · rw [pk_un e, if_neg (fun z => e z.symm), h5 s hs, Nat.add_zero]
theorem sim_feed : Sim_feed FU Inv := by
  intro ci cn ca mi mn ma x hI
  obtain ⟨S, K, T, t, len, nb, no, nk, hC, hM, hT, hLn, hB, hO, hKy, hP⟩ := id hI
  obtain ⟨⟨h1, h2, h3⟩, h4, h5⟩ := id hT
  have c0 : ci 0 = nI S := hC.2.1.1
  have c3 : cn 3 = 600 := hC.2.2.1.1
  have c5 : cn 5 = S := hC.2.2.1.2
  have hS : S ≤ 96 := hC.1.2.1
  have m0 : mi 0 = nI S := hM.1.1
  have m13 : mn 13 = 600 := hM.2.1.1
  have ge : gX_feed FU ci cn ca x = (fn_X11_isSymbol FU (ci 0) x).bind fun v2 => (if v2 = 0 then some ((-1 : Int32), ci 2, ca 4, ca 6) else (if ci 2 < (600 : Int32) then ((fn_X11_takeIn FU (cn 3) (cn 5) (ci 2) (ca 4) (ca 6) x).bind fun v28 => some (v28.1, v28.1, v28.2.1, v28.2.2)) else some ((-2 : Int32), ci 2, ca 4, ca 6))) := rfl
  have gm : gM_feed FU mi mn ma x = (fn_X12_isSymbol FU (mi 0) x).bind fun v2 => (if v2 = 0 then some ((-1 : Int32), mi 2, ma 14) else (if mi 2 = (600 : Int32) then some ((-2 : Int32), mi 2, ma 14) else (if mi 2 < 0 ∨ mn 13 ≤ (mi 2).toNatClampNeg then none else some (mi 2 + (1 : Int32), mi 2 + (1 : Int32), upd (ma 14) (mi 2).toNatClampNeg x)))) := rfl
  rw [c0] at ge
  rw [m0] at gm
  rcases pk_ix x (n := S) (by omega) with h | h | ⟨j, hj, rfl⟩
  · rw [isX_out _ (Or.inl h), bs, if_pos rfl] at ge
    rw [isM_out _ (by omega) (Or.inl h), bs, if_pos rfl] at gm
    exact ⟨_, _, ge, gm, rfl, ⟨S, K, T, t, len, nb, no, nk, hC, hM, hT, hLn, hB, hO, hKy, hP⟩⟩
  · rw [isX_out _ (Or.inr h), bs, if_pos rfl] at ge
    rw [isM_out _ (by omega) (Or.inr h), bs, if_pos rfl] at gm
    exact ⟨_, _, ge, gm, rfl, ⟨S, K, T, t, len, nb, no, nk, hC, hM, hT, hLn, hB, hO, hKy, hP⟩⟩
  rw [isX_in _ (by omega) hj, bs, if_neg (by decide)] at ge
  rw [isM_in _ (by omega) hj, bs, if_neg (by decide)] at gm
  by_cases hT6 : T < 600
  · rw [if_pos (by rw [h2]; exact nI_lt (b := 600) hT6 (by decide)), h2, c3, c5, takeIn_eq FU hT6 (by omega) hj, bs] at ge
    rw [if_neg (by rw [h3]; exact fun z => absurd ((nI_eq (b := 600) (by omega) (by decide)).mp z) (by omega)), h3, m13, if_neg (nI_in hT6 (by decide)), nI_clamp (by omega), show nI T + (1 : Int32) = nI (T + 1) from nI_add T 1] at gm
    obtain ⟨k4, k5⟩ := IvT_add h4 h5 hj
    exact ⟨_, _, ge, gm, rfl, ⟨S, K, T + 1, tadd t T j, len, nb, no, nk, hC, hM, ⟨⟨by omega, rfl, rfl⟩, k4, k5⟩, hLn, hB, hO, hKy, hP⟩⟩
  · have hT6 : T = 600 := by omega
    rw [if_neg (by rw [h2]; exact nI_nlt (b := 600) (by omega) (by omega))] at ge
    rw [if_pos (by rw [h3, hT6]; rfl)] at gm
    exact ⟨_, _, ge, gm, rfl, ⟨S, K, T, t, len, nb, no, nk, hC, hM, hT, hLn, hB, hO, hKy, hP⟩⟩
theorem sim_poke : Sim_poke FU Inv := by
  intro ci cn ca mi mn ma x y hI
  obtain ⟨S, K, T, t, len, nb, no, nk, hC, hM, hT, hLn, hB, hO, hKy, hP⟩ := id hI
  obtain ⟨h1, ⟨h2, h3, h4, h5, h6⟩, h7⟩ := id hLn
  have c0 : ci 0 = nI S := hC.2.1.1
  have c1 : ci 1 = nI K := hC.2.1.2
  have c69 : cn 69 = S := hC.2.2.2.2.2.2.2.2.1.2.2.1
  have hS : S ≤ 96 := hC.1.2.1
  have hK : K ≤ 24 := hC.1.2.2.2
  have m0 : mi 0 = nI S := hM.1.1
  have m1 : mi 1 = nI K := hM.1.2
  have m15 : mn 15 = 96 := hM.2.1.2.1
  have ge : gX_poke FU ci cn ca x y = (fn_X11_isSymbol FU (ci 0) x).bind fun v2 => (if v2 = 0 then some ((-1 : Int32), ci 66, ci 67, ca 70) else (if y < 0 then some ((-1 : Int32), ci 66, ci 67, ca 70) else (if y ≤ ci 1 then (if x < 0 ∨ cn 69 ≤ x.toNatClampNeg then none else (if x < 0 ∨ cn 69 ≤ x.toNatClampNeg then none else some (ca 70 x.toNatClampNeg, (0 : Int32), (0 : Int32), upd (ca 70) x.toNatClampNeg y))) else some ((-1 : Int32), ci 66, ci 67, ca 70)))) := rfl
  have gm : gM_poke FU mi mn ma x y = (fn_X12_isSymbol FU (mi 0) x).bind fun v2 => (if v2 = 0 then some ((-1 : Int32), mi 3, mi 4, ma 16) else ((fn_X12_within FU y (0 : Int32) (mi 1)).bind fun v14 => (if v14 = 0 then some ((-1 : Int32), mi 3, mi 4, ma 16) else (if x < 0 ∨ mn 15 ≤ x.toNatClampNeg then none else (if x < 0 ∨ mn 15 ≤ x.toNatClampNeg then none else some (ma 16 x.toNatClampNeg, (0 : Int32), (0 : Int32), upd (ma 16) x.toNatClampNeg y)))))) := rfl
  have gw : fn_X12_within FU y 0 (mi 1) = (if y < 0 then some (0 : Int32) else (if mi 1 < y then some (0 : Int32) else some (1 : Int32))) := rfl
  rw [c0] at ge
  rw [m0] at gm
  rcases pk_ix x (n := S) (by omega) with h | h | ⟨j, hj, rfl⟩
  · rw [isX_out _ (Or.inl h), bs, if_pos rfl] at ge
    rw [isM_out _ (by omega) (Or.inl h), bs, if_pos rfl] at gm
    exact ⟨_, _, ge, gm, rfl, ⟨S, K, T, t, len, nb, no, nk, hC, hM, hT, hLn, hB, hO, hKy, hP⟩⟩
  · rw [isX_out _ (Or.inr h), bs, if_pos rfl] at ge
    rw [isM_out _ (by omega) (Or.inr h), bs, if_pos rfl] at gm
    exact ⟨_, _, ge, gm, rfl, ⟨S, K, T, t, len, nb, no, nk, hC, hM, hT, hLn, hB, hO, hKy, hP⟩⟩
  rw [isX_in _ (by omega) hj, bs, if_neg (by decide)] at ge
  rw [isM_in _ (by omega) hj, bs, if_neg (by decide), gw] at gm
  by_cases hy : y < 0
  · rw [if_pos hy] at ge
    rw [if_pos hy, bs, if_pos rfl] at gm
    exact ⟨_, _, ge, gm, rfl, ⟨S, K, T, t, len, nb, no, nk, hC, hM, hT, hLn, hB, hO, hKy, hP⟩⟩
  obtain ⟨q, hq, rfl⟩ := nI_of hy
  by_cases hc : q ≤ K
  · rw [if_neg hy, if_pos (by rw [c1]; exact nI_le hc (by omega)), c69, if_neg (nI_in hj (by omega)), if_neg (nI_in hj (by omega)), nI_clamp (by omega)] at ge
    rw [if_neg hy, if_neg (by rw [m1]; exact nI_nlt hc (by omega)), bs, if_neg (by decide), m15, if_neg (nI_in (by omega) (by omega)), if_neg (nI_in (by omega) (by omega)), nI_clamp (by omega)] at gm
    refine ⟨_, _, ge, gm, by show ca 70 j = ma 16 j; rw [(h1 j hj).2.1, (h1 j hj).2.2], ?_⟩
    refine ⟨S, K, T, t, fun s => if s = j then q else len s, nb, no, nk, hC, hM, hT, ⟨fun s hs => ?_, ⟨rfl, Or.inl rfl, rfl, Or.inl rfl, fun z => absurd z (by show ¬ (0 : Int32) = 1; decide)⟩, fun z => absurd z (by show ¬ (0 : Int32) = 1; decide)⟩, hB, hO, hKy, hP⟩
    show (if s = j then q else len s) ≤ K ∧ upd (ca 70) j (nI q) s = nI (if s = j then q else len s) ∧ upd (ma 16) j (nI q) s = nI (if s = j then q else len s)
    by_cases e : s = j
    · subst e
      rw [if_pos rfl, pk_us, pk_us]
      exact ⟨hc, rfl, rfl⟩
    · rw [if_neg e, pk_un e, pk_un e]
      exact h1 s hs
  · rw [if_neg hy, if_neg (by rw [c1]; exact nI_ge (by omega) hq)] at ge
    rw [if_neg hy, if_pos (by rw [m1]; exact nI_lt (by omega) hq), bs, if_pos rfl] at gm
    exact ⟨_, _, ge, gm, rfl, ⟨S, K, T, t, len, nb, no, nk, hC, hM, hT, hLn, hB, hO, hKy, hP⟩⟩
