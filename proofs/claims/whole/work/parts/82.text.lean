/-! Symbols, counts, the text. -/
theorem isX_out (F : Nat) {x : Int32} {S : Nat} (h : x < 0 ∨ nI S ≤ x) : fn_X11_isSymbol F (nI S) x = some 0 := by
  unfold fn_X11_isSymbol bf_X11_isSymbol_0
  by_cases h0 : x < 0
  · rw [if_pos h0]
  · rw [if_neg h0, if_pos (h.resolve_left h0)]
theorem isX_in (F : Nat) {S j : Nat} (hS : S < 2 ^ 31) (h : j < S) : fn_X11_isSymbol F (nI S) (nI j) = some 1 := by
  unfold fn_X11_isSymbol bf_X11_isSymbol_0
  rw [if_neg (nI_pos (by omega)), if_neg (nI_ge h hS)]
theorem isM_out (F : Nat) {x : Int32} {S : Nat} (hS : S < 2 ^ 30) (h : x < 0 ∨ nI S ≤ x) : fn_X12_isSymbol F (nI S) x = some 0 := by
  unfold fn_X12_isSymbol bf_X12_isSymbol_0
  rw [wi_out F hS h, bs, if_neg (by decide)]
theorem isM_in (F : Nat) {S j : Nat} (hS : S < 2 ^ 30) (h : j < S) : fn_X12_isSymbol F (nI S) (nI j) = some 1 := by
  unfold fn_X12_isSymbol bf_X12_isSymbol_0
  rw [wi_in F hS h, bs, if_neg (by decide)]
theorem cnt_congr {t t' : Nat → Nat} {s : Nat} : ∀ n, (∀ k, k < n → t k = t' k) → cnt t n s = cnt t' n s
  | 0, _ => rfl
  | n + 1, h => by
    unfold cnt
    rw [cnt_congr n (fun k hk => h k (by omega)), h n (by omega)]
theorem cnt_le (t : Nat → Nat) (s : Nat) : ∀ n, cnt t n s ≤ n
  | 0 => Nat.le_refl _
  | n + 1 => by
    unfold cnt
    have := cnt_le t s n
    split <;> omega
theorem countOf_loop (F : Nat) {T n : Nat} {t : Nat → Nat} {w : Nat → Int32} {s : Nat} (hT : T ≤ n) (hn : n < 2 ^ 31) (hs : s < 2 ^ 31) (hw : ∀ k, k < T → t k < 2 ^ 31 ∧ w k = nI (t k)) : ∀ (d i k : Nat), i + d = T → d < k → lf_X12_countOf_4 F (nI T) n w k (nI s) (nI (cnt t i s)) (nI i) = some (nI (cnt t T s)) := by
  intro d
  induction d with
  | zero =>
    intro i k hi hk
    obtain ⟨k, rfl⟩ : ∃ q, k = q + 1 := ⟨k - 1, by omega⟩
    show bf_X12_countOf_4 F (nI T) n w (fun x1 x2 x3 => lf_X12_countOf_4 F (nI T) n w k x1 x2 x3) (nI s) (nI (cnt t i s)) (nI i) = _
    unfold bf_X12_countOf_4
    rw [if_pos (nI_le (by omega) (by omega)), show i = T by omega]
  | succ d ih =>
    intro i k hi hk
    obtain ⟨k, rfl⟩ : ∃ q, k = q + 1 := ⟨k - 1, by omega⟩
    show bf_X12_countOf_4 F (nI T) n w (fun x1 x2 x3 => lf_X12_countOf_4 F (nI T) n w k x1 x2 x3) (nI s) (nI (cnt t i s)) (nI i) = _
    unfold bf_X12_countOf_4
    obtain ⟨h1, h2⟩ := hw i (by omega)
    rw [if_neg (nI_ge (by omega) (by omega)), if_neg (nI_in (by omega) hn), nI_clamp (by omega), h2]
    have e1 : nI i + (1 : Int32) = nI (i + 1) := nI_add i 1
    by_cases hc : t i = s
    · rw [if_pos ((nI_eq h1 hs).mpr hc), e1, show nI (cnt t i s) + (1 : Int32) = nI (cnt t (i + 1) s) by
        rw [show cnt t (i + 1) s = cnt t i s + 1 by simp [cnt, hc]]; exact nI_add _ 1]
      exact ih (i + 1) k (by omega) (by omega)
    · rw [if_neg (fun z => hc ((nI_eq h1 hs).mp z)), e1, show nI (cnt t i s) + (0 : Int32) = nI (cnt t (i + 1) s) by
        rw [show cnt t (i + 1) s = cnt t i s + 0 by simp [cnt, hc]]; exact nI_add _ 0]
      exact ih (i + 1) k (by omega) (by omega)
theorem countOf_eq {F T n : Nat} {t : Nat → Nat} {w : Nat → Int32} {s : Nat} (hT : T ≤ n) (hn : n < 2 ^ 31) (hs : s < 2 ^ 31) (hF : T < F) (hw : ∀ k, k < T → t k < 2 ^ 31 ∧ w k = nI (t k)) : fn_X12_countOf F (nI T) n w (nI s) = some (nI (cnt t T s)) :=
  countOf_loop F hT hn hs hw T 0 F (by omega) hF
theorem fill_loop (F : Nat) {n : Nat} (hn : n < 2 ^ 31) (v : Int32) : ∀ (d i k : Nat) (f : Nat → Int32), i + d = n → d < k → ∃ f', lf_J7_fill_53178_5 F n k v (nI i) (nI n) f = some f' ∧ (∀ j, j < i → f' j = f j) ∧ (∀ j, i ≤ j → j < n → f' j = v) := by
  intro d
  induction d with
  | zero =>
    intro i k f hi hk
    obtain ⟨k, rfl⟩ : ∃ q, k = q + 1 := ⟨k - 1, by omega⟩
    refine ⟨f, ?_, fun _ _ => rfl, fun j h1 h2 => by omega⟩
    show bf_J7_fill_53178_5 F n (fun x1 x2 x3 p0 => lf_J7_fill_53178_5 F n k x1 x2 x3 p0) v (nI i) (nI n) f = _
    unfold bf_J7_fill_53178_5
    rw [if_pos (nI_le (by omega) (by omega))]
  | succ d ih =>
    intro i k f hi hk
    obtain ⟨k, rfl⟩ : ∃ q, k = q + 1 := ⟨k - 1, by omega⟩
    obtain ⟨f', h1, h2, h3⟩ := ih (i + 1) k (upd f i v) (by omega) (by omega)
    refine ⟨f', ?_, fun j hj => ?_, fun j hj hj2 => ?_⟩
    · show bf_J7_fill_53178_5 F n (fun x1 x2 x3 p0 => lf_J7_fill_53178_5 F n k x1 x2 x3 p0) v (nI i) (nI n) f = _
      unfold bf_J7_fill_53178_5
      rw [if_neg (nI_ge (by omega) hn), if_neg (nI_in (by omega) hn), nI_clamp (by omega), show nI i + (1 : Int32) = nI (i + 1) from nI_add i 1]
      exact h1
    · rw [h2 j (by omega)]; exact pk_un (by omega)
    · by_cases e : j = i
      · subst e; rw [h2 j (by omega)]; exact pk_us
      · exact h3 j (by omega) hj2
theorem fill_eq {F n : Nat} (hn : n < 2 ^ 31) (hF : n < F) (f : Nat → Int32) (v : Int32) : ∃ f', fn_J7_fill_53178 F n f v = some f' ∧ ∀ j, j < n → f' j = v := by
  obtain ⟨f', h1, -, h3⟩ := fill_loop F hn v n 0 F f (by omega) hF
  exact ⟨f', h1, fun j hj => h3 j (by omega) hj⟩
theorem sim_count : Sim_count FU Inv := by
  intro ci cn ca mi mn ma x hI
  obtain ⟨S, K, T, t, len, nb, no, nk, hC, hM, hT, hLn, hB, hO, hKy, hP⟩ := id hI
  obtain ⟨⟨h1, h2, h3⟩, h4, h5⟩ := hT
  have c0 : ci 0 = nI S := hC.2.1.1
  have c5 : cn 5 = S := hC.2.2.1.2
  have hS : S ≤ 96 := hC.1.2.1
  have m0 : mi 0 = nI S := hM.1.1
  have m13 : mn 13 = 600 := hM.2.1.1
  have ge : gX_count FU ci cn ca x = (fn_X11_isSymbol FU (ci 0) x).bind fun v2 => (if v2 = 0 then some ((-1 : Int32)) else (if x < 0 ∨ cn 5 ≤ x.toNatClampNeg then none else some (ca 6 x.toNatClampNeg))) := rfl
  have gm : gM_count FU mi mn ma x = (fn_X12_isSymbol FU (mi 0) x).bind fun v2 => (if v2 = 0 then some ((-1 : Int32)) else ((fn_X12_countOf FU (mi 2) (mn 13) (ma 14) x).bind fun v10 => some v10)) := rfl
  rw [c0, c5] at ge
  rw [m0, h3, m13] at gm
  rcases pk_ix x (n := S) (by omega) with h | h | ⟨j, hj, rfl⟩
  · rw [isX_out _ (Or.inl h), bs, if_pos rfl] at ge
    rw [isM_out _ (by omega) (Or.inl h), bs, if_pos rfl] at gm
    exact ⟨-1, -1, ge, gm, rfl, hI⟩
  · rw [isX_out _ (Or.inr h), bs, if_pos rfl] at ge
    rw [isM_out _ (by omega) (Or.inr h), bs, if_pos rfl] at gm
    exact ⟨-1, -1, ge, gm, rfl, hI⟩
  · rw [isX_in _ (by omega) hj, bs, if_neg (by decide), if_neg (nI_in hj (by omega)), nI_clamp (by omega)] at ge
    rw [isM_in _ (by omega) hj, bs, if_neg (by decide), countOf_eq (t := t) h1 (by omega) (by omega) (by unfold FU; omega) (fun k hk => ⟨by have := (h4 k hk).1; omega, (h4 k hk).2.2⟩), bs] at gm
    exact ⟨_, _, ge, gm, h5 j hj, hI⟩
theorem sim_clear : Sim_clear FU Inv := by
  intro ci cn ca mi mn ma hI
  obtain ⟨S, K, T, t, len, nb, no, nk, hC, hM, hT, hLn, hB, hO, hKy, hP⟩ := id hI
  obtain ⟨⟨h1, h2, h3⟩, h4, h5⟩ := hT
  have c5 : cn 5 = S := hC.2.2.1.2
  have hS : S ≤ 96 := hC.1.2.1
  have ge : gX_clear FU ci cn ca = (fn_J7_fill_53178 FU (cn 5) (ca 6) (0 : Int32)).bind fun v21 => some (ci 2, (0 : Int32), v21) := rfl
  have gm : gM_clear FU mi mn ma = some (mi 2, (0 : Int32)) := rfl
  obtain ⟨f', e1, e2⟩ := fill_eq (F := FU) (n := S) (by omega) (by unfold FU; omega) (ca 6) 0
  rw [c5, e1, bs] at ge
  refine ⟨_, _, ge, gm, by show ci 2 = mi 2; rw [h2, h3], ?_⟩
  exact ⟨S, K, 0, t, len, nb, no, nk, hC, hM, ⟨⟨by omega, rfl, rfl⟩, fun k hk => by omega, fun s hs => e2 s hs⟩, hLn, hB, hO, hKy, hP⟩
theorem sim_length : Sim_length FU Inv := by
  intro ci cn ca mi mn ma x hI
  obtain ⟨S, K, T, t, len, nb, no, nk, hC, hM, hT, hLn, hB, hO, hKy, hP⟩ := id hI
  have c0 : ci 0 = nI S := hC.2.1.1
  have c69 : cn 69 = S := hC.2.2.2.2.2.2.2.2.1.2.2.1
  have hS : S ≤ 96 := hC.1.2.1
  have m0 : mi 0 = nI S := hM.1.1
  have m15 : mn 15 = 96 := hM.2.1.2.1
  have ge : gX_length FU ci cn ca x = (fn_X11_isSymbol FU (ci 0) x).bind fun v2 => (if v2 = 0 then some ((-1 : Int32)) else (if x < 0 ∨ cn 69 ≤ x.toNatClampNeg then none else some (ca 70 x.toNatClampNeg))) := rfl
  have gm : gM_length FU mi mn ma x = (fn_X12_isSymbol FU (mi 0) x).bind fun v2 => (if v2 = 0 then some ((-1 : Int32)) else (if x < 0 ∨ mn 15 ≤ x.toNatClampNeg then none else some (ma 16 x.toNatClampNeg))) := rfl
  rw [c0, c69] at ge
  rw [m0, m15] at gm
  rcases pk_ix x (n := S) (by omega) with h | h | ⟨j, hj, rfl⟩
  · rw [isX_out _ (Or.inl h), bs, if_pos rfl] at ge
    rw [isM_out _ (by omega) (Or.inl h), bs, if_pos rfl] at gm
    exact ⟨-1, -1, ge, gm, rfl, hI⟩
  · rw [isX_out _ (Or.inr h), bs, if_pos rfl] at ge
    rw [isM_out _ (by omega) (Or.inr h), bs, if_pos rfl] at gm
    exact ⟨-1, -1, ge, gm, rfl, hI⟩
  · rw [isX_in _ (by omega) hj, bs, if_neg (by decide), if_neg (nI_in hj (by omega)), nI_clamp (by omega)] at ge
    rw [isM_in _ (by omega) hj, bs, if_neg (by decide), if_neg (nI_in (by omega) (by omega)), nI_clamp (by omega)] at gm
    exact ⟨_, _, ge, gm, by rw [(hLn.1 j hj).2.1, (hLn.1 j hj).2.2], hI⟩
