/-! build: PACKAGES, the reference's lists. -/
section
variable {n l : Nat} {W li : Nat → Nat}
theorem fillM (F : Nat) {most x3 : Int32} {cM ord found listed : Nat → Int32} {rec7 : Int32 → (Nat → Int32) → (Nat → Int32) → (Nat → Int32) → (Nat → Int32) → (Nat → Int32) → Option ((Nat → Int32) × (Nat → Int32) × (Nat → Int32) × (Nat → Int32) × (Nat → Int32))} (hn1 : 1 ≤ n) (hn96 : n ≤ 96) (hl : l < 24) (hx3 : 0 < l → x3 = nI (192 * (l - 1))) (hP : Prm n li) (ho : ∀ i, i < n → ord i = nI (li i)) (hw : ∀ j, j < n → W j ≤ 600 ∧ cM (li j) = nI (W j)) : ∀ (d i k : Nat) (it il : Nat → Int32), i + d = n + pkN n W l → d < k → (∀ x, 0 < l → x < (pkP n W l).2 → it (192 * (l - 1) + x) = nI ((pkP n W l).1 x)) → (∀ x, x < i → it (192 * l + x) = nI ((pkP n W (l + 1)).1 x) ∧ il (192 * l + x) = b01 (pkI n W l x)) →
    ∃ (it' il' : Nat → Int32), lf_X12_byPackages_56 F most (nI n) 96 cM 96 96 4800 4800 25 rec7 k (nI l) (nI (192 * l)) x3 (nI (pkL n W l i)) (nI (i - pkL n W l i)) (nI (pkN n W l)) (nI i) found ord it il listed = rec7 (nI (l + 1)) found ord it' il' (upd listed l (nI (n + pkN n W l))) ∧ (∀ x, x < n + pkN n W l → it' (192 * l + x) = nI ((pkP n W (l + 1)).1 x) ∧ il' (192 * l + x) = b01 (pkI n W l x)) ∧ ∀ x, x < 192 * l → it' x = it x ∧ il' x = il x := by
  have hsz := (pk_size (W := W) hn1 l).2
  have hsb := (pk_size (W := W) hn1 l).1
  intro d
  induction d with
  | zero =>
    intro i k it il hi hk h0 h1
    obtain ⟨k, rfl⟩ : ∃ z, k = z + 1 := ⟨k - 1, by omega⟩
    obtain rfl : i = n + pkN n W l := by omega
    obtain ⟨q1, q2, q3⟩ := pkL_size (n := n) (W := W) (l := l) (n + pkN n W l) (Nat.le_refl _)
    refine ⟨it, il, ?_, h1, fun _ _ => ⟨rfl, rfl⟩⟩
    show bf_X12_byPackages_56 F most (nI n) 96 cM 96 96 4800 4800 25 rec7 (fun a b c d e f g h i j l m => lf_X12_byPackages_56 F most (nI n) 96 cM 96 96 4800 4800 25 rec7 k a b c d e f g h i j l m) (nI l) (nI (192 * l)) x3 (nI (pkL n W l (n + pkN n W l))) (nI (n + pkN n W l - pkL n W l (n + pkN n W l))) (nI (pkN n W l)) (nI (n + pkN n W l)) found ord it il listed = _
    unfold bf_X12_byPackages_56
    rw [if_neg (nI_nlt (by omega) (by omega)), if_pos (nI_le (by omega) (by omega)), nI_clamp (n := l) (by omega), if_neg (gin (by omega) (by omega)), show nI l + (1 : Int32) = nI (l + 1) from nI_add l 1]
  | succ d ih =>
    intro i k it il hi hk h0 h1
    obtain ⟨k, rfl⟩ : ∃ z, k = z + 1 := ⟨k - 1, by omega⟩
    obtain ⟨q1, q2, q3⟩ := pkL_size (n := n) (W := W) (l := l) i (by omega)
    have hRec : ∀ f, f = pkI n W l i → ∀ v, v = (pkP n W (l + 1)).1 i → ∃ (it' il' : Nat → Int32), bf_X12_byPackages_180 F most (nI n) 96 cM 96 96 4800 4800 25 rec7 (fun a b c d e f g h i j l m => lf_X12_byPackages_56 F most (nI n) 96 cM 96 96 4800 4800 25 rec7 k a b c d e f g h i j l m) (nI l) (nI (192 * l)) x3 (nI (pkL n W l i)) (nI (i - pkL n W l i)) (nI (pkN n W l)) (nI i) (b01 f) (nI v) (nI (192 * l) + nI i) found ord it il listed = rec7 (nI (l + 1)) found ord it' il' (upd listed l (nI (n + pkN n W l))) ∧ (∀ x, x < n + pkN n W l → it' (192 * l + x) = nI ((pkP n W (l + 1)).1 x) ∧ il' (192 * l + x) = b01 (pkI n W l x)) ∧ ∀ x, x < 192 * l → it' x = it x ∧ il' x = il x := fun f hf v hv => by
      obtain ⟨it', il', r1, r2, r3⟩ := ih (i + 1) k (upd it (192 * l + i) (nI v)) (upd il (192 * l + i) (b01 f)) (by omega) (by omega) (fun x hl0 hx => by rw [pk_un (by omega)]; exact h0 x hl0 hx) (fun x hx => by
        by_cases e : x = i
        · subst e; rw [pk_us, pk_us, hv, hf]; exact ⟨rfl, rfl⟩
        · rw [pk_un (by omega), pk_un (by omega)]; exact h1 x (by omega))
      refine ⟨it', il', ?_, r2, fun x hx => ?_⟩
      · unfold bf_X12_byPackages_180 bf_X12_byPackages_204
        rw [nI_add, nI_clamp (n := 192 * l + i) (by omega), if_neg (gin (by omega) (by omega)), if_neg (gin (by omega) (by omega)), nar_b f, show nI i + (1 : Int32) = nI (i + 1) from nI_add i 1]
        rw [pkL_s, ← hf] at r1
        cases f with
        | false =>
          rw [if_pos (show b01 false = 0 from rfl), if_pos (show b01 false = 0 from rfl), show nI (pkL n W l i) + (0 : Int32) = nI (pkL n W l i + 0) from nI_add _ 0, show nI (i - pkL n W l i) + (1 : Int32) = nI (i + 1 - (pkL n W l i + 0)) by rw [show nI (i - pkL n W l i) + (1 : Int32) = nI (i - pkL n W l i + 1) from nI_add _ 1, show i - pkL n W l i + 1 = i + 1 - (pkL n W l i + 0) by omega]]
          exact r1
        | true =>
          rw [if_neg (show ¬ b01 true = 0 by decide), if_neg (show ¬ b01 true = 0 by decide), show nI (pkL n W l i) + (1 : Int32) = nI (pkL n W l i + 1) from nI_add _ 1, show nI (i - pkL n W l i) + (0 : Int32) = nI (i + 1 - (pkL n W l i + 1)) by rw [show nI (i - pkL n W l i) + (0 : Int32) = nI (i - pkL n W l i + 0) from nI_add _ 0, show i - pkL n W l i + 0 = i + 1 - (pkL n W l i + 1) by omega]]
          exact r1
      · obtain ⟨a1, a2⟩ := r3 x hx
        rw [a1, a2, pk_un (by omega), pk_un (by omega)]
        exact ⟨rfl, rfl⟩
    -- the sum of the package, if there is one
    obtain ⟨v, hv, h72⟩ : ∃ v : Nat, (i - pkL n W l i < pkN n W l → v = pkW n W l (i - pkL n W l i)) ∧ bf_X12_byPackages_72 F most (nI n) 96 cM 96 96 4800 4800 25 rec7 (fun a b c d e f g h i j l m => lf_X12_byPackages_56 F most (nI n) 96 cM 96 96 4800 4800 25 rec7 k a b c d e f g h i j l m) (nI l) (nI (192 * l)) x3 (nI (pkL n W l i)) (nI (i - pkL n W l i)) (nI (pkN n W l)) (nI i) found ord it il listed = bf_X12_byPackages_108 F most (nI n) 96 cM 96 96 4800 4800 25 rec7 (fun a b c d e f g h i j l m => lf_X12_byPackages_56 F most (nI n) 96 cM 96 96 4800 4800 25 rec7 k a b c d e f g h i j l m) (nI l) (nI (192 * l)) x3 (nI (pkL n W l i)) (nI (i - pkL n W l i)) (nI (pkN n W l)) (nI i) (nI v) found ord it il listed := by
      by_cases c : pkN n W l ≤ i - pkL n W l i
      · refine ⟨0, fun z => by omega, ?_⟩
        unfold bf_X12_byPackages_72
        rw [if_pos (nI_le c (by omega))]
        rfl
      · have hl0 : 0 < l := by
          rcases Nat.eq_zero_or_pos l with z | z
          · subst z
            have : pkN n W 0 = 0 := Nat.zero_div 2
            omega
          · exact z
        have hp2 : 2 * (i - pkL n W l i) + 1 < (pkP n W l).2 := by unfold pkN at c; omega
        refine ⟨pkW n W l (i - pkL n W l i), fun _ => rfl, ?_⟩
        unfold bf_X12_byPackages_72
        rw [if_neg (nI_ge (by omega) (by omega)), hx3 hl0, show nI (192 * (l - 1)) + (2 : Int32) * nI (i - pkL n W l i) = nI (192 * (l - 1) + 2 * (i - pkL n W l i)) by rw [show (2 : Int32) = nI 2 from rfl, pk_mul, nI_add], show nI (192 * (l - 1) + 2 * (i - pkL n W l i)) + (1 : Int32) = nI (192 * (l - 1) + (2 * (i - pkL n W l i) + 1)) from nI_add _ 1, nI_clamp (n := 192 * (l - 1) + 2 * (i - pkL n W l i)) (by omega), nI_clamp (n := 192 * (l - 1) + (2 * (i - pkL n W l i) + 1)) (by omega), if_neg (gin (by omega) (by omega)), if_neg (gin (by omega) (by omega)), h0 _ hl0 (by omega), h0 _ hl0 (by omega), nI_add]
        rfl
    have h56 : lf_X12_byPackages_56 F most (nI n) 96 cM 96 96 4800 4800 25 rec7 (k + 1) (nI l) (nI (192 * l)) x3 (nI (pkL n W l i)) (nI (i - pkL n W l i)) (nI (pkN n W l)) (nI i) found ord it il listed = bf_X12_byPackages_72 F most (nI n) 96 cM 96 96 4800 4800 25 rec7 (fun a b c d e f g h i j l m => lf_X12_byPackages_56 F most (nI n) 96 cM 96 96 4800 4800 25 rec7 k a b c d e f g h i j l m) (nI l) (nI (192 * l)) x3 (nI (pkL n W l i)) (nI (i - pkL n W l i)) (nI (pkN n W l)) (nI i) found ord it il listed := by
      show bf_X12_byPackages_56 F most (nI n) 96 cM 96 96 4800 4800 25 rec7 (fun a b c d e f g h i j l m => lf_X12_byPackages_56 F most (nI n) 96 cM 96 96 4800 4800 25 rec7 k a b c d e f g h i j l m) (nI l) (nI (192 * l)) x3 (nI (pkL n W l i)) (nI (i - pkL n W l i)) (nI (pkN n W l)) (nI i) found ord it il listed = _
      unfold bf_X12_byPackages_56
      by_cases c : pkL n W l i < n
      · rw [if_pos (nI_lt c (by omega))]
      · rw [if_neg (nI_nlt (by omega) (by omega)), if_neg (nI_ge (by omega) (by omega))]
    rw [h56, h72]
    have leaf : pkI n W l i = true → ∃ (it' il' : Nat → Int32), bf_X12_byPackages_148 F most (nI n) 96 cM 96 96 4800 4800 25 rec7 (fun a b c d e f g h i j l m => lf_X12_byPackages_56 F most (nI n) 96 cM 96 96 4800 4800 25 rec7 k a b c d e f g h i j l m) (nI l) (nI (192 * l)) x3 (nI (pkL n W l i)) (nI (i - pkL n W l i)) (nI (pkN n W l)) (nI i) (nI v) 1 found ord it il listed = rec7 (nI (l + 1)) found ord it' il' (upd listed l (nI (n + pkN n W l))) ∧ (∀ x, x < n + pkN n W l → it' (192 * l + x) = nI ((pkP n W (l + 1)).1 x) ∧ il' (192 * l + x) = b01 (pkI n W l x)) ∧ ∀ x, x < 192 * l → it' x = it x ∧ il' x = il x := fun hI => by
      have hL := ((pkI_iff i).mp hI).1
      have l1 := hP.1 _ hL
      unfold bf_X12_byPackages_148
      rw [if_neg (show ¬ (1 : Int32) = 0 by decide), nI_clamp (n := pkL n W l i) (by omega), if_neg (gin (by omega) (by omega)), ho _ hL, nI_clamp (n := li (pkL n W l i)) (by omega), if_neg (gin (by omega) (by omega)), (hw _ hL).2]
      exact hRec true hI.symm _ (by rw [pkIt, if_pos hI])
    have pack : pkI n W l i = false → i - pkL n W l i < pkN n W l → ∃ (it' il' : Nat → Int32), bf_X12_byPackages_148 F most (nI n) 96 cM 96 96 4800 4800 25 rec7 (fun a b c d e f g h i j l m => lf_X12_byPackages_56 F most (nI n) 96 cM 96 96 4800 4800 25 rec7 k a b c d e f g h i j l m) (nI l) (nI (192 * l)) x3 (nI (pkL n W l i)) (nI (i - pkL n W l i)) (nI (pkN n W l)) (nI i) (nI v) 0 found ord it il listed = rec7 (nI (l + 1)) found ord it' il' (upd listed l (nI (n + pkN n W l))) ∧ (∀ x, x < n + pkN n W l → it' (192 * l + x) = nI ((pkP n W (l + 1)).1 x) ∧ il' (192 * l + x) = b01 (pkI n W l x)) ∧ ∀ x, x < 192 * l → it' x = it x ∧ il' x = il x := fun hI hp => by
      unfold bf_X12_byPackages_148
      rw [if_pos rfl]
      exact hRec false hI.symm v (by rw [pkIt, if_neg (by rw [hI]; decide)]; exact hv hp)
    unfold bf_X12_byPackages_108
    by_cases c2 : n ≤ pkL n W l i
    · rw [if_pos (nI_le c2 (by omega))]
      refine pack ?_ (by omega)
      cases e : pkI n W l i with
      | false => rfl
      | true => have := ((pkI_iff i).mp e).1; omega
    · rw [if_neg (nI_ge (by omega) (by omega))]
      by_cases c1 : i - pkL n W l i = pkN n W l
      · rw [if_pos (by rw [c1])]
        exact leaf ((pkI_iff i).mpr ⟨by omega, Or.inl (by omega)⟩)
      · have hpk : i - pkL n W l i < pkN n W l := by omega
        have pb := pk_w (W := W) hn96 (fun j hj => (hw j hj).1) (show l ≤ 30 by omega) hpk
        have l1 := hP.1 (pkL n W l i) (by omega)
        have w6 := (hw (pkL n W l i) (by omega)).1
        rw [if_neg (fun z => c1 ((nI_eq (by omega) (by omega)).mp z)), nI_clamp (n := pkL n W l i) (by omega), if_neg (gin (by omega) (by omega)), ho _ (by omega), nI_clamp (n := li (pkL n W l i)) (by omega), if_neg (gin (by omega) (by omega)), (hw _ (by omega)).2, hv hpk]
        rw [hv hpk] at leaf pack
        by_cases c3 : pkW n W l (i - pkL n W l i) < W (pkL n W l i)
        · rw [if_pos (nI_lt c3 (by omega))]
          refine pack ?_ hpk
          cases e : pkI n W l i with
          | false => rfl
          | true =>
            rcases ((pkI_iff i).mp e).2 with z | z
            · omega
            · omega
        · rw [if_neg (nI_nlt (by omega) (by omega))]
          exact leaf ((pkI_iff i).mpr ⟨by omega, Or.inr (by omega)⟩)
end
