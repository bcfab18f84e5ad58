/-! build: PACKAGES, filling the lists. -/
section
variable {S n l : Nat} {W li : Nat → Nat}
theorem pkL_size (i : Nat) (hi : i ≤ n + pkN n W l) : pkL n W l i ≤ n ∧ pkL n W l i ≤ i ∧ i - pkL n W l i ≤ pkN n W l := ⟨LC_le i, LC_le_i i, PC_le i hi⟩
theorem pkL_s (i : Nat) : pkL n W l (i + 1) = pkL n W l i + (if pkI n W l i then 1 else 0) := LC_s i
theorem pkI_iff (i : Nat) : pkI n W l i = true ↔ (pkL n W l i < n ∧ (pkN n W l ≤ i - pkL n W l i ∨ W (pkL n W l i) ≤ pkW n W l (i - pkL n W l i))) := by
  unfold pkI isl pkL
  rw [decide_eq_true_iff]
theorem pkIt (i : Nat) : (pkP n W (l + 1)).1 i = if pkI n W l i then W (pkL n W l i) else pkW n W l (i - pkL n W l i) := rfl
theorem packW_eq (F : Nat) {q : Nat} {wb : Nat → Int32} (hS : S ≤ 96) (hn1 : 1 ≤ n) (hnS : n ≤ S) (hwb : ∀ i, i < (pkP n W l).2 → wb i = nI ((pkP n W l).1 i)) (hq : q < pkN n W l) : fn_X6_packageWeight F (2 * S) wb (nI q) = some (nI (pkW n W l q)) := by
  have hs := (pk_size (W := W) hn1 l).1
  have hq2 : 2 * q + 1 < (pkP n W l).2 := by unfold pkN at hq; omega
  unfold fn_X6_packageWeight bf_X6_packageWeight_0
  rw [show (2 : Int32) * nI q = nI (2 * q) by rw [show (2 : Int32) = nI 2 from rfl, pk_mul], show nI (2 * q) + (1 : Int32) = nI (2 * q + 1) from nI_add _ 1, nI_clamp (by omega), nI_clamp (by omega), if_neg (gin (by omega) (by omega)), if_neg (gin (by omega) (by omega)), hwb _ (by omega), hwb _ (by omega), nI_add]
  rfl
theorem fillX (F : Nat) {R nw b : Nat} {w0 line wb : Nat → Int32} {ov : Int32} (hS : S ≤ 96) (hn1 : 1 ≤ n) (hnS : n ≤ S) (hl30 : l ≤ 24) (hP : Prm n li) (hli : ∀ i, i < n → line i = nI (li i)) (hw : ∀ j, j < n → W j ≤ 600 ∧ w0 (li j) = nI (W j)) (hwb : ∀ i, i < (pkP n W l).2 → wb i = nI ((pkP n W l).1 i)) (hR : b + 2 * S ≤ R) (hR2 : R ≤ 5000) (hnw : R ≤ 32 * nw) (hnw2 : nw < 2 ^ 31) : ∀ (d i k : Nat) (ws mk : Nat → Int32), i + d = 2 * S → d < k → (∀ x, x < i → x < n + pkN n W l → ws x = nI ((pkP n W (l + 1)).1 x)) →
    ∃ (ws' mk' : Nat → Int32), lf_X6_fillList_35 F (nI (2 * S)) (nI R) nw (nI n) S w0 S line k (nI (pkN n W l)) (nI (n + pkN n W l)) (nI (pkL n W l (min i (n + pkN n W l)))) (nI (min i (n + pkN n W l) - pkL n W l (min i (n + pkN n W l)))) (nI i) (2 * S) ws (2 * S) wb (nI (b + i)) ov mk = some (nI (n + pkN n W l), 2 * S, ws', 2 * S, wb, nI (b + 2 * S), ov, mk') ∧ (∀ x, x < n + pkN n W l → ws' x = nI ((pkP n W (l + 1)).1 x)) ∧ (∀ x, i ≤ x → x < 2 * S → wbit mk' (b + x) = (decide (x < n + pkN n W l) && !pkI n W l x)) ∧ ∀ x, x < b + i → wbit mk' x = wbit mk x := by
  have hsz := (pk_size (W := W) hn1 l).2
  intro d
  induction d with
  | zero =>
    intro i k ws mk hi hk h1
    obtain ⟨k, rfl⟩ : ∃ z, k = z + 1 := ⟨k - 1, by omega⟩
    obtain rfl : i = 2 * S := by omega
    refine ⟨ws, mk, ?_, fun x hx => h1 x (by omega) hx, fun x h2 h3 => by omega, fun _ _ => rfl⟩
    show bf_X6_fillList_35 F (nI (2 * S)) (nI R) nw (nI n) S w0 S line (fun a b c d e f g h i j l m => lf_X6_fillList_35 F (nI (2 * S)) (nI R) nw (nI n) S w0 S line k a b c d e f g h i j l m) (nI (pkN n W l)) (nI (n + pkN n W l)) _ _ (nI (2 * S)) (2 * S) ws (2 * S) wb (nI (b + 2 * S)) ov mk = _
    unfold bf_X6_fillList_35
    rw [if_pos (nI_le (Nat.le_refl _) (by omega))]
  | succ d ih =>
    intro i k ws mk hi hk h1
    obtain ⟨k, rfl⟩ : ∃ z, k = z + 1 := ⟨k - 1, by omega⟩
    have i1 : nI i + (1 : Int32) = nI (i + 1) := nI_add i 1
    have fin : ∀ (c : Bool) (ws1 : Nat → Int32) (L P : Nat), c = (decide (i < n + pkN n W l) && !pkI n W l i) → L = pkL n W l (min (i + 1) (n + pkN n W l)) → P = min (i + 1) (n + pkN n W l) - pkL n W l (min (i + 1) (n + pkN n W l)) → (∀ x, x < i + 1 → x < n + pkN n W l → ws1 x = nI ((pkP n W (l + 1)).1 x)) →
        ∃ (ws' mk' : Nat → Int32), bf_X6_fillList_149 F (nI (2 * S)) (nI R) nw (nI n) S w0 S line (fun a b c d e f g h i j l m => lf_X6_fillList_35 F (nI (2 * S)) (nI R) nw (nI n) S w0 S line k a b c d e f g h i j l m) (nI (pkN n W l)) (nI (n + pkN n W l)) (nI L) (nI P) (nI i) (b01 c) (2 * S) ws1 (2 * S) wb (nI (b + i)) ov mk = some (nI (n + pkN n W l), 2 * S, ws', 2 * S, wb, nI (b + 2 * S), ov, mk') ∧ (∀ x, x < n + pkN n W l → ws' x = nI ((pkP n W (l + 1)).1 x)) ∧ (∀ x, i ≤ x → x < 2 * S → wbit mk' (b + x) = (decide (x < n + pkN n W l) && !pkI n W l x)) ∧ ∀ x, x < b + i → wbit mk' x = wbit mk x := fun c ws1 L P hc hL hPp h2 => by
      obtain ⟨mk1, a1, a2⟩ := add_eq F mk (N := R) (n := b + i) (nw := nw) ov c (by omega) (by omega) hnw hnw2
      obtain ⟨ws', mk', r1, r2, r3, r4⟩ := ih (i + 1) k ws1 mk1 (by omega) (by omega) h2
      refine ⟨ws', mk', ?_, r2, fun x h3 h4 => ?_, fun x hx => ?_⟩
      · have e163 : bf_X6_fillList_163 F (nI (2 * S)) (nI R) nw (nI n) S w0 S line (fun a b c d e f g h i j l m => lf_X6_fillList_35 F (nI (2 * S)) (nI R) nw (nI n) S w0 S line k a b c d e f g h i j l m) (nI (pkN n W l)) (nI (n + pkN n W l)) (nI L) (nI P) (nI i) (b01 c) (2 * S) ws1 (2 * S) wb (nI (b + i)) ov mk = some (nI (n + pkN n W l), 2 * S, ws', 2 * S, wb, nI (b + 2 * S), ov, mk') := by
          unfold bf_X6_fillList_163
          rw [a1, bs, i1, hL, hPp]
          exact r1
        unfold bf_X6_fillList_149
        cases c with
        | false => rw [if_pos (show b01 false = 0 from rfl)]; exact e163
        | true => rw [if_neg (show ¬ b01 true = 0 by decide)]; exact e163
      · by_cases e : x = i
        · subst e; rw [r4 (b + x) (by omega), a2, if_pos rfl, hc]
        · exact r3 x (by omega) h4
      · rw [r4 x (by omega), a2, if_neg (by omega)]
    have ux : lf_X6_fillList_35 F (nI (2 * S)) (nI R) nw (nI n) S w0 S line (k + 1) (nI (pkN n W l)) (nI (n + pkN n W l)) (nI (pkL n W l (min i (n + pkN n W l)))) (nI (min i (n + pkN n W l) - pkL n W l (min i (n + pkN n W l)))) (nI i) (2 * S) ws (2 * S) wb (nI (b + i)) ov mk = bf_X6_fillList_35 F (nI (2 * S)) (nI R) nw (nI n) S w0 S line (fun a b c d e f g h i j l m => lf_X6_fillList_35 F (nI (2 * S)) (nI R) nw (nI n) S w0 S line k a b c d e f g h i j l m) (nI (pkN n W l)) (nI (n + pkN n W l)) (nI (pkL n W l (min i (n + pkN n W l)))) (nI (min i (n + pkN n W l) - pkL n W l (min i (n + pkN n W l)))) (nI i) (2 * S) ws (2 * S) wb (nI (b + i)) ov mk := rfl
    rw [ux]
    unfold bf_X6_fillList_35
    rw [if_neg (nI_ge (by omega) (by omega))]
    by_cases hsi : n + pkN n W l ≤ i
    · have mi : min i (n + pkN n W l) = n + pkN n W l := by omega
      have mi1 : min (i + 1) (n + pkN n W l) = n + pkN n W l := by omega
      obtain ⟨q1, q2, q3⟩ := pkL_size (n := n) (W := W) (l := l) (n + pkN n W l) (Nat.le_refl _)
      rw [if_pos (nI_le hsi (by omega)), mi]
      unfold bf_X6_fillList_92
      rw [if_pos rfl, if_pos (nI_le (by omega) (by omega))]
      exact fin false ws _ _ (by have : ¬ i < n + pkN n W l := by omega
                                 simp [this]) (by rw [mi1]) (by rw [mi1]) (fun x h2 h3 => h1 x (by omega) h3)
    · have mi : min i (n + pkN n W l) = i := by omega
      have mi1 : min (i + 1) (n + pkN n W l) = i + 1 := by omega
      obtain ⟨q1, q2, q3⟩ := pkL_size (n := n) (W := W) (l := l) i (by omega)
      rw [if_neg (nI_ge (by omega) (by omega)), mi]
      have hsb := (pk_size (W := W) hn1 l).1
      -- a leaf comes
      have leaf : pkI n W l i = true → ∃ (ws' mk' : Nat → Int32), bf_X6_fillList_92 F (nI (2 * S)) (nI R) nw (nI n) S w0 S line (fun a b c d e f g h i j l m => lf_X6_fillList_35 F (nI (2 * S)) (nI R) nw (nI n) S w0 S line k a b c d e f g h i j l m) (nI (pkN n W l)) (nI (n + pkN n W l)) (nI (pkL n W l i)) (nI (i - pkL n W l i)) (nI i) 0 (2 * S) ws (2 * S) wb (nI (b + i)) ov mk = some (nI (n + pkN n W l), 2 * S, ws', 2 * S, wb, nI (b + 2 * S), ov, mk') ∧ (∀ x, x < n + pkN n W l → ws' x = nI ((pkP n W (l + 1)).1 x)) ∧ (∀ x, i ≤ x → x < 2 * S → wbit mk' (b + x) = (decide (x < n + pkN n W l) && !pkI n W l x)) ∧ ∀ x, x < b + i → wbit mk' x = wbit mk x := fun hI => by
        have hL := ((pkI_iff i).mp hI).1
        have l1 := hP.1 _ hL
        unfold bf_X6_fillList_92
        rw [if_pos rfl, if_neg (nI_ge hL (by omega)), nI_clamp (n := pkL n W l i) (by omega), if_neg (gin (by omega) (by omega)), hli _ hL, nI_clamp (n := li (pkL n W l i)) (by omega), if_neg (gin (by omega) (by omega)), nI_clamp (n := i) (by omega), if_neg (gin (by omega) (by omega)), (hw _ hL).2, show nI (pkL n W l i) + (1 : Int32) = nI (pkL n W l i + 1) from nI_add _ 1]
        refine fin false _ _ _ (by simp [hI]) (by rw [mi1, pkL_s, if_pos hI]) (by rw [mi1, pkL_s, if_pos hI]; omega) (fun x h2 h3 => ?_)
        by_cases e : x = i
        · subst e; rw [pk_us, pkIt, if_pos hI]
        · rw [pk_un e]; exact h1 x (by omega) h3
      have pack : pkI n W l i = false → i - pkL n W l i < pkN n W l → ∃ (ws' mk' : Nat → Int32), bf_X6_fillList_92 F (nI (2 * S)) (nI R) nw (nI n) S w0 S line (fun a b c d e f g h i j l m => lf_X6_fillList_35 F (nI (2 * S)) (nI R) nw (nI n) S w0 S line k a b c d e f g h i j l m) (nI (pkN n W l)) (nI (n + pkN n W l)) (nI (pkL n W l i)) (nI (i - pkL n W l i)) (nI i) 1 (2 * S) ws (2 * S) wb (nI (b + i)) ov mk = some (nI (n + pkN n W l), 2 * S, ws', 2 * S, wb, nI (b + 2 * S), ov, mk') ∧ (∀ x, x < n + pkN n W l → ws' x = nI ((pkP n W (l + 1)).1 x)) ∧ (∀ x, i ≤ x → x < 2 * S → wbit mk' (b + x) = (decide (x < n + pkN n W l) && !pkI n W l x)) ∧ ∀ x, x < b + i → wbit mk' x = wbit mk x := fun hI hpk => by
        unfold bf_X6_fillList_92
        rw [if_neg (show ¬ (1 : Int32) = 0 by decide), packW_eq F hS hn1 hnS hwb hpk, bs, nI_clamp (n := i) (by omega), if_neg (gin (by omega) (by omega)), show nI (i - pkL n W l i) + (1 : Int32) = nI (i - pkL n W l i + 1) from nI_add _ 1]
        have hI' : ¬ pkI n W l i = true := by rw [hI]; decide
        have lt : i < n + pkN n W l := by omega
        refine fin true _ _ _ (by simp [hI, lt]) (by rw [mi1, pkL_s, if_neg hI', Nat.add_zero]) (by rw [mi1, pkL_s, if_neg hI']; omega) (fun x h2 h3 => ?_)
        by_cases e : x = i
        · subst e; rw [pk_us, pkIt, if_neg hI']
        · rw [pk_un e]; exact h1 x (by omega) h3
      by_cases c1 : pkN n W l ≤ i - pkL n W l i
      · rw [if_pos (nI_le c1 (by omega))]
        exact leaf ((pkI_iff i).mpr ⟨by omega, Or.inl c1⟩)
      · rw [if_neg (nI_ge (by omega) (by omega))]
        have pb := pk_w (W := W) (by omega : n ≤ 96) (fun j hj => (hw j hj).1) (show l ≤ 30 by omega) (show i - pkL n W l i < pkN n W l by omega)
        by_cases c2 : n ≤ pkL n W l i
        · rw [if_pos (nI_le c2 (by omega))]
          refine pack ?_ (by omega)
          cases e : pkI n W l i with
          | false => rfl
          | true => have := ((pkI_iff i).mp e).1; omega
        · have l1 := hP.1 (pkL n W l i) (by omega)
          have w6 := (hw (pkL n W l i) (by omega)).1
          rw [if_neg (nI_ge (by omega) (by omega)), packW_eq F hS hn1 hnS hwb (by omega), bs, nI_clamp (n := pkL n W l i) (by omega), if_neg (gin (by omega) (by omega)), hli _ (by omega), nI_clamp (n := li (pkL n W l i)) (by omega), if_neg (gin (by omega) (by omega)), (hw _ (by omega)).2]
          by_cases c3 : W (pkL n W l i) ≤ pkW n W l (i - pkL n W l i)
          · rw [if_pos (nI_le c3 (by omega))]
            exact leaf ((pkI_iff i).mpr ⟨by omega, Or.inr c3⟩)
          · rw [if_neg (nI_ge (by omega) (by omega))]
            refine pack ?_ (by omega)
            cases e : pkI n W l i with
            | false => rfl
            | true =>
              rcases ((pkI_iff i).mp e).2 with z | z
              · omega
              · omega
end
