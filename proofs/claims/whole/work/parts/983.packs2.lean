/-! build: PACKAGES, all lists and the lengths. -/
section
variable {S n : Nat} {W li : Nat → Nat}
theorem listsX (F : Nat) {K nw : Nat} {w0 line dB : Nat → Int32} {ov : Int32} (hF : 1000 < F) (hS : S ≤ 96) (hn1 : 1 ≤ n) (hnS : n ≤ S) (hK : K ≤ 24) (hP : Prm n li) (hli : ∀ i, i < n → line i = nI (li i)) (hw : ∀ j, j < n → W j ≤ 600 ∧ w0 (li j) = nI (W j)) (hnw : K * (2 * S) ≤ 32 * nw) (hnw2 : nw < 2 ^ 31) : ∀ (d l k : Nat) (ws wb mk : Nat → Int32), l + d = K → d < k → (∀ x, x < (pkP n W l).2 → ws x = nI ((pkP n W l).1 x)) → (∀ l' x, l' < l → x < 2 * S → wbit mk (l' * (2 * S) + x) = (decide (x < n + pkN n W l') && !pkI n W l' x)) →
    ∃ (ws' wb' mk' : Nat → Int32), lf_X6_measure_15 F (nI K) (nI (2 * S)) (nI (K * (2 * S))) nw (nI n) S w0 S S k (nI (pkP n W l).2) (nI l) (2 * S) ws (2 * S) wb (nI (l * (2 * S))) ov mk dB line = ((fn_X6_countLengths F (nI K) (nI (2 * S)) (nI (K * (2 * S))) nw mk' (nI n) S S line dB).bind fun v40 => some (2 * S, ws', 2 * S, wb', nI (K * (2 * S)), ov, mk', v40, line)) ∧ ∀ l' x, l' < K → x < 2 * S → wbit mk' (l' * (2 * S) + x) = (decide (x < n + pkN n W l') && !pkI n W l' x) := by
  intro d
  induction d with
  | zero =>
    intro l k ws wb mk hl hk h1 h2
    obtain ⟨k, rfl⟩ : ∃ z, k = z + 1 := ⟨k - 1, by omega⟩
    obtain rfl : l = K := by omega
    refine ⟨ws, wb, mk, ?_, h2⟩
    show bf_X6_measure_15 F (nI l) (nI (2 * S)) (nI (l * (2 * S))) nw (nI n) S w0 S S (fun a b c d e f g h i j m => lf_X6_measure_15 F (nI l) (nI (2 * S)) (nI (l * (2 * S))) nw (nI n) S w0 S S k a b c d e f g h i j m) (nI (pkP n W l).2) (nI l) (2 * S) ws (2 * S) wb (nI (l * (2 * S))) ov mk dB line = _
    unfold bf_X6_measure_15
    rw [if_pos (nI_le (Nat.le_refl _) (by omega))]
  | succ d ih =>
    intro l k ws wb mk hl hk h1 h2
    obtain ⟨k, rfl⟩ : ∃ z, k = z + 1 := ⟨k - 1, by omega⟩
    have hsz := pk_size (W := W) hn1 l
    have hlb : l * (2 * S) + 2 * S ≤ K * (2 * S) := by
      have : (l + 1) * (2 * S) ≤ K * (2 * S) := Nat.mul_le_mul_right _ (by omega)
      rw [Nat.add_mul, Nat.one_mul] at this
      exact this
    have hKb : K * (2 * S) ≤ 5000 := by
      have : K * (2 * S) ≤ 24 * 192 := Nat.mul_le_mul hK (by omega)
      omega
    obtain ⟨ws', mk', r1, r2, r3, r4⟩ := fillX F (l := l) (b := l * (2 * S)) (R := K * (2 * S)) (nw := nw) (w0 := w0) (line := line) (wb := ws) (ov := ov) hS hn1 hnS (by omega) hP hli hw h1 hlb hKb hnw hnw2 (2 * S) 0 F wb mk (by omega) (by omega) (fun x hx => by omega)
    rw [show min 0 (n + pkN n W l) = 0 by omega] at r1
    have e0 : pkL n W l 0 = 0 := rfl
    rw [e0] at r1
    have fe : fn_X6_fillList F (nI (2 * S)) (nI (K * (2 * S))) nw (nI n) S w0 S line (2 * S) ws (2 * S) wb (nI (l * (2 * S))) ov mk (nI (pkN n W l)) = some (nI (n + pkN n W l), 2 * S, ws', 2 * S, ws, nI (l * (2 * S) + 2 * S), ov, mk') := by
      unfold fn_X6_fillList bf_X6_fillList_0
      rw [nI_add]
      exact r1
    obtain ⟨ws2, wb2, mk2, u1, u2⟩ := ih (l + 1) k ws' ws mk' (by omega) (by omega) (fun x hx => r2 x hx) (fun l' x hl' hx => by
      by_cases e : l' = l
      · subst e; exact r3 x (by omega) hx
      · have : l' * (2 * S) + 2 * S ≤ l * (2 * S) := by
          have : (l' + 1) * (2 * S) ≤ l * (2 * S) := Nat.mul_le_mul_right _ (by omega)
          rw [Nat.add_mul, Nat.one_mul] at this
          exact this
        rw [r4 _ (by omega)]
        exact h2 l' x (by omega) hx)
    refine ⟨ws2, wb2, mk2, ?_, u2⟩
    show bf_X6_measure_15 F (nI K) (nI (2 * S)) (nI (K * (2 * S))) nw (nI n) S w0 S S (fun a b c d e f g h i j m => lf_X6_measure_15 F (nI K) (nI (2 * S)) (nI (K * (2 * S))) nw (nI n) S w0 S S k a b c d e f g h i j m) (nI (pkP n W l).2) (nI l) (2 * S) ws (2 * S) wb (nI (l * (2 * S))) ov mk dB line = _
    unfold bf_X6_measure_15
    rw [if_neg (nI_ge (by omega) (by omega)), if_neg (by decide), show nI (pkP n W l).2 / (2 : Int32) = nI (pkN n W l) from pk_div (d := 2) (by omega) (by decide) (by decide), fe, bs, show nI l + (1 : Int32) = nI (l + 1) from nI_add l 1]
    rw [show (l + 1) * (2 * S) = l * (2 * S) + 2 * S by rw [Nat.add_mul, Nat.one_mul]] at u1
    exact u1
theorem listsM (F : Nat) {K : Nat} {cM ord found : Nat → Int32} (hF : 1000 < F) (hn1 : 1 ≤ n) (hn96 : n ≤ 96) (hK : K ≤ 24) (hP : Prm n li) (ho : ∀ i, i < n → ord i = nI (li i)) (hw : ∀ j, j < n → W j ≤ 600 ∧ cM (li j) = nI (W j)) : ∀ (d l k : Nat) (it il listed : Nat → Int32), l + d = K → d < k → (∀ x, 0 < l → x < (pkP n W l).2 → it (192 * (l - 1) + x) = nI ((pkP n W l).1 x)) → (0 < l → listed (l - 1) = nI (pkP n W l).2) → (∀ l' x, l' < l → x < n + pkN n W l' → il (192 * l' + x) = b01 (pkI n W l' x)) →
    ∃ (it' il' ls' : Nat → Int32), lf_X12_byPackages_7 F (nI K) (nI n) 96 cM 96 96 4800 4800 25 k (nI l) found ord it il listed = lf_X12_byPackages_244 F (nI K) (nI n) 96 cM 96 96 4800 4800 25 F 0 found ord it' il' ls' ∧ ∀ l' x, l' < K → x < n + pkN n W l' → il' (192 * l' + x) = b01 (pkI n W l' x) := by
  intro d
  induction d with
  | zero =>
    intro l k it il listed hl hk h1 h2 h3
    obtain ⟨k, rfl⟩ : ∃ z, k = z + 1 := ⟨k - 1, by omega⟩
    obtain rfl : l = K := by omega
    refine ⟨it, il, listed, ?_, h3⟩
    show bf_X12_byPackages_7 F (nI l) (nI n) 96 cM 96 96 4800 4800 25 (fun a b c d e f => lf_X12_byPackages_7 F (nI l) (nI n) 96 cM 96 96 4800 4800 25 k a b c d e f) (nI l) found ord it il listed = _
    unfold bf_X12_byPackages_7
    rw [if_pos (nI_le (Nat.le_refl _) (by omega))]
  | succ d ih =>
    intro l k it il listed hl hk h1 h2 h3
    obtain ⟨k, rfl⟩ : ∃ z, k = z + 1 := ⟨k - 1, by omega⟩
    have hsz := pk_size (W := W) hn1 l
    have go : ∀ x3 : Int32, (0 < l → x3 = nI (192 * (l - 1))) → ∃ (it' il' ls' : Nat → Int32), lf_X12_byPackages_56 F (nI K) (nI n) 96 cM 96 96 4800 4800 25 (fun a b c d e f => lf_X12_byPackages_7 F (nI K) (nI n) 96 cM 96 96 4800 4800 25 k a b c d e f) F (nI l) (nI (192 * l)) x3 0 0 (nI (pkN n W l)) 0 found ord it il listed = lf_X12_byPackages_244 F (nI K) (nI n) 96 cM 96 96 4800 4800 25 F 0 found ord it' il' ls' ∧ ∀ l' x, l' < K → x < n + pkN n W l' → il' (192 * l' + x) = b01 (pkI n W l' x) := fun x3 hx3 => by
      obtain ⟨it1, il1, r1, r2, r3⟩ := fillM F (l := l) (most := nI K) (x3 := x3) (found := found) (listed := listed) (rec7 := fun a b c d e f => lf_X12_byPackages_7 F (nI K) (nI n) 96 cM 96 96 4800 4800 25 k a b c d e f) hn1 hn96 (by omega) hx3 hP ho hw (n + pkN n W l) 0 F it il (by omega) (by omega) h1 (fun x hx => by omega)
      obtain ⟨it2, il2, ls2, u1, u2⟩ := ih (l + 1) k it1 il1 (upd listed l (nI (n + pkN n W l))) (by omega) (by omega) (fun x _ hx => (r2 x hx).1) (fun _ => pk_us) (fun l' x hl' hx => by
        by_cases e : l' = l
        · subst e; exact (r2 x hx).2
        · have := (pk_size (W := W) hn1 l').2
          rw [(r3 _ (by omega)).2]
          exact h3 l' x (by omega) hx)
      exact ⟨it2, il2, ls2, Eq.trans r1 u1, u2⟩
    show ∃ (it' il' ls' : Nat → Int32), bf_X12_byPackages_7 F (nI K) (nI n) 96 cM 96 96 4800 4800 25 (fun a b c d e f => lf_X12_byPackages_7 F (nI K) (nI n) 96 cM 96 96 4800 4800 25 k a b c d e f) (nI l) found ord it il listed = _ ∧ _
    unfold bf_X12_byPackages_7
    rw [if_neg (nI_ge (by omega) (by omega)), show (192 : Int32) * nI l = nI (192 * l) by rw [show (192 : Int32) = nI 192 from rfl, pk_mul]]
    by_cases e : l = 0
    · subst e
      rw [if_pos (show nI 0 = 0 from rfl)]
      have n0 : pkN n W 0 = 0 := Nat.zero_div 2
      have g := go (nI (192 * 0) - 192) (fun z => absurd z (Nat.lt_irrefl 0))
      rw [n0] at g
      exact g
    · have hd : nI (pkP n W l).2 / (2 : Int32) = nI (pkN n W l) := pk_div (d := 2) (by omega) (by decide) (by decide)
      rw [if_neg (show ¬ nI l = 0 from fun z => e ((nI_e0 (by omega)).mp z)), show nI l - (1 : Int32) = nI (l - 1) from pk_sub (b := 1) (by omega), nI_clamp (n := l - 1) (by omega), if_neg (gin (by omega) (by omega)), if_neg (by decide), h2 (by omega), hd]
      exact go _ (fun _ => by rw [show nI (192 * l) - (192 : Int32) = nI (192 * l - 192) from pk_sub (b := 192) (by omega), show 192 * l - 192 = 192 * (l - 1) by omega])
theorem amongX (F : Nat) {K nw l t : Nat} {mk : Nat → Int32} (hS : S ≤ 96) (hn1 : 1 ≤ n) (hnS : n ≤ S) (hK : K ≤ 24) (hl : l < K) (hnw : K * (2 * S) ≤ 32 * nw) (hnw2 : nw < 2 ^ 31) (ht : t ≤ n + pkN n W l) (hmk : ∀ x, x < 2 * S → wbit mk (l * (2 * S) + x) = (decide (x < n + pkN n W l) && !pkI n W l x)) : ∀ (d y k : Nat), y + d = t → d < k → lf_X6_packagesAmong_5 F (nI (2 * S)) (nI (K * (2 * S))) nw mk k (nI l) (nI t) (nI (y - pkL n W l y)) (nI y) = some (nI (t - pkL n W l t)) := by
  have hsz := (pk_size (W := W) hn1 l).2
  have hKb : K * (2 * S) ≤ 5000 := by
    have : K * (2 * S) ≤ 24 * 192 := Nat.mul_le_mul hK (by omega)
    omega
  have hlb : l * (2 * S) + 2 * S ≤ K * (2 * S) := by
    have : (l + 1) * (2 * S) ≤ K * (2 * S) := Nat.mul_le_mul_right _ (by omega)
    rw [Nat.add_mul, Nat.one_mul] at this
    exact this
  intro d
  induction d with
  | zero =>
    intro y k hy hk
    obtain ⟨k, rfl⟩ : ∃ z, k = z + 1 := ⟨k - 1, by omega⟩
    show bf_X6_packagesAmong_5 F (nI (2 * S)) (nI (K * (2 * S))) nw mk (fun a b c d => lf_X6_packagesAmong_5 F (nI (2 * S)) (nI (K * (2 * S))) nw mk k a b c d) (nI l) (nI t) (nI (y - pkL n W l y)) (nI y) = _
    unfold bf_X6_packagesAmong_5
    rw [if_pos (nI_le (by omega) (by omega)), show y = t by omega]
  | succ d ih =>
    intro y k hy hk
    obtain ⟨k, rfl⟩ : ∃ z, k = z + 1 := ⟨k - 1, by omega⟩
    obtain ⟨q1, q2, q3⟩ := pkL_size (n := n) (W := W) (l := l) y (by omega)
    have hh := ih (y + 1) k (by omega) (by omega)
    show bf_X6_packagesAmong_5 F (nI (2 * S)) (nI (K * (2 * S))) nw mk (fun a b c d => lf_X6_packagesAmong_5 F (nI (2 * S)) (nI (K * (2 * S))) nw mk k a b c d) (nI l) (nI t) (nI (y - pkL n W l y)) (nI y) = _
    unfold bf_X6_packagesAmong_5
    rw [if_neg (nI_ge (by omega) (by omega)), pk_mul, nI_add, get_in F mk (by omega) (by omega) (by omega) hnw2, bs, hmk y (by omega), show nI y + (1 : Int32) = nI (y + 1) from nI_add y 1]
    have lt : y < n + pkN n W l := by omega
    rw [pkL_s] at hh
    cases e : pkI n W l y with
    | true =>
      rw [e, if_pos rfl] at hh
      rw [show b01 (decide (y < n + pkN n W l) && !true) = nI 0 by simp [b01]; rfl, nI_add]
      rw [show y + 1 - (pkL n W l y + 1) = y - pkL n W l y + 0 by omega] at hh
      exact hh
    | false =>
      rw [e, if_neg (by decide)] at hh
      rw [show b01 (decide (y < n + pkN n W l) && !false) = nI 1 by simp [b01, lt]; rfl, nI_add]
      rw [show y + 1 - (pkL n W l y + 0) = y - pkL n W l y + 1 by omega] at hh
      exact hh
theorem lenX (F : Nat) {K nw p t : Nat} {x3 : Int32} {mk line : Nat → Int32} {rec24 : Int32 → Int32 → (Nat → Int32) → Option (Nat → Int32)} (hS : S ≤ 96) (hnS : n ≤ S) (hpt : p ≤ t) (ht : t ≤ 200) (ha : t - p ≤ n) (hP : Prm n li) (hli : ∀ i, i < n → line i = nI (li i)) : ∀ (d i k : Nat) (dX : Nat → Int32), i + d = t - p → d < k →
    ∃ dX', lf_X6_countLengths_39 F (nI K) (nI (2 * S)) (nI (K * (2 * S))) nw mk (nI n) S S line rec24 k (nI t) x3 (nI p) (nI i) dX = rec24 (nI (2 * p)) (x3 + (-1)) dX' ∧ (∀ j, i ≤ j → j < t - p → dX' (li j) = dX (li j) + 1) ∧ ∀ j, j < n → (j < i ∨ t - p ≤ j) → dX' (li j) = dX (li j) := by
  intro d
  induction d with
  | zero =>
    intro i k dX hi hk
    obtain ⟨k, rfl⟩ : ∃ z, k = z + 1 := ⟨k - 1, by omega⟩
    refine ⟨dX, ?_, fun j h1 h2 => by omega, fun _ _ _ => rfl⟩
    show bf_X6_countLengths_39 F (nI K) (nI (2 * S)) (nI (K * (2 * S))) nw mk (nI n) S S line rec24 (fun a b c d e => lf_X6_countLengths_39 F (nI K) (nI (2 * S)) (nI (K * (2 * S))) nw mk (nI n) S S line rec24 k a b c d e) (nI t) x3 (nI p) (nI i) dX = _
    unfold bf_X6_countLengths_39
    rw [pk_sub hpt, if_pos (nI_le (by omega) (by omega)), show (2 : Int32) * nI p = nI (2 * p) by rw [show (2 : Int32) = nI 2 from rfl, pk_mul]]
  | succ d ih =>
    intro i k dX hi hk
    obtain ⟨k, rfl⟩ : ∃ z, k = z + 1 := ⟨k - 1, by omega⟩
    have l1 := hP.1 i (by omega)
    obtain ⟨dX', r1, r2, r3⟩ := ih (i + 1) k (upd dX (li i) (dX (li i) + 1)) (by omega) (by omega)
    refine ⟨dX', ?_, fun j h1 h2 => ?_, fun j h1 h2 => ?_⟩
    · show bf_X6_countLengths_39 F (nI K) (nI (2 * S)) (nI (K * (2 * S))) nw mk (nI n) S S line rec24 (fun a b c d e => lf_X6_countLengths_39 F (nI K) (nI (2 * S)) (nI (K * (2 * S))) nw mk (nI n) S S line rec24 k a b c d e) (nI t) x3 (nI p) (nI i) dX = _
      unfold bf_X6_countLengths_39
      rw [pk_sub hpt, if_neg (nI_ge (by omega) (by omega)), if_neg (nI_ge (by omega) (by omega)), nI_clamp (n := i) (by omega), if_neg (gin (by omega) (by omega)), hli i (by omega), nI_clamp (n := li i) (by omega), if_neg (gin (by omega) (by omega)), if_neg (gin (by omega) (by omega)), show nI i + (1 : Int32) = nI (i + 1) from nI_add i 1]
      exact r1
    · by_cases q : j = i
      · subst q; rw [r3 j (by omega) (by omega), pk_us]
      · rw [r2 j (by omega) h2, pk_un (fun z => q (hP.2 j i (by omega) (by omega) z))]
    · rw [r3 j h1 (by omega), pk_un (fun z => by have := hP.2 j i h1 (by omega) z; omega)]
theorem lenM (F : Nat) {l t : Nat} {most : Int32} {cM ord it il ls : Nat → Int32} {rec281 : Int32 → Int32 → (Nat → Int32) → (Nat → Int32) → (Nat → Int32) → (Nat → Int32) → (Nat → Int32) → Option ((Nat → Int32) × (Nat → Int32) × (Nat → Int32) × (Nat → Int32) × (Nat → Int32))} (hn1 : 1 ≤ n) (hn96 : n ≤ 96) (hl : l < 24) (ht : t ≤ n + pkN n W l) (hP : Prm n li) (ho : ∀ i, i < n → ord i = nI (li i)) (hil : ∀ x, x < n + pkN n W l → il (192 * l + x) = b01 (pkI n W l x)) : ∀ (d y k : Nat) (fM : Nat → Int32), y + d = t → d < k →
    ∃ fM', lf_X12_byPackages_290 F most (nI n) 96 cM 96 96 4800 4800 25 rec281 k (nI t) (nI l) (nI (pkL n W l y)) (nI y) fM ord it il ls = rec281 (nI (2 * (t - pkL n W l t))) (nI l + (-1)) fM' ord it il ls ∧ (∀ j, pkL n W l y ≤ j → j < pkL n W l t → fM' (li j) = fM (li j) + 1) ∧ ∀ j, j < n → (j < pkL n W l y ∨ pkL n W l t ≤ j) → fM' (li j) = fM (li j) := by
  have hsz := (pk_size (W := W) hn1 l).2
  intro d
  induction d with
  | zero =>
    intro y k fM hy hk
    obtain ⟨k, rfl⟩ : ∃ z, k = z + 1 := ⟨k - 1, by omega⟩
    obtain rfl : y = t := by omega
    refine ⟨fM, ?_, fun j h1 h2 => by omega, fun _ _ _ => rfl⟩
    show bf_X12_byPackages_290 F most (nI n) 96 cM 96 96 4800 4800 25 rec281 (fun a b c d e f g h i => lf_X12_byPackages_290 F most (nI n) 96 cM 96 96 4800 4800 25 rec281 k a b c d e f g h i) (nI y) (nI l) (nI (pkL n W l y)) (nI y) fM ord it il ls = _
    unfold bf_X12_byPackages_290
    rw [if_pos (nI_le (Nat.le_refl _) (by omega)), pk_sub (pkL_size (n := n) (W := W) (l := l) y ht).2.1, show (2 : Int32) * nI (y - pkL n W l y) = nI (2 * (y - pkL n W l y)) by rw [show (2 : Int32) = nI 2 from rfl, pk_mul]]
  | succ d ih =>
    intro y k fM hy hk
    obtain ⟨k, rfl⟩ : ∃ z, k = z + 1 := ⟨k - 1, by omega⟩
    obtain ⟨q1, q2, q3⟩ := pkL_size (n := n) (W := W) (l := l) y (by omega)
    have um : lf_X12_byPackages_290 F most (nI n) 96 cM 96 96 4800 4800 25 rec281 (k + 1) (nI t) (nI l) (nI (pkL n W l y)) (nI y) fM ord it il ls = bf_X12_byPackages_290 F most (nI n) 96 cM 96 96 4800 4800 25 rec281 (fun a b c d e f g h i => lf_X12_byPackages_290 F most (nI n) 96 cM 96 96 4800 4800 25 rec281 k a b c d e f g h i) (nI t) (nI l) (nI (pkL n W l y)) (nI y) fM ord it il ls := rfl
    rw [um]
    unfold bf_X12_byPackages_290
    rw [if_neg (nI_ge (by omega) (by omega)), show (192 : Int32) * nI l + nI y = nI (192 * l + y) by rw [show (192 : Int32) = nI 192 from rfl, pk_mul, nI_add], nI_clamp (n := 192 * l + y) (by omega), if_neg (gin (by omega) (by omega)), hil y (by omega), show nI y + (1 : Int32) = nI (y + 1) from nI_add y 1]
    cases e : pkI n W l y with
    | false =>
      rw [if_pos (show b01 false = 0 from rfl)]
      have es : pkL n W l (y + 1) = pkL n W l y := by rw [pkL_s, e]; rfl
      have := ih (y + 1) k fM (by omega) (by omega)
      rw [es] at this
      exact this
    | true =>
      have hL := ((pkI_iff y).mp e).1
      have l1 := hP.1 _ hL
      have es : pkL n W l (y + 1) = pkL n W l y + 1 := by rw [pkL_s, e]; rfl
      rw [if_neg (show ¬ b01 true = 0 by decide), nI_clamp (n := pkL n W l y) (by omega), if_neg (gin (by omega) (by omega)), ho _ hL, nI_clamp (n := li (pkL n W l y)) (by omega), if_neg (gin (by omega) (by omega)), if_neg (gin (by omega) (by omega)), show nI (pkL n W l y) + (1 : Int32) = nI (pkL n W l (y + 1)) by rw [es]; exact nI_add _ 1]
      obtain ⟨fM', r1, r2, r3⟩ := ih (y + 1) k (upd fM (li (pkL n W l y)) (fM (li (pkL n W l y)) + 1)) (by omega) (by omega)
      have mo : pkL n W l (y + 1) ≤ pkL n W l t := LC_mono (by omega)
      refine ⟨fM', r1, fun j h1 h2 => ?_, fun j h1 h2 => ?_⟩
      · have jn : j < n := by have := (pkL_size (n := n) (W := W) (l := l) t ht).1; omega
        by_cases q : j = pkL n W l y
        · subst q; rw [r3 _ hL (by omega), pk_us]
        · rw [r2 j (by omega) h2, pk_un (fun z => q (hP.2 j _ jn hL z))]
      · rw [r3 j h1 (by omega), pk_un (fun z => by have := hP.2 j _ h1 hL z; omega)]
end
