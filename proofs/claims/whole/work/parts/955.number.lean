/-! Reading numbers and lengths. -/
theorem wb2 (words : Nat → Int32) (i : Nat) : ∃ b, b < 2 ∧ b01 (wbit words i) = nI b := by
  cases wbit words i with
  | true => exact ⟨1, by decide, rfl⟩
  | false => exact ⟨0, by decide, rfl⟩
theorem num_loop (F : Nat) {nb i W : Nat} {bits words : Nat → Int32} {pl : Int32} (hnb : nb ≤ 6000) (hW : W ≤ 10) (hi : i + W ≤ nb) (hbits : ∀ i, i < nb → bits i = b01 (wbit words i)) : ∀ (d c k k' v : Nat), c + d = W → d < k → d < k' → v < 2 ^ c →
    ∃ v', v' < 2 ^ W ∧ lf_X8_readNumber_29 F (nI nb) 188 words k (nI W) (nI v) (nI c) (nI i) pl = some (nI v', nI (i + W), pl) ∧ lf_X12_number_19 F (nI nb) 6000 bits k' (nI W) (nI v) (nI c) (nI (i + c)) = some (nI v', nI (i + W)) := by
  intro d
  induction d with
  | zero =>
    intro c k k' v hc hk hk' hv
    obtain ⟨k, rfl⟩ : ∃ q, k = q + 1 := ⟨k - 1, by omega⟩
    obtain ⟨k', rfl⟩ : ∃ q, k' = q + 1 := ⟨k' - 1, by omega⟩
    obtain rfl : c = W := by omega
    refine ⟨v, hv, ?_, ?_⟩
    · show bf_X8_readNumber_29 F (nI nb) 188 words (fun a b c d e => lf_X8_readNumber_29 F (nI nb) 188 words k a b c d e) (nI c) (nI v) (nI c) (nI i) pl = _
      unfold bf_X8_readNumber_29
      rw [if_pos (nI_le (Nat.le_refl _) (by omega)), nI_add]
    · show bf_X12_number_19 F (nI nb) 6000 bits (fun a b c d => lf_X12_number_19 F (nI nb) 6000 bits k' a b c d) (nI c) (nI v) (nI c) (nI (i + c)) = _
      unfold bf_X12_number_19
      rw [if_pos (nI_le (Nat.le_refl _) (by omega))]
  | succ d ih =>
    intro c k k' v hc hk hk' hv
    obtain ⟨k, rfl⟩ : ∃ q, k = q + 1 := ⟨k - 1, by omega⟩
    obtain ⟨k', rfl⟩ : ∃ q, k' = q + 1 := ⟨k' - 1, by omega⟩
    obtain ⟨b, hb, hbe⟩ := wb2 words (i + c)
    have h2 : 2 * v + b < 2 ^ (c + 1) := by rw [Nat.pow_succ]; omega
    obtain ⟨v', v1, v2, v3⟩ := ih (c + 1) k k' (2 * v + b) (by omega) (by omega) (by omega) h2
    have m2 : (2 : Int32) * nI v + nI b = nI (2 * v + b) := by rw [show (2 : Int32) = nI 2 from rfl, pk_mul, nI_add]
    refine ⟨v', v1, ?_, ?_⟩
    · show bf_X8_readNumber_29 F (nI nb) 188 words (fun a b c d e => lf_X8_readNumber_29 F (nI nb) 188 words k a b c d e) (nI W) (nI v) (nI c) (nI i) pl = _
      unfold bf_X8_readNumber_29
      rw [if_neg (nI_ge (by omega) (by omega)), nI_add, get_in F words (by omega) (by omega) (by omega) (by decide), bs, hbe, m2, show nI c + (1 : Int32) = nI (c + 1) from nI_add c 1]
      exact v2
    · show bf_X12_number_19 F (nI nb) 6000 bits (fun a b c d => lf_X12_number_19 F (nI nb) 6000 bits k' a b c d) (nI W) (nI v) (nI c) (nI (i + c)) = _
      unfold bf_X12_number_19 bf_X12_number_44
      rw [if_neg (nI_ge (by omega) (by omega)), if_neg (nI_in (by omega) (by omega)), nI_clamp (by omega), hbits (i + c) (by omega), hbe, show nI c + (1 : Int32) = nI (c + 1) from nI_add c 1, show nI (i + c) + (1 : Int32) = nI (i + (c + 1)) from nI_add (i + c) 1]
      have hb' : b = 0 ∨ b = 1 := by omega
      rcases hb' with rfl | rfl
      · rw [if_pos (show nI 0 = 0 from rfl), show (2 : Int32) * nI v + (0 : Int32) = nI (2 * v + 0) from m2]
        exact v3
      · rw [if_neg (by decide), show (2 : Int32) * nI v + (1 : Int32) = nI (2 * v + 1) from m2]
        exact v3
theorem num_ok (F : Nat) {nb i W : Nat} {bits words : Nat → Int32} (pl : Int32) (hF : 100 < F) (hnb : nb ≤ 6000) (hW : W ≤ 10) (hi : i + W ≤ nb) (hbits : ∀ i, i < nb → bits i = b01 (wbit words i)) :
    ∃ v, v < 2 ^ W ∧ fn_X8_readNumber F (nI nb) 188 words (nI i) pl (nI W) = some (nI v, nI (i + W), pl) ∧ fn_X12_number F (nI nb) 6000 bits (nI i) (nI W) = some (nI v, nI (i + W)) := by
  obtain ⟨v, v1, v2, v3⟩ := num_loop F (pl := pl) hnb hW hi hbits W 0 F F 0 (by omega) (by omega) (by omega) (by decide)
  refine ⟨v, v1, ?_, ?_⟩
  · unfold fn_X8_readNumber bf_X8_readNumber_0
    rw [pk_sub (by omega), if_pos (nI_le (by omega) (by omega))]
    exact v2
  · unfold fn_X12_number bf_X12_number_0
    rw [pk_sub (by omega), if_pos (nI_le (by omega) (by omega))]
    exact v3
theorem num_no (F : Nat) {nb i W : Nat} (bits words : Nat → Int32) (pl : Int32) (hnb : nb ≤ 6000) (hW : W ≤ 10) (hi0 : i ≤ nb) (hi : nb < i + W) :
    fn_X8_readNumber F (nI nb) 188 words (nI i) pl (nI W) = some (-2, nI i, nI nb) ∧ fn_X12_number F (nI nb) 6000 bits (nI i) (nI W) = some (-1, nI i) := by
  constructor
  · unfold fn_X8_readNumber bf_X8_readNumber_0
    rw [pk_sub hi0, if_neg (nI_ge (by omega) (by omega))]
    rfl
  · unfold fn_X12_number bf_X12_number_0
    rw [pk_sub hi0, if_neg (nI_ge (by omega) (by omega))]
theorem zfill_loop (F : Nat) {S nb n : Nat} {most pl at0 : Int32} {bits : Nat → Int32} {rec2 : Int32 → Int32 → Int32 → (Nat → Int32) → Option (Int32 × Int32 × Int32 × (Nat → Int32))} (hS : S ≤ 96) (hn : n < 64) : ∀ (d c k s : Nat) (lm : Nat → Int32), c + d = n + 3 → s + d ≤ S → d < k →
    ∃ lm' : Nat → Int32, lf_X12_readLengths_121 F (nI S) most (nI nb) 96 6000 bits rec2 k (nI s) (nI n) (nI c) pl at0 lm = rec2 (nI (s + d)) pl at0 lm' ∧ (∀ x, x < s → lm' x = lm x) ∧ ∀ x, s ≤ x → x < s + d → lm' x = 0 := by
  intro d
  induction d with
  | zero =>
    intro c k s lm hc hs hk
    obtain ⟨k, rfl⟩ : ∃ q, k = q + 1 := ⟨k - 1, by omega⟩
    refine ⟨lm, ?_, fun _ _ => rfl, fun x h1 h2 => by omega⟩
    show bf_X12_readLengths_121 F (nI S) most (nI nb) 96 6000 bits rec2 (fun a b c d e f => lf_X12_readLengths_121 F (nI S) most (nI nb) 96 6000 bits rec2 k a b c d e f) (nI s) (nI n) (nI c) pl at0 lm = _
    unfold bf_X12_readLengths_121
    rw [show nI n + (3 : Int32) = nI (n + 3) from nI_add n 3, if_pos (nI_le (by omega) (by omega))]
    rfl
  | succ d ih =>
    intro c k s lm hc hs hk
    obtain ⟨k, rfl⟩ : ∃ q, k = q + 1 := ⟨k - 1, by omega⟩
    obtain ⟨lm', a1, a2, a3⟩ := ih (c + 1) k (s + 1) (upd lm s 0) (by omega) (by omega) (by omega)
    refine ⟨lm', ?_, fun x hx => ?_, fun x h1 h2 => ?_⟩
    · show bf_X12_readLengths_121 F (nI S) most (nI nb) 96 6000 bits rec2 (fun a b c d e f => lf_X12_readLengths_121 F (nI S) most (nI nb) 96 6000 bits rec2 k a b c d e f) (nI s) (nI n) (nI c) pl at0 lm = _
      unfold bf_X12_readLengths_121
      rw [show nI n + (3 : Int32) = nI (n + 3) from nI_add n 3, if_neg (nI_ge (by omega) (by omega)), if_neg (nI_in (by omega) (by decide)), nI_clamp (by omega), show nI s + (1 : Int32) = nI (s + 1) from nI_add s 1, show nI c + (1 : Int32) = nI (c + 1) from nI_add c 1, show s + (d + 1) = s + 1 + d by omega]
      exact a1
    · rw [a2 x (by omega), pk_un (by omega)]
    · by_cases e : x = s
      · subst e; rw [a2 x (by omega), pk_us]
      · exact a3 x (by omega) (by omega)
/-- the lengths are read, or both fail alike -/
def LOut (S K nb : Nat) (pl : Int32) (x : Option (Int32 × Int32 × Int32 × (Nat → Int32))) (y : Option (Int32 × Int32 × Int32 × (Nat → Int32))) : Prop :=
  (∃ (j : Nat) (len : Nat → Nat) (lx lm : Nat → Int32), j ≤ nb ∧ x = some (0, nI j, pl, lx) ∧ y = some (0, pl, nI j, lm) ∧ ∀ s, s < S → len s ≤ K ∧ lx s = nI (len s) ∧ lm s = nI (len s)) ∨
  (∃ (a p : Int32), ¬ 0 ≤ a ∧ (∃ z1 z2, x = some (a, z1, p, z2)) ∧ ∃ z1 z2, y = some (a, p, z1, z2))
theorem lens_read (F : Nat) {S K nb : Nat} {bits words : Nat → Int32} {pl : Int32} (hF : 1000 < F) (hS : S ≤ 96) (hK : K ≤ 24) (hnb : nb ≤ 6000) (hbits : ∀ i, i < nb → bits i = b01 (wbit words i)) : ∀ (e s i k k' : Nat) (len : Nat → Nat) (lx lm : Nat → Int32), s + e = S → e < k → e < k' → i ≤ nb → (∀ x, x < s → len x ≤ K ∧ lx x = nI (len x) ∧ lm x = nI (len x)) → (∀ x, s ≤ x → x < S → lx x = 0) →
    LOut S K nb pl (lf_X8_readLengths_10 F (nI nb) 188 words (nI S) (nI K) S k (nI s) (nI i) pl lx) (lf_X12_readLengths_2 F (nI S) (nI K) (nI nb) 96 6000 bits k' (nI s) pl (nI i) lm) := by
  intro e
  induction e using Nat.strongRecOn with
  | _ e ih =>
    intro s i k k' len lx lm hs hk hk' hi h1 h2
    obtain ⟨k, rfl⟩ : ∃ q, k = q + 1 := ⟨k - 1, by omega⟩
    obtain ⟨k', rfl⟩ : ∃ q, k' = q + 1 := ⟨k' - 1, by omega⟩
    have ux : lf_X8_readLengths_10 F (nI nb) 188 words (nI S) (nI K) S (k + 1) (nI s) (nI i) pl lx = bf_X8_readLengths_10 F (nI nb) 188 words (nI S) (nI K) S (fun a b c d => lf_X8_readLengths_10 F (nI nb) 188 words (nI S) (nI K) S k a b c d) (nI s) (nI i) pl lx := rfl
    have um : lf_X12_readLengths_2 F (nI S) (nI K) (nI nb) 96 6000 bits (k' + 1) (nI s) pl (nI i) lm = bf_X12_readLengths_2 F (nI S) (nI K) (nI nb) 96 6000 bits (fun a b c d => lf_X12_readLengths_2 F (nI S) (nI K) (nI nb) 96 6000 bits k' a b c d) (nI s) pl (nI i) lm := rfl
    rw [ux, um]
    unfold bf_X8_readLengths_10 bf_X12_readLengths_2
    by_cases he : e = 0
    · rw [if_pos (nI_le (by omega) (by omega)), if_pos (nI_le (by omega) (by omega))]
      exact Or.inl ⟨i, len, lx, lm, hi, rfl, rfl, fun x hx => h1 x (by omega)⟩
    rw [if_neg (nI_ge (by omega) (by omega)), if_neg (nI_ge (by omega) (by omega)), show (5 : Int32) = nI 5 from rfl, show (6 : Int32) = nI 6 from rfl]
    by_cases hn5 : nb < i + 5
    · obtain ⟨n1, n2⟩ := num_no F bits words pl hnb (W := 5) (by decide) hi hn5
      rw [n1, bs, n2, bs, if_neg (show ¬ (0 : Int32) ≤ -2 by decide), if_pos rfl]
      exact Or.inr ⟨-2, nI nb, by decide, ⟨_, _, rfl⟩, ⟨_, _, rfl⟩⟩
    obtain ⟨v, v1, v2, v3⟩ := num_ok F (W := 5) pl (by omega) hnb (by decide) (by omega) hbits (i := i)
    have v32 : v < 32 := v1
    rw [v2, bs, v3, bs, if_pos (nI_pos' (by omega)), if_neg (nI_nm1 (by omega))]
    by_cases h31 : v = 31
    · subst h31
      rw [if_pos (show nI 31 = 31 from rfl), if_pos (show (31 : Int32) ≤ nI 31 by decide)]
      by_cases hn6 : nb < i + 5 + 6
      · obtain ⟨n1, n2⟩ := num_no F bits words pl hnb (W := 6) (by decide) (i := i + 5) (by omega) hn6
        rw [n1, bs, n2, bs, if_neg (show ¬ (0 : Int32) ≤ -2 by decide), if_pos rfl]
        exact Or.inr ⟨-2, nI nb, by decide, ⟨_, _, rfl⟩, ⟨_, _, rfl⟩⟩
      obtain ⟨g, g1, g2, g3⟩ := num_ok F (W := 6) pl (by omega) hnb (by decide) (by omega) hbits (i := i + 5)
      have g64 : g < 64 := g1
      rw [g2, bs, g3, bs, if_pos (nI_pos' (by omega)), if_neg (nI_nm1 (by omega)), show nI g + (3 : Int32) = nI (g + 3) from nI_add g 3, nI_add, show nI s + nI g + (3 : Int32) = nI (s + (g + 3)) by rw [nI_add, show (3 : Int32) = nI 3 from rfl, nI_add, Nat.add_assoc]]
      by_cases hfit : s + (g + 3) ≤ S
      · obtain ⟨lm', z1, z2, z3⟩ := zfill_loop F (nb := nb) (n := g) (most := nI K) (pl := pl) (at0 := nI (i + 5 + 6)) (bits := bits) (rec2 := fun a b c d => lf_X12_readLengths_2 F (nI S) (nI K) (nI nb) 96 6000 bits k' a b c d) hS g64 (g + 3) 0 F s lm (by omega) (by omega) (by omega)
        rw [if_pos (nI_le hfit (by omega)), if_pos (nI_le hfit (by omega)), show lf_X12_readLengths_121 F (nI S) (nI K) (nI nb) 96 6000 bits (fun a b c d => lf_X12_readLengths_2 F (nI S) (nI K) (nI nb) 96 6000 bits k' a b c d) F (nI s) (nI g) 0 pl (nI (i + 5 + 6)) lm = _ from z1]
        exact ih (e - (g + 3)) (by omega) (s + (g + 3)) (i + 5 + 6) k k' (fun x => if x < s then len x else 0) lx lm' (by omega) (by omega) (by omega) (by omega) (fun x hx => by
          by_cases q : x < s
          · rw [if_pos q, z2 x q]; exact h1 x q
          · rw [if_neg q, z3 x (by omega) hx]; exact ⟨by omega, h2 x (by omega) (by omega), rfl⟩) (fun x hx hx2 => h2 x (by omega) hx2)
      · rw [if_neg (nI_ge (by omega) (by omega)), if_neg (nI_ge (by omega) (by omega))]
        exact Or.inr ⟨-7, nI i, by decide, ⟨_, _, rfl⟩, ⟨_, _, rfl⟩⟩
    · rw [if_neg (show ¬ nI v = 31 from fun z => h31 ((nI_eq (b := 31) (by omega) (by decide)).mp z)), if_neg (show ¬ (31 : Int32) ≤ nI v from nI_ge (b := 31) (by omega) (by omega))]
      by_cases hvK : v ≤ K
      · rw [if_pos (nI_le hvK (by omega)), if_pos (nI_le hvK (by omega)), if_neg (nI_in (by omega) (by omega)), if_neg (nI_in (by omega) (by omega)), nI_clamp (by omega), show nI s + (1 : Int32) = nI (s + 1) from nI_add s 1]
        exact ih (e - 1) (by omega) (s + 1) (i + 5) k k' (fun x => if x = s then v else len x) (upd lx s (nI v)) (upd lm s (nI v)) (by omega) (by omega) (by omega) (by omega) (fun x hx => by
          by_cases q : x = s
          · subst q; rw [if_pos rfl, pk_us, pk_us]; exact ⟨hvK, rfl, rfl⟩
          · rw [if_neg q, pk_un q, pk_un q]; exact h1 x (by omega)) (fun x hx hx2 => by rw [pk_un (by omega)]; exact h2 x (by omega) hx2)
      · rw [if_neg (nI_ge (by omega) (by omega)), if_neg (nI_ge (by omega) (by omega))]
        exact Or.inr ⟨-6, nI i, by decide, ⟨_, _, rfl⟩, ⟨_, _, rfl⟩⟩
