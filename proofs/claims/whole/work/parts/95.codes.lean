/-! All codes: the class's forge, the reference's makeCodes. -/
theorem stA_dvd {len : Nat → Nat} {p : Nat → Bool} {d : Nat} : ∀ n, (∀ s, s < n → 0 < len s → p s = true → d ∣ 2 ^ (24 - len s)) → d ∣ stA len p n
  | 0, _ => Nat.dvd_zero _
  | n + 1, h => by
    unfold stA
    refine Nat.dvd_add (stA_dvd n (fun s hs => h s (by omega))) ?_
    by_cases e : 0 < len n ∧ p n = true
    · rw [if_pos e]; exact h n (by omega) e.1 e.2
    · rw [if_neg e]; exact Nat.dvd_zero _
theorem even_canon {S : Nat} {len : Nat → Nat} {s : Nat} (hK : ∀ s, s < S → len s ≤ 24) (hs : s < S) : 2 ^ (24 - len s) ∣ stO false S len s :=
  stA_dvd S fun x hx _ hb => by
    have h : len x < len s ∨ len x = len s ∧ x < s := by simpa [bef] using hb
    exact Nat.pow_dvd_pow 2 (by have := hK s hs; have := hK x hx; omega)
/-- those before symbol i of length L -/
def pcan (len : Nat → Nat) (L i : Nat) : Nat → Bool := fun x => decide (len x < L ∨ len x = L ∧ x < i)
def pord (i : Nat) : Nat → Bool := fun x => decide (x < i)
theorem stO_can {S : Nat} {len : Nat → Nat} {s : Nat} : stO false S len s = stA len (pcan len (len s) s) S := rfl
theorem stO_ord {S : Nat} {len : Nat → Nat} {s : Nat} : stO true S len s = stA len (pord s) S := rfl
theorem sum_ins {S : Nat} {len : Nat → Nat} {p : Nat → Bool} {s : Nat} (hs : s < S) (hl : 0 < len s) (hp : p s = false) : stA len p S + 2 ^ (24 - len s) ≤ stA len (fun _ => true) S := by
  have := stA_mono (len := len) (p := ins p s) (q := fun _ => true) (fun _ _ => rfl) S
  rw [stA_ins hl hp, if_pos hs] at this
  exact this
theorem forgeOrd_loop (F : Nat) {S K : Nat} {len : Nat → Nat} {w : Nat → Int32} (hS : S ≤ 96) (hK : K ≤ 24) (hF : 24 < F) (hw : ∀ s, s < S → len s ≤ K ∧ w s = nI (len s)) (hsum : stA len (fun _ => true) S ≤ 16777216) (hdv : ∀ s, s < S → 0 < len s → 2 ^ (24 - len s) ∣ stO true S len s) : ∀ (d i k E N : Nat) (pre : Nat → Nat × Nat) (below codes : Nat → Int32), i + d = S → d < k → N ≤ S + K → Fg true S K len (pord i) E N pre below codes →
    ∃ (E' N' : Nat) (pre' : Nat → Nat × Nat) (below' codes' : Nat → Int32), lf_X10_forgeInOrder_4 F (nI S) (nI K) S w S (2 * (S + K)) k (nI E) (nI i) (nI N) codes below = some (nI N', codes', below') ∧ Fg true S K len (fun _ => true) E' N' pre' below' codes' ∧ N' ≤ S + K := by
  intro d
  induction d with
  | zero =>
    intro i k E N pre below codes hi hk hN h
    obtain ⟨k, rfl⟩ : ∃ q, k = q + 1 := ⟨k - 1, by omega⟩
    refine ⟨E, N, pre, below, codes, ?_, h.congr (fun s hs _ => by simp [pord]; omega), hN⟩
    show bf_X10_forgeInOrder_4 F (nI S) (nI K) S w S (2 * (S + K)) (fun a b c d e => lf_X10_forgeInOrder_4 F (nI S) (nI K) S w S (2 * (S + K)) k a b c d e) (nI E) (nI i) (nI N) codes below = _
    unfold bf_X10_forgeInOrder_4
    rw [if_pos (nI_le (by omega) (by omega))]
  | succ d ih =>
    intro i k E N pre below codes hi hk hN h
    obtain ⟨k, rfl⟩ : ∃ q, k = q + 1 := ⟨k - 1, by omega⟩
    obtain ⟨w1, w2⟩ := hw i (by omega)
    show ∃ (E' N' : Nat) (pre' : Nat → Nat × Nat) (below' codes' : Nat → Int32), bf_X10_forgeInOrder_4 F (nI S) (nI K) S w S (2 * (S + K)) (fun a b c d e => lf_X10_forgeInOrder_4 F (nI S) (nI K) S w S (2 * (S + K)) k a b c d e) (nI E) (nI i) (nI N) codes below = _ ∧ _
    unfold bf_X10_forgeInOrder_4
    rw [if_neg (nI_ge (by omega) (by omega)), if_neg (nI_in (by omega) (by omega)), nI_clamp (by omega), w2, show nI i + (1 : Int32) = nI (i + 1) from nI_add i 1]
    by_cases e : len i = 0
    · rw [if_pos ((le0 (by omega)).mpr e)]
      exact ih (i + 1) k E N pre below codes (by omega) (by omega) hN (h.congr (fun s hs hl => by
        have : s ≠ i := fun z => by subst z; omega
        simp [pord]; omega))
    · have hp : pord i i = false := by simp [pord]
      have hE : E = stA len (pord i) S := h.1
      have hb := sum_ins (S := S) (len := len) (s := i) (by omega) (Nat.pos_of_ne_zero e) hp
      obtain ⟨N', pre', below', codes', r1, r2, r3⟩ := forgeOne_eq F hS hK hF h (s := i) (w := w) (by omega) w2 (Nat.pos_of_ne_zero e) w1 hp (stO_ord.trans hE.symm) (by rw [hE]; exact hdv i (by omega) (Nat.pos_of_ne_zero e)) (by rw [hE]; omega)
      rw [if_neg (fun z => e ((le0 (by omega)).mp z)), r1, bs]
      exact ih (i + 1) k _ N' pre' below' codes' (by omega) (by omega) r3 (r2.congr (fun s hs _ => by
        by_cases q : s = i
        · subst q; simp [ins, pord]
        · simp [ins, pord, q]; omega))
theorem forgeCan_in (F : Nat) {S K L : Nat} {len : Nat → Nat} {w : Nat → Int32} {rec4 : Int32 → Int32 → Int32 → (Nat → Int32) → (Nat → Int32) → Option (Int32 × (Nat → Int32) × (Nat → Int32))} (hS : S ≤ 96) (hK : K ≤ 24) (hF : 24 < F) (hL : 0 < L) (hLK : L ≤ K) (hw : ∀ s, s < S → len s ≤ K ∧ w s = nI (len s)) (hsum : stA len (fun _ => true) S ≤ 16777216) : ∀ (d i k E N : Nat) (pre : Nat → Nat × Nat) (below codes : Nat → Int32), i + d = S → d < k → N ≤ S + K → Fg false S K len (pcan len L i) E N pre below codes →
    ∃ (E' N' : Nat) (pre' : Nat → Nat × Nat) (below' codes' : Nat → Int32), lf_X10_forgeCanonical_14 F (nI S) (nI K) S w S (2 * (S + K)) rec4 k (nI E) (nI L) (nI i) (nI N) codes below = rec4 (nI E') (nI (L + 1)) (nI N') codes' below' ∧ Fg false S K len (pcan len (L + 1) 0) E' N' pre' below' codes' ∧ N' ≤ S + K := by
  intro d
  induction d with
  | zero =>
    intro i k E N pre below codes hi hk hN h
    obtain ⟨k, rfl⟩ : ∃ q, k = q + 1 := ⟨k - 1, by omega⟩
    refine ⟨E, N, pre, below, codes, ?_, h.congr (fun s hs _ => decide_eq_decide.mpr (by omega)), hN⟩
    show bf_X10_forgeCanonical_14 F (nI S) (nI K) S w S (2 * (S + K)) rec4 (fun a b c d e f => lf_X10_forgeCanonical_14 F (nI S) (nI K) S w S (2 * (S + K)) rec4 k a b c d e f) (nI E) (nI L) (nI i) (nI N) codes below = _
    unfold bf_X10_forgeCanonical_14
    rw [if_pos (nI_le (by omega) (by omega)), show nI L + (1 : Int32) = nI (L + 1) from nI_add L 1]
  | succ d ih =>
    intro i k E N pre below codes hi hk hN h
    obtain ⟨k, rfl⟩ : ∃ q, k = q + 1 := ⟨k - 1, by omega⟩
    obtain ⟨w1, w2⟩ := hw i (by omega)
    show ∃ (E' N' : Nat) (pre' : Nat → Nat × Nat) (below' codes' : Nat → Int32), bf_X10_forgeCanonical_14 F (nI S) (nI K) S w S (2 * (S + K)) rec4 (fun a b c d e f => lf_X10_forgeCanonical_14 F (nI S) (nI K) S w S (2 * (S + K)) rec4 k a b c d e f) (nI E) (nI L) (nI i) (nI N) codes below = _ ∧ _
    unfold bf_X10_forgeCanonical_14
    rw [if_neg (nI_ge (by omega) (by omega)), if_neg (nI_in (by omega) (by omega)), nI_clamp (by omega), w2, show nI i + (1 : Int32) = nI (i + 1) from nI_add i 1]
    by_cases e : len i = L
    · have hp : pcan len L i i = false := by simp [pcan]; omega
      have hE : E = stA len (pcan len L i) S := h.1
      have hs : stO false S len i = E := by rw [stO_can, e, hE]
      have hb := sum_ins (S := S) (len := len) (s := i) (by omega) (by omega) hp
      obtain ⟨N', pre', below', codes', r1, r2, r3⟩ := forgeOne_eq F hS hK hF h (s := i) (w := w) (by omega) w2 (by omega) w1 hp hs (by rw [← hs]; exact even_canon (fun s hs => by have := (hw s hs).1; omega) (by omega)) (by rw [hE]; omega)
      rw [if_pos (by rw [e]), r1, bs]
      exact ih (i + 1) k _ N' pre' below' codes' (by omega) (by omega) r3 (r2.congr (fun s hs _ => by
        by_cases q : s = i
        · subst q; simp [ins, pcan, e]
        · rw [ins_o q]; exact decide_eq_decide.mpr (by omega)))
    · rw [if_neg (fun z => e ((nI_eq (by omega) (by omega)).mp z))]
      exact ih (i + 1) k E N pre below codes (by omega) (by omega) hN (h.congr (fun s hs hl => by
        by_cases q : s = i
        · subst q; simp [pcan, e]
        · exact decide_eq_decide.mpr (by omega)))
theorem forgeCan_loop (F : Nat) {S K : Nat} {len : Nat → Nat} {w : Nat → Int32} (hS : S ≤ 96) (hK : K ≤ 24) (hF : 96 < F) (hw : ∀ s, s < S → len s ≤ K ∧ w s = nI (len s)) (hsum : stA len (fun _ => true) S ≤ 16777216) : ∀ (d L k E N : Nat) (pre : Nat → Nat × Nat) (below codes : Nat → Int32), 0 < L → L + d = K + 1 → d < k → N ≤ S + K → Fg false S K len (pcan len L 0) E N pre below codes →
    ∃ (E' N' : Nat) (pre' : Nat → Nat × Nat) (below' codes' : Nat → Int32), lf_X10_forgeCanonical_4 F (nI S) (nI K) S w S (2 * (S + K)) k (nI E) (nI L) (nI N) codes below = some (nI N', codes', below') ∧ Fg false S K len (fun _ => true) E' N' pre' below' codes' ∧ N' ≤ S + K := by
  intro d
  induction d with
  | zero =>
    intro L k E N pre below codes hL0 hi hk hN h
    obtain ⟨k, rfl⟩ : ∃ q, k = q + 1 := ⟨k - 1, by omega⟩
    refine ⟨E, N, pre, below, codes, ?_, h.congr (fun s hs _ => by have := (hw s hs).1; simp [pcan]; omega), hN⟩
    show bf_X10_forgeCanonical_4 F (nI S) (nI K) S w S (2 * (S + K)) (fun a b c d e => lf_X10_forgeCanonical_4 F (nI S) (nI K) S w S (2 * (S + K)) k a b c d e) (nI E) (nI L) (nI N) codes below = _
    unfold bf_X10_forgeCanonical_4
    rw [if_pos (nI_lt (by omega) (by omega))]
  | succ d ih =>
    intro L k E N pre below codes hL0 hi hk hN h
    obtain ⟨k, rfl⟩ : ∃ q, k = q + 1 := ⟨k - 1, by omega⟩
    obtain ⟨E', N', pre', below', codes', r1, r2, r3⟩ := forgeCan_in F (rec4 := fun a b c d e => lf_X10_forgeCanonical_4 F (nI S) (nI K) S w S (2 * (S + K)) k a b c d e) hS hK (by omega) hL0 (by omega) hw hsum S 0 F E N pre below codes (by omega) (by omega) hN h
    obtain ⟨E2, N2, pre2, below2, codes2, u1, u2, u3⟩ := ih (L + 1) k E' N' pre' below' codes' (by omega) (by omega) (by omega) r3 r2
    refine ⟨E2, N2, pre2, below2, codes2, ?_, u2, u3⟩
    show bf_X10_forgeCanonical_4 F (nI S) (nI K) S w S (2 * (S + K)) (fun a b c d e => lf_X10_forgeCanonical_4 F (nI S) (nI K) S w S (2 * (S + K)) k a b c d e) (nI E) (nI L) (nI N) codes below = _
    unfold bf_X10_forgeCanonical_4
    rw [if_neg (nI_nlt (by omega) (by omega))]
    exact r1.trans u1
/-- what the forge leaves -/
theorem forge_eq (F : Nat) {io : Bool} {S K : Nat} {len : Nat → Nat} {w : Nat → Int32} (n0 l0 f0 : Int32) (codes below : Nat → Int32) (hS1 : 1 ≤ S) (hS : S ≤ 96) (hK : K ≤ 24) (hF : 1000 < F) (hw : ∀ s, s < S → len s ≤ K ∧ w s = nI (len s)) (hnc : 0 < ncA len S) (hsum : stA len (fun _ => true) S ≤ 16777216) (hdv : ∀ s, s < S → 0 < len s → 2 ^ (24 - len s) ∣ stO io S len s) :
    ∃ (nodes full : Int32) (codes' below' : Nat → Int32), fn_X10_forge F (nI S) (nI K) (b01 io) S w S (2 * (S + K)) n0 l0 f0 codes below = some (nodes, 1, full, codes', below') ∧ ∀ codesM : Nat → Int32, (∀ s, s < S → 0 < len s → codesM s = nI (cd io S len s)) → Ld S K len (b01 io) nodes full codes' below' codesM := by
  obtain ⟨b0, z1, z2⟩ := fill_eq (F := F) (n := 2 * (S + K)) (by omega) (by omega) below 0
  have hst := Fg.start (io := io) (S := S) (K := K) (len := len) (below := b0) (codes := codes) z2 hS1
  have key : ∃ (E' N' : Nat) (pre' : Nat → Nat × Nat) (below' codes' : Nat → Int32), fn_X10_forge F (nI S) (nI K) (b01 io) S w S (2 * (S + K)) n0 l0 f0 codes below = bf_X10_forge_31 F (nI S) (nI K) (b01 io) S w S (2 * (S + K)) (nI N') l0 f0 codes' below' ∧ Fg io S K len (fun _ => true) E' N' pre' below' codes' ∧ N' ≤ S + K := by
    cases io with
    | false =>
      obtain ⟨E', N', pre', below', codes', r1, r2, r3⟩ := forgeCan_loop F (w := w) hS hK (by omega) hw hsum K 1 F 0 1 _ b0 codes (by omega) (by omega) (by omega) (by omega) (hst.congr (fun s _ hl => by simp [pcan]; omega))
      refine ⟨E', N', pre', below', codes', ?_, r2, r3⟩
      unfold fn_X10_forge bf_X10_forge_0
      rw [z1, bs, if_pos (show b01 false = 0 from rfl), show fn_X10_forgeCanonical F (nI S) (nI K) S w S (2 * (S + K)) 1 codes b0 = _ from r1, bs]
    | true =>
      obtain ⟨E', N', pre', below', codes', r1, r2, r3⟩ := forgeOrd_loop F (w := w) hS hK (by omega) hw hsum hdv S 0 F 0 1 _ b0 codes (by omega) (by omega) (by omega) (hst.congr (fun s _ hl => by simp [pord]))
      refine ⟨E', N', pre', below', codes', ?_, r2, r3⟩
      unfold fn_X10_forge bf_X10_forge_0
      rw [z1, bs, if_neg (show ¬ b01 true = 0 by decide), show fn_X10_forgeInOrder F (nI S) (nI K) S w S (2 * (S + K)) 1 codes b0 = _ from r1, bs]
  obtain ⟨E', N', pre', below', codes', r1, r2, r3⟩ := key
  have hw24 : ∀ s, s < S → len s ≤ 24 ∧ w s = nI (len s) := fun s hs => ⟨by have := (hw s hs).1; omega, (hw s hs).2⟩
  have hse := sum_eq (F := F) (n := S) (len := len) (w := w) (Nat.le_refl _) hS (by omega) (by omega) hw24
  rw [stA_all] at hsum
  refine ⟨nI N', b01 (decide (sm len S = 16777216)), codes', below', ?_, fun codesM hM => ?_⟩
  · rw [r1]
    unfold bf_X10_forge_31
    rw [hse, bs]
    by_cases q : sm len S = 16777216
    · rw [if_pos (by rw [q]; rfl)]; simp [q, b01]
    · rw [if_neg (show ¬ nI (sm len S) = 16777216 from fun z => q ((nI_eq (b := 16777216) (by omega) (by decide)).mp z))]; simp [q, b01]
  · obtain ⟨q1, q2, q3, q4, q5⟩ := r2
    obtain ⟨s0, s1, s2⟩ : ∃ s, s < S ∧ 0 < len s := Classical.byContradiction fun z => by
      have : ∀ n, n ≤ S → ncA len n = 0 := fun n hn => by
        induction n with
        | zero => rfl
        | succ n ih =>
          unfold ncA
          rw [ih (by omega), if_neg (fun y => z ⟨n, by omega, y⟩)]
      have := this S (Nat.le_refl _)
      omega
    have c0 : cd io S len s0 / 2 ^ (len s0 - 0) = 0 := by
      rw [cd_div (Nat.zero_le _) (hw24 s0 s1).1]
      obtain ⟨_, _, y⟩ := q2.1 s0 s1 rfl s2
      have hp : 0 < 2 ^ (24 - len s0) := Nat.pow_pos (by decide)
      rw [q1, stA_all] at y
      exact Nat.div_eq_of_lt (by show _ < 16777216; omega)
    have ip : ∀ v n, isPre io S len v n ↔ PreP io S len (fun _ => true) v n := fun v n => by
      constructor
      · rintro ⟨s, a1, a2, a3⟩
        exact Or.inr ⟨s, a1, rfl, a2, a3⟩
      · rintro (⟨rfl, rfl⟩ | ⟨s, a1, _, a2, a3⟩)
        · exact ⟨s0, s1, s2, c0⟩
        · exact ⟨s, a1, a2, a3⟩
    have ic : ∀ v n s, isCod io S len v n s ↔ CodP io S len (fun _ => true) v n s := fun v n s => ⟨fun z => ⟨rfl, z⟩, fun z => z.2⟩
    have q6 := q4.congr (fun v n => (ip v n).symm) (fun v n s => (ic v n s).symm)
    refine ⟨io, rfl, hnc, by rw [stA_all]; exact hsum, by rw [stA_all], fun s hs hl => ⟨hdv s hs hl, q5 s hs rfl hl, hM s hs hl⟩, N', pre', rfl, q6.1.2, ⟨r3, ?_, ?_⟩, q6.1.1, q6.2.1, q6.2.2.1, q6.2.2.2.1, q6.2.2.2.2.1⟩
    · intro hful
      rcases q3 with ⟨e0, _⟩ | ⟨e0, e1⟩
      · rw [q1] at e0; omega
      · rw [q1, hful] at e1
        have o24 := ones_t 0 24
        rw [show (2 ^ 24 * 0 + (2 ^ 24 - 1) : Nat) = 16777216 - 1 by decide, show ones 0 = 0 by rw [ones]; rfl] at o24
        have ncq : ∀ n, ncP len (fun _ => true) n = ncA len n := fun n => by
          induction n with
          | zero => rfl
          | succ n ih => unfold ncP ncA; rw [ih]; simp
        rw [ncq] at e1
        omega
    · intro x hx
      rw [← q1] at hx
      obtain ⟨s, a1, _, a3, a4⟩ := q2.2.2 x hx
      exact ⟨s, a1, a3, a4⟩
