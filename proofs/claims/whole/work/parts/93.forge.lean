/-! The codes of a table, one by one. -/
def PreP (io : Bool) (S : Nat) (len : Nat → Nat) (p : Nat → Bool) (v n : Nat) : Prop := (v = 0 ∧ n = 0) ∨ ∃ s, s < S ∧ p s = true ∧ n < len s ∧ cd io S len s / 2 ^ (len s - n) = v
def CodP (io : Bool) (S : Nat) (len : Nat → Nat) (p : Nat → Bool) (v n s : Nat) : Prop := p s = true ∧ isCod io S len v n s
def ncP (len : Nat → Nat) (p : Nat → Bool) : Nat → Nat
  | 0 => 0
  | n + 1 => ncP len p n + (if 0 < len n ∧ p n = true then 1 else 0)
/-- the codes of p lie side by side up to E -/
def Til (io : Bool) (S : Nat) (len : Nat → Nat) (p : Nat → Bool) (E : Nat) : Prop :=
  (∀ s, s < S → p s = true → 0 < len s → len s ≤ 24 ∧ 2 ^ (24 - len s) ∣ stO io S len s ∧ stO io S len s + 2 ^ (24 - len s) ≤ E) ∧ (0 < E → ∃ s, s < S ∧ p s = true ∧ 0 < len s ∧ stO io S len s + 2 ^ (24 - len s) = E) ∧ ∀ x, x < E → ∃ s, s < S ∧ p s = true ∧ 0 < len s ∧ stO io S len s ≤ x ∧ x < stO io S len s + 2 ^ (24 - len s)
def Fg (io : Bool) (S K : Nat) (len : Nat → Nat) (p : Nat → Bool) (E N : Nat) (pre : Nat → Nat × Nat) (below codes : Nat → Int32) : Prop :=
  E = stA len p S ∧ Til io S len p E ∧ cnB N (ncP len p S) E ∧ TreeG (2 * (S + K)) (PreP io S len p) (CodP io S len p) N pre below ∧ ∀ s, s < S → p s = true → 0 < len s → codes s = nI (cd io S len s)
theorem stA_congr {len : Nat → Nat} {p q : Nat → Bool} : ∀ n, (∀ s, s < n → 0 < len s → p s = q s) → stA len p n = stA len q n
  | 0, _ => rfl
  | n + 1, h => by
    unfold stA
    rw [stA_congr n (fun s hs => h s (by omega))]
    by_cases e : 0 < len n
    · rw [h n (by omega) e]
    · simp [e]
theorem ncP_congr {len : Nat → Nat} {p q : Nat → Bool} : ∀ n, (∀ s, s < n → 0 < len s → p s = q s) → ncP len p n = ncP len q n
  | 0, _ => rfl
  | n + 1, h => by
    unfold ncP
    rw [ncP_congr n (fun s hs => h s (by omega))]
    by_cases e : 0 < len n
    · rw [h n (by omega) e]
    · simp [e]
theorem ncP_le (len : Nat → Nat) (p : Nat → Bool) : ∀ n, ncP len p n ≤ n
  | 0 => Nat.le_refl _
  | n + 1 => by
    unfold ncP
    have := ncP_le len p n
    split <;> omega
/-- one symbol more -/
def ins (p : Nat → Bool) (s : Nat) : Nat → Bool := fun x => p x || decide (x = s)
theorem ins_s (p : Nat → Bool) (s : Nat) : ins p s s = true := by simp [ins]
theorem ins_o {p : Nat → Bool} {s x : Nat} (h : x ≠ s) : ins p s x = p x := by simp [ins, h]
theorem stA_ins {len : Nat → Nat} {p : Nat → Bool} {s : Nat} (hl : 0 < len s) (hp : p s = false) : ∀ n, stA len (ins p s) n = stA len p n + (if s < n then 2 ^ (24 - len s) else 0)
  | 0 => rfl
  | n + 1 => by
    unfold stA
    rw [stA_ins hl hp n]
    by_cases e : n = s
    · subst e
      rw [ins_s, hp]
      simp [hl]
    · rw [ins_o e]
      have : s < n + 1 ↔ s < n := by omega
      simp only [this]
      omega
theorem ncP_ins {len : Nat → Nat} {p : Nat → Bool} {s : Nat} (hl : 0 < len s) (hp : p s = false) : ∀ n, ncP len (ins p s) n = ncP len p n + (if s < n then 1 else 0)
  | 0 => rfl
  | n + 1 => by
    unfold ncP
    rw [ncP_ins hl hp n]
    by_cases e : n = s
    · subst e
      rw [ins_s, hp]
      simp [hl]
    · rw [ins_o e]
      have : s < n + 1 ↔ s < n := by omega
      simp only [this]
      omega
theorem stA_mono {len : Nat → Nat} {p q : Nat → Bool} (h : ∀ s, p s = true → q s = true) : ∀ n, stA len p n ≤ stA len q n
  | 0 => Nat.le_refl _
  | n + 1 => by
    unfold stA
    have := stA_mono (len := len) h n
    by_cases e : 0 < len n ∧ p n = true
    · rw [if_pos e, if_pos ⟨e.1, h n e.2⟩]; omega
    · rw [if_neg e]; omega
theorem Fg.congr {io : Bool} {S K E N : Nat} {len : Nat → Nat} {p q : Nat → Bool} {pre : Nat → Nat × Nat} {below codes : Nat → Int32} (h : Fg io S K len p E N pre below codes) (hpq : ∀ s, s < S → 0 < len s → p s = q s) : Fg io S K len q E N pre below codes := by
  obtain ⟨h1, h2, h3, h4, h5⟩ := h
  refine ⟨h1.trans (stA_congr S hpq), ⟨fun s hs hp hl => h2.1 s hs ((hpq s hs hl).trans hp) hl, fun hE => ?_, fun x hx => ?_⟩, ?_, h4.congr (fun a m => ?_) (fun a m s => ?_), fun s hs hp hl => h5 s hs ((hpq s hs hl).trans hp) hl⟩
  · obtain ⟨s, a1, a2, a3, a4⟩ := h2.2.1 hE
    exact ⟨s, a1, (hpq s a1 a3).symm.trans a2, a3, a4⟩
  · obtain ⟨s, a1, a2, a3, a4⟩ := h2.2.2 x hx
    exact ⟨s, a1, (hpq s a1 a3).symm.trans a2, a3, a4⟩
  · rw [← ncP_congr S hpq]; exact h3
  · constructor
    · rintro (z | ⟨s, a1, a2, a3, a4⟩)
      · exact Or.inl z
      · exact Or.inr ⟨s, a1, (hpq s a1 (by omega)).symm.trans a2, a3, a4⟩
    · rintro (z | ⟨s, a1, a2, a3, a4⟩)
      · exact Or.inl z
      · exact Or.inr ⟨s, a1, (hpq s a1 (by omega)).trans a2, a3, a4⟩
  · constructor
    · rintro ⟨a1, a2⟩
      exact ⟨(hpq s a2.1 a2.2.1).symm.trans a1, a2⟩
    · rintro ⟨a1, a2⟩
      exact ⟨(hpq s a2.1 a2.2.1).trans a1, a2⟩
theorem pow_split {a b : Nat} (h : b ≤ a) : (2 : Nat) ^ a = 2 ^ b * 2 ^ (a - b) := by rw [← Nat.pow_add, show b + (a - b) = a by omega]
/-- a code's beginning, out of where it starts -/
theorem cd_div {io : Bool} {S : Nat} {len : Nat → Nat} {s n : Nat} (h : n ≤ len s) (h2 : len s ≤ 24) : cd io S len s / 2 ^ (len s - n) = stO io S len s / 2 ^ (24 - n) := by
  unfold cd
  rw [Nat.div_div_eq_div_mul, ← Nat.pow_add, show 24 - len s + (len s - n) = 24 - n by omega]
theorem e_div {E L k : Nat} (hL : L ≤ 24) (hk : k ≤ L) : E / 2 ^ (24 - L) / 2 ^ k = E / 2 ^ (24 - (L - k)) := by
  rw [Nat.div_div_eq_div_mul, ← Nat.pow_add, show 24 - L + k = 24 - (L - k) by omega]
theorem til_A {io : Bool} {S E L k : Nat} {len : Nat → Nat} {p : Nat → Bool} (h : Til io S len p E) (hL : L ≤ 24) (hd : 2 ^ (24 - L) ∣ E) (hk : k < L) (hn : ¬ 2 ^ k ∣ E / 2 ^ (24 - L)) : PreP io S len p (E / 2 ^ (24 - L) / 2 ^ k) (L - k) := by
  have hE : 0 < E := by
    rcases Nat.eq_zero_or_pos E with q | q
    · subst q; simp at hn
    · exact q
  obtain ⟨s, a1, a2, a3, a4⟩ := h.2.1 hE
  obtain ⟨b1, b2, b3⟩ := h.1 s a1 a2 a3
  have hD : 0 < 2 ^ (24 - (L - k)) := Nat.pow_pos (by decide)
  have hnD : ¬ 2 ^ (24 - (L - k)) ∣ E := fun z => hn (by
    obtain ⟨q, hq⟩ := z
    rw [hq, show 24 - (L - k) = (24 - L) + k by omega, Nat.pow_add, Nat.mul_assoc, Nat.mul_div_cancel_left _ (Nat.pow_pos (by decide))]
    exact ⟨q, rfl⟩)
  have hlt : L - k < len s := by
    rcases Nat.lt_or_ge (L - k) (len s) with q | q
    · exact q
    · exfalso
      refine hnD (Nat.dvd_trans (Nat.pow_dvd_pow 2 (by omega : 24 - (L - k) ≤ 24 - len s)) ?_)
      rw [← a4]
      exact Nat.dvd_add b2 (Nat.dvd_refl _)
  refine Or.inr ⟨s, a1, a2, hlt, ?_⟩
  rw [cd_div (by omega) b1, e_div hL (by omega)]
  have dE : 2 ^ (24 - len s) ∣ E := by rw [← a4]; exact Nat.dvd_add b2 (Nat.dvd_refl _)
  have dD : 2 ^ (24 - len s) ∣ 2 ^ (24 - (L - k)) := Nat.pow_dvd_pow 2 (by omega)
  generalize 2 ^ (24 - (L - k)) = D at hD hnD dD ⊢
  generalize hd' : 2 ^ (24 - len s) = d at dE dD a4 ⊢
  have e1 := Nat.div_add_mod E D
  have r0 : E % D ≠ 0 := fun z => hnD (Nat.dvd_of_mod_eq_zero z)
  have r1 := Nat.mod_lt E hD
  have dr : d ∣ E % D := (Nat.dvd_mod_iff dD).mpr dE
  have r2 : d ≤ E % D := Nat.le_of_dvd (by omega) dr
  have e2 : stO io S len s = D * (E / D) + (E % D - d) := by omega
  have e3 : (E % D - d) / D = 0 := Nat.div_eq_of_lt (by omega)
  rw [e2, Nat.mul_add_div hD, e3, Nat.add_zero]
theorem til_B {io : Bool} {S E L k s : Nat} {len : Nat → Nat} {p : Nat → Bool} (h : Til io S len p E) (hL : L ≤ 24) (hk : k < L) : ¬ CodP io S len p (E / 2 ^ (24 - L) / 2 ^ k) (L - k) s := by
  rintro ⟨a1, a2, a3, a4, a5⟩
  obtain ⟨b1, b2, b3⟩ := h.1 s a2 a1 a3
  rw [e_div hL (by omega), ← a4] at a5
  have hD : 0 < 2 ^ (24 - len s) := Nat.pow_pos (by decide)
  unfold cd at a5
  obtain ⟨q, hq⟩ := b2
  rw [hq, Nat.mul_div_cancel_left _ hD] at a5
  rw [hq] at b3
  have : q + 1 ≤ E / 2 ^ (24 - len s) := (Nat.le_div_iff_mul_le hD).mpr (by rw [Nat.add_mul, Nat.one_mul, Nat.mul_comm]; exact b3)
  omega
theorem til_C {io : Bool} {S E L : Nat} {len : Nat → Nat} {p : Nat → Bool} (h : Til io S len p E) (hL : L ≤ 24) (hL1 : 0 < L) (hd : 2 ^ (24 - L) ∣ E) : ¬ PreP io S len p (E / 2 ^ (24 - L)) L := by
  rintro (⟨_, z⟩ | ⟨s, a1, a2, a3, a4⟩)
  · omega
  obtain ⟨b1, b2, b3⟩ := h.1 s a1 a2 (by omega)
  rw [cd_div (by omega) b1] at a4
  have hD : 0 < 2 ^ (24 - L) := Nat.pow_pos (by decide)
  have hs : 0 < 2 ^ (24 - len s) := Nat.pow_pos (by decide)
  obtain ⟨q, hq⟩ := hd
  have : stO io S len s / 2 ^ (24 - L) < q := (Nat.div_lt_iff_lt_mul hD).mpr (by rw [Nat.mul_comm, ← hq]; omega)
  rw [hq, Nat.mul_div_cancel_left _ hD] at a4
  omega
theorem Fg.start {io : Bool} {S K : Nat} {len : Nat → Nat} {below codes : Nat → Int32} (hb : ∀ i, i < 2 * (S + K) → below i = 0) (hR : 1 ≤ S) : Fg io S K len (fun _ => false) 0 1 (fun _ => (0, 0)) below codes := by
  have e0 : ∀ n, stA len (fun _ => false) n = 0 := fun n => by
    induction n with
    | zero => rfl
    | succ n ih => unfold stA; rw [ih]; simp
  refine ⟨(e0 S).symm, ⟨fun s _ h => by simp at h, fun h => absurd h (Nat.lt_irrefl 0), fun x hx => absurd hx (Nat.not_lt_zero x)⟩, Or.inl ⟨rfl, rfl⟩, ?_, fun s _ h => by simp at h⟩
  refine ⟨⟨rfl, Nat.le_refl _⟩, fun v _ => Or.inl ⟨rfl, rfl⟩, fun v n h => ?_, fun v w hv hw _ => by omega, fun v b hv hb2 => ?_, fun v b n hb2 h => ?_, fun v b n s hb2 h => by simp [CodP] at h, fun i _ hi => hb i hi⟩
  · rcases h with ⟨rfl, rfl⟩ | ⟨s, _, h, _⟩
    · exact ⟨0, by omega, rfl⟩
    · simp at h
  · refine ⟨fun s h => by simp [CodP] at h, fun w hw h => ?_, fun _ _ => hb _ (by omega)⟩
    have := congrArg Prod.snd h
    simp at this
  · rcases h with ⟨_, h⟩ | ⟨s, _, h, _⟩
    · omega
    · simp at h
