/-! build: sums of shares. -/
/-- the shares of leaves that have a depth -/
def shP (d : Nat → Nat) : Nat → Nat
  | 0 => 0
  | k + 1 => shP d k + (if 0 < d k then 2 ^ (24 - d k) else 0)
/-- the lengths of symbols, out of the depths of leaves -/
def lenU (g d : Nat → Nat) (s : Nat) : Nat := if 0 < g s then d (nc g s) else 0
theorem stA_U (g d : Nat → Nat) : ∀ s, stA (lenU g d) (fun _ => true) s = shP d (nc g s)
  | 0 => rfl
  | s + 1 => by
    unfold stA
    rw [stA_U g d s]
    by_cases h : 0 < g s
    · rw [show nc g (s + 1) = nc g s + 1 by simp [nc, h]]
      show _ = shP d (nc g s) + _
      rw [show lenU g d s = d (nc g s) by unfold lenU; rw [if_pos h]]
      simp
    · rw [show nc g (s + 1) = nc g s by simp [nc, h], show lenU g d s = 0 by unfold lenU; rw [if_neg h]]
      simp
theorem stA_cut {len : Nat → Nat} {s : Nat} : ∀ n, s ≤ n → stA len (pord s) n = stA len (fun _ => true) s := by
  intro n hn
  induction n with
  | zero => obtain rfl : s = 0 := by omega
            rfl
  | succ n ih =>
    by_cases e : s = n + 1
    · subst e
      exact stA_congr (n + 1) (fun x hx _ => by simp [pord]; omega)
    · show stA len (pord s) n + (if 0 < len n ∧ pord s n = true then 2 ^ (24 - len n) else 0) = _
      rw [ih (by omega), if_neg (fun z => by have := of_decide_eq_true z.2; omega), Nat.add_zero]
theorem shP_shs {d : Nat → Nat} : ∀ n, (∀ k, k < n → 0 < d k) → shP d n = shs 24 d 0 n
  | 0, _ => rfl
  | n + 1, h => by
    show shP d n + _ = shs 24 d 0 n + _
    rw [shP_shs n (fun k hk => h k (by omega)), if_pos (h n (by omega)), Nat.zero_add]
theorem shs_scale {d : Nat → Nat} {B : Nat} (hB : 24 ≤ B) : ∀ n, (∀ k, k < n → d k ≤ 24) → shs B d 0 n = shs 24 d 0 n * 2 ^ (B - 24)
  | 0, _ => by show 0 = 0 * _; rw [Nat.zero_mul]
  | n + 1, h => by
    show shs B d 0 n + 2 ^ (B - d (0 + n)) = (shs 24 d 0 n + 2 ^ (24 - d (0 + n))) * 2 ^ (B - 24)
    rw [shs_scale hB n (fun k hk => h k (by omega)), Nat.add_mul, ← Nat.pow_add, Nat.zero_add]
    have := h n (by omega)
    rw [show 24 - d n + (B - 24) = B - d n by omega]
/-- from the sum in small parts to the sum in parts of 2^-24 -/
theorem kraft24 {d : Nat → Nat} {n B : Nat} (hB : 24 ≤ B) (h0 : ∀ k, k < n → 0 < d k) (h24 : ∀ k, k < n → d k ≤ 24) (h : shs B d 0 n = 2 ^ B) : shP d n = 16777216 := by
  rw [shP_shs n h0]
  rw [shs_scale hB n h24] at h
  have hp : 0 < 2 ^ (B - 24) := Nat.pow_pos (by decide)
  have : shs 24 d 0 n * 2 ^ (B - 24) = 2 ^ 24 * 2 ^ (B - 24) := by rw [h, ← Nat.pow_add, show 24 + (B - 24) = B by omega]
  exact Nat.eq_of_mul_eq_mul_right hp this
theorem even24 {d : Nat → Nat} {n B k : Nat} (hB : 24 ≤ B) (h0 : ∀ k, k < n → 0 < d k) (h24 : ∀ k, k < n → d k ≤ 24) (hk : k < n) (h : 2 ^ (B - d k) ∣ shs B d 0 k) : 2 ^ (24 - d k) ∣ shP d k := by
  rw [shP_shs k (fun j hj => h0 j (by omega))]
  rw [shs_scale hB k (fun j hj => h24 j (by omega)), show B - d k = (24 - d k) + (B - 24) by have := h24 k hk; omega, Nat.pow_add] at h
  exact Nat.dvd_of_mul_dvd_mul_right (Nat.pow_pos (by decide)) h
/-! Trees out of 'above'. -/
/-- n leaves, the nodes from n on to the last below made: par is the one above, 0 if there is none yet -/
def FS (n made : Nat) (par : Nat → Nat) : Prop :=
  (∀ x, x < made → par x = 0 ∨ (n ≤ par x ∧ x < par x ∧ par x < made)) ∧ ∀ m, n ≤ m → m < made → ∃ a b, a ≠ b ∧ a < m ∧ b < m ∧ par a = m ∧ par b = m ∧ ∀ x, x < made → par x = m → x = a ∨ x = b
theorem FS.new {n made a b : Nat} {par : Nat → Nat} (h : FS n made par) (hn : 0 < n) (hm : n ≤ made) (ha : a < made) (hb : b < made) (hab : a ≠ b) (pa : par a = 0) (pb : par b = 0) : FS n (made + 1) (ext (ext (ext par made 0) a made) b made) := by
  obtain ⟨h1, h2⟩ := h
  have e1 : ∀ x, x < made → x ≠ a → x ≠ b → ext (ext (ext par made 0) a made) b made x = par x := fun x hx xa xb => by rw [ext_o xb, ext_o xa, ext_o (by omega)]
  have ea : ext (ext (ext par made 0) a made) b made a = made := by rw [ext_o hab, ext_s]
  have eb : ext (ext (ext par made 0) a made) b made b = made := ext_s
  have em : ext (ext (ext par made 0) a made) b made made = 0 := by rw [ext_o (by omega), ext_o (by omega), ext_s]
  refine ⟨fun x hx => ?_, fun m m1 m2 => ?_⟩
  · by_cases xa : x = a
    · subst xa; rw [ea]; exact Or.inr ⟨hm, ha, by omega⟩
    · by_cases xb : x = b
      · subst xb; rw [eb]; exact Or.inr ⟨hm, hb, by omega⟩
      · by_cases xm : x = made
        · subst xm; exact Or.inl em
        · rw [e1 x (by omega) xa xb]
          rcases h1 x (by omega) with z | z
          · exact Or.inl z
          · exact Or.inr ⟨z.1, z.2.1, by omega⟩
  · by_cases mm : m = made
    · subst mm
      refine ⟨a, b, hab, ha, hb, ea, eb, fun x hx px => ?_⟩
      by_cases xa : x = a
      · exact Or.inl xa
      · by_cases xb : x = b
        · exact Or.inr xb
        · exfalso
          by_cases xm : x = m
          · subst xm; rw [em] at px; omega
          · rw [e1 x (by omega) xa xb] at px
            rcases h1 x (by omega) with z | z <;> omega
    · obtain ⟨c, d, c1, c2, c3, c4, c5, c6⟩ := h2 m m1 (by omega)
      have na : ∀ y, par y = m → y ≠ a ∧ y ≠ b := fun y hy => ⟨fun z => by subst z; omega, fun z => by subst z; omega⟩
      refine ⟨c, d, c1, c2, c3, by rw [e1 c (by omega) (na c c4).1 (na c c4).2]; exact c4, by rw [e1 d (by omega) (na d c5).1 (na d c5).2]; exact c5, fun x hx px => ?_⟩
      by_cases xa : x = a
      · subst xa; rw [ea] at px; omega
      · by_cases xb : x = b
        · subst xb; rw [eb] at px; omega
        · by_cases xm : x = made
          · subst xm; rw [em] at px; omega
          · rw [e1 x (by omega) xa xb] at px
            exact c6 x (by omega) px
/-- all are below the last one -/
def Par (n : Nat) (par : Nat → Nat) : Prop := (∀ x, x < 2 * n - 2 → n ≤ par x ∧ x < par x ∧ par x ≤ 2 * n - 2) ∧ ∀ m, n ≤ m → m ≤ 2 * n - 2 → ∃ a b, a ≠ b ∧ a < m ∧ b < m ∧ par a = m ∧ par b = m ∧ ∀ x, x < 2 * n - 2 → par x = m → x = a ∨ x = b
/-- how many steps up -/
def dd (R : Nat) (par : Nat → Nat) : Nat → Nat → Nat
  | 0, _ => 0
  | k + 1, x => if R ≤ x then 0 else dd R par k (par x) + 1
theorem dd_k {R : Nat} {par : Nat → Nat} (h : ∀ x, x < R → x < par x ∧ par x ≤ R) : ∀ k x, x ≤ R → R - x ≤ k → dd R par (k + 1) x = dd R par k x := by
  intro k
  induction k with
  | zero => intro x h1 h2; show (if R ≤ x then 0 else _) = 0; rw [if_pos (by omega)]
  | succ k ih =>
    intro x h1 h2
    show (if R ≤ x then 0 else dd R par (k + 1) (par x) + 1) = (if R ≤ x then 0 else dd R par k (par x) + 1)
    by_cases q : R ≤ x
    · rw [if_pos q, if_pos q]
    · obtain ⟨p1, p2⟩ := h x (by omega)
      rw [if_neg q, if_neg q, ih (par x) p2 (by omega)]
theorem dd_s {R : Nat} {par : Nat → Nat} (h : ∀ x, x < R → x < par x ∧ par x ≤ R) {x : Nat} (hx : x < R) : dd R par (R + 1) x = dd R par (R + 1) (par x) + 1 := by
  obtain ⟨p1, p2⟩ := h x hx
  show (if R ≤ x then 0 else dd R par R (par x) + 1) = _
  rw [if_neg (by omega), dd_k h R (par x) p2 (by omega)]
theorem dd_0 {R : Nat} {par : Nat → Nat} : dd R par (R + 1) R = 0 := by
  show (if R ≤ R then 0 else _) = 0
  rw [if_pos (Nat.le_refl _)]
theorem dd_le {R : Nat} {par : Nat → Nat} (h : ∀ x, x < R → x < par x ∧ par x ≤ R) : ∀ k x, x ≤ R → R - x ≤ k → dd R par (R + 1) x + x ≤ R := by
  intro k
  induction k with
  | zero => intro x h1 h2; obtain rfl : x = R := by omega
            rw [dd_0]; omega
  | succ k ih =>
    intro x h1 h2
    by_cases q : x = R
    · subst q; rw [dd_0]; omega
    · obtain ⟨p1, p2⟩ := h x (by omega)
      rw [dd_s h (by omega)]
      have := ih (par x) p2 (by omega)
      omega
/-- sums over those below m for which p holds -/
def sP (f : Nat → Nat) (p : Nat → Bool) : Nat → Nat
  | 0 => 0
  | m + 1 => sP f p m + (if p m then f m else 0)
theorem sP_or {f : Nat → Nat} {p q : Nat → Bool} : ∀ m, (∀ x, x < m → ¬ (p x = true ∧ q x = true)) → sP f (fun x => p x || q x) m = sP f p m + sP f q m
  | 0, _ => rfl
  | m + 1, h => by
    unfold sP
    rw [sP_or m (fun x hx => h x (by omega))]
    have := h m (by omega)
    by_cases a : p m = true
    · by_cases b : q m = true
      · exact absurd ⟨a, b⟩ this
      · simp [a, b]; omega
    · simp [a]; omega
theorem sP_congr {f : Nat → Nat} {p q : Nat → Bool} : ∀ m, (∀ x, x < m → p x = q x) → sP f p m = sP f q m
  | 0, _ => rfl
  | m + 1, h => by
    unfold sP
    rw [sP_congr m (fun x hx => h x (by omega)), h m (by omega)]
theorem sP_one {f : Nat → Nat} {a : Nat} : ∀ m, sP f (fun x => decide (x = a)) m = if a < m then f a else 0
  | 0 => rfl
  | m + 1 => by
    unfold sP
    rw [sP_one m]
    by_cases e : m = a
    · subst e; simp
    · simp [e]
      by_cases e2 : a < m
      · rw [if_pos e2, if_pos (by omega)]
      · rw [if_neg e2, if_neg (by omega)]
theorem par_kraft {n B : Nat} {par : Nat → Nat} (hn : 2 ≤ n) (h : Par n par) (hB : 2 * n ≤ B) : shs B (dd (2 * n - 2) par (2 * n - 2 + 1)) 0 n = 2 ^ B := by
  obtain ⟨h1, h2⟩ := h
  have hp : ∀ x, x < 2 * n - 2 → x < par x ∧ par x ≤ 2 * n - 2 := fun x hx => ⟨(h1 x hx).2.1, (h1 x hx).2.2⟩
  generalize hd : dd (2 * n - 2) par (2 * n - 2 + 1) = d
  have d0 : d (2 * n - 2) = 0 := by rw [← hd]; exact dd_0
  have ds : ∀ x, x < 2 * n - 2 → d x = d (par x) + 1 := fun x hx => by rw [← hd]; exact dd_s hp hx
  have dl : ∀ x, x ≤ 2 * n - 2 → d x ≤ 2 * n - 2 := fun x hx => by
    have := dd_le hp (2 * n - 2) x hx (by omega)
    rw [hd] at this
    omega
  have key : ∀ j m, n ≤ m → m + j = 2 * n - 1 → sP (fun x => 2 ^ (B - d x)) (fun x => decide (m ≤ par x) || decide (x = 2 * n - 2)) m = 2 ^ B := by
    intro j
    induction j with
    | zero =>
      intro m m1 m2
      rw [sP_congr (q := fun x => decide (x = 2 * n - 2)) m (fun x hx => by
        by_cases e : x = 2 * n - 2
        · simp [e]
        · have := (h1 x (by omega)).2.2
          have : ¬ m ≤ par x := by omega
          simp [this]), sP_one, if_pos (by omega)]
      show 2 ^ (B - d (2 * n - 2)) = _
      rw [d0, Nat.sub_zero]
    | succ j ih =>
      intro m m1 m2
      have i1 := ih (m + 1) (by omega) (by omega)
      obtain ⟨a, b, ab, am, bm, pa, pb, pu⟩ := h2 m m1 (by omega)
      have i2 : sP (fun x => 2 ^ (B - d x)) (fun x => decide (m + 1 ≤ par x) || decide (x = 2 * n - 2)) m + 2 ^ (B - d m) = 2 ^ B := by
        rw [← i1]
        show _ = sP (fun x => 2 ^ (B - d x)) (fun x => decide (m + 1 ≤ par x) || decide (x = 2 * n - 2)) m + _
        rw [if_pos]
        by_cases e : m = 2 * n - 2
        · simp [e]
        · have := (h1 m (by omega)).2.1
          have : m + 1 ≤ par m := by omega
          simp [this]
      have i3 : sP (fun x => 2 ^ (B - d x)) (fun x => decide (m ≤ par x) || decide (x = 2 * n - 2)) m = sP (fun x => 2 ^ (B - d x)) (fun x => decide (m + 1 ≤ par x) || decide (x = 2 * n - 2)) m + sP (fun x => 2 ^ (B - d x)) (fun x => decide (x = a) || decide (x = b)) m := by
        rw [← sP_or (p := fun x => decide (m + 1 ≤ par x) || decide (x = 2 * n - 2)) (q := fun x => decide (x = a) || decide (x = b)) m (fun x hx => ?_)]
        · refine sP_congr m (fun x hx => ?_)
          have hx2 : x ≠ 2 * n - 2 := by omega
          by_cases e : par x = m
          · rcases pu x (by omega) e with z | z
            · subst z; simp [pa]
            · subst z; simp [pb]
          · have xa : x ≠ a := fun z => e (by rw [z]; exact pa)
            have xb : x ≠ b := fun z => e (by rw [z]; exact pb)
            simp [hx2, xa, xb]
            omega
        · have hx2 : x ≠ 2 * n - 2 := by omega
          rintro ⟨z1, z2⟩
          simp [hx2] at z1
          rcases (Bool.or_eq_true _ _).mp z2 with z | z
          · have := of_decide_eq_true z; subst this; omega
          · have := of_decide_eq_true z; subst this; omega
      have i4 : sP (fun x => 2 ^ (B - d x)) (fun x => decide (x = a) || decide (x = b)) m = 2 ^ (B - d m) := by
        rw [sP_or (p := fun x => decide (x = a)) (q := fun x => decide (x = b)) m (fun x _ ⟨z1, z2⟩ => ab ((of_decide_eq_true z1).symm.trans (of_decide_eq_true z2))), sP_one, sP_one, if_pos am, if_pos bm]
        show 2 ^ (B - d a) + 2 ^ (B - d b) = _
        have dm := dl m (by omega)
        rw [ds a (by omega), ds b (by omega), pa, pb, show B - d m = (B - (d m + 1)) + 1 by omega, Nat.pow_succ]
        omega
      rw [i3, i4]
      exact i2
  have k0 := key (n - 1) n (Nat.le_refl _) (by omega)
  rw [← k0]
  have : ∀ m, m ≤ n → shs B d 0 m = sP (fun x => 2 ^ (B - d x)) (fun x => decide (n ≤ par x) || decide (x = 2 * n - 2)) m := fun m hm => by
    induction m with
    | zero => rfl
    | succ m ih =>
      show shs B d 0 m + 2 ^ (B - d (0 + m)) = sP (fun x => 2 ^ (B - d x)) (fun x => decide (n ≤ par x) || decide (x = 2 * n - 2)) m + _
      rw [ih (by omega), Nat.zero_add, if_pos]
      by_cases e : m = 2 * n - 2
      · simp [e]
      · have := (h1 m (by omega)).1
        simp [this]
  exact this n (Nat.le_refl _)
