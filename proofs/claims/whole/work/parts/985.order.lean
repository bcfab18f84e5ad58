/-! build: IN ORDER, the least costs. -/
/-- the first of the least among s to s + c -/
def amin (f : Nat → Nat) (s : Nat) : Nat → Nat
  | 0 => s
  | c + 1 => if f (s + (c + 1)) < f (amin f s c) then s + (c + 1) else amin f s c
theorem amin_in (f : Nat → Nat) (s : Nat) : ∀ c, s ≤ amin f s c ∧ amin f s c ≤ s + c
  | 0 => ⟨Nat.le_refl _, Nat.le_refl _⟩
  | c + 1 => by
    unfold amin
    have := amin_in f s c
    split <;> omega
theorem amin_le (f : Nat → Nat) (s : Nat) : ∀ c x, s ≤ x → x ≤ s + c → f (amin f s c) ≤ f x ∧ (x < amin f s c → f (amin f s c) < f x)
  | 0, x, h1, h2 => by
    obtain rfl : x = s := by omega
    exact ⟨Nat.le_refl _, fun z => absurd z (Nat.lt_irrefl _)⟩
  | c + 1, x, h1, h2 => by
    unfold amin
    have hi := amin_in f s c
    by_cases q : f (s + (c + 1)) < f (amin f s c)
    · rw [if_pos q]
      by_cases e : x = s + (c + 1)
      · subst e; exact ⟨Nat.le_refl _, fun z => absurd z (Nat.lt_irrefl _)⟩
      · have := (amin_le f s c x h1 (by omega)).1
        exact ⟨by omega, fun _ => by omega⟩
    · rw [if_neg q]
      by_cases e : x = s + (c + 1)
      · subst e; exact ⟨by omega, fun z => by omega⟩
      · exact amin_le f s c x h1 (by omega)
theorem amin_congr {f g : Nat → Nat} {s : Nat} : ∀ c, (∀ x, s ≤ x → x ≤ s + c → f x = g x) → amin f s c = amin g s c
  | 0, _ => rfl
  | c + 1, h => by
    unfold amin
    have hi := amin_in g s c
    rw [amin_congr c (fun x h1 h2 => h x h1 (by omega)), h (s + (c + 1)) (by omega) (by omega), h (amin g s c) (by omega) (by omega)]
def pf (wt : Nat → Nat) : Nat → Nat
  | 0 => 0
  | k + 1 => pf wt k + wt k
theorem pf_mono {wt : Nat → Nat} {a b : Nat} (h : a ≤ b) : pf wt a ≤ pf wt b := by
  obtain ⟨d, rfl⟩ : ∃ d, b = a + d := ⟨b - a, by omega⟩
  induction d with
  | zero => exact Nat.le_refl _
  | succ d ih => have := ih (by omega); show pf wt a ≤ pf wt (a + d) + wt (a + d); omega
/-- the least cost of the leaves from a to before b -/
def Cf (wt : Nat → Nat) : Nat → Nat → Nat → Nat
  | 0, _, _ => 0
  | k + 1, a, b => if b ≤ a + 1 then 0 else (pf wt b - pf wt a) + (Cf wt k a (amin (fun m => Cf wt k a m + Cf wt k m b) (a + 1) (b - a - 2)) + Cf wt k (amin (fun m => Cf wt k a m + Cf wt k m b) (a + 1) (b - a - 2)) b)
section
variable {wt : Nat → Nat}
theorem Cf_k : ∀ k a b, b - a ≤ k → Cf wt (k + 1) a b = Cf wt k a b := by
  intro k
  induction k with
  | zero =>
    intro a b h
    show (if b ≤ a + 1 then 0 else _) = 0
    rw [if_pos (by omega)]
  | succ k ih =>
    intro a b h
    by_cases q : b ≤ a + 1
    · show (if b ≤ a + 1 then 0 else _) = (if b ≤ a + 1 then 0 else _)
      rw [if_pos q, if_pos q]
    · have e : amin (fun m => Cf wt (k + 1) a m + Cf wt (k + 1) m b) (a + 1) (b - a - 2) = amin (fun m => Cf wt k a m + Cf wt k m b) (a + 1) (b - a - 2) := amin_congr _ (fun x h1 h2 => by rw [ih a x (by omega), ih x b (by omega)])
      have hi := amin_in (fun m => Cf wt k a m + Cf wt k m b) (a + 1) (b - a - 2)
      show (if b ≤ a + 1 then 0 else (pf wt b - pf wt a) + (Cf wt (k + 1) a (amin (fun m => Cf wt (k + 1) a m + Cf wt (k + 1) m b) (a + 1) (b - a - 2)) + Cf wt (k + 1) (amin (fun m => Cf wt (k + 1) a m + Cf wt (k + 1) m b) (a + 1) (b - a - 2)) b)) = (if b ≤ a + 1 then 0 else (pf wt b - pf wt a) + (Cf wt k a (amin (fun m => Cf wt k a m + Cf wt k m b) (a + 1) (b - a - 2)) + Cf wt k (amin (fun m => Cf wt k a m + Cf wt k m b) (a + 1) (b - a - 2)) b))
      rw [if_neg q, if_neg q, e, ih a _ (by omega), ih _ b (by omega)]
theorem Cf_n : ∀ d k a b, b - a ≤ k → Cf wt (k + d) a b = Cf wt k a b
  | 0, _, _, _, _ => rfl
  | d + 1, k, a, b, h => by rw [← Nat.add_assoc, Cf_k (k + d) a b (by omega), Cf_n d k a b h]
/-- the least cost, and where it parts -/
def Co (wt : Nat → Nat) (a b : Nat) : Nat := Cf wt (b - a) a b
def Ro (wt : Nat → Nat) (a b : Nat) : Nat := amin (fun m => Co wt a m + Co wt m b) (a + 1) (b - a - 2)
theorem Co_1 {a b : Nat} (h : b ≤ a + 1) : Co wt a b = 0 := by
  unfold Co
  cases e : b - a with
  | zero => rfl
  | succ k => show (if b ≤ a + 1 then 0 else _) = 0; rw [if_pos h]
theorem Ro_in {a b : Nat} (h : a + 2 ≤ b) : a < Ro wt a b ∧ Ro wt a b < b := by
  have := amin_in (fun m => Co wt a m + Co wt m b) (a + 1) (b - a - 2)
  unfold Ro
  omega
theorem Co_2 {a b : Nat} (h : a + 2 ≤ b) : Co wt a b = (pf wt b - pf wt a) + (Co wt a (Ro wt a b) + Co wt (Ro wt a b) b) := by
  have hr := Ro_in (wt := wt) h
  have e1 : Ro wt a b = amin (fun m => Cf wt (b - a - 1) a m + Cf wt (b - a - 1) m b) (a + 1) (b - a - 2) := amin_congr _ (fun x h1 h2 => by
    show Cf wt (x - a) a x + Cf wt (b - x) x b = _
    have a1 := Cf_n (wt := wt) (b - a - 1 - (x - a)) (x - a) a x (Nat.le_refl _)
    have a2 := Cf_n (wt := wt) (b - a - 1 - (b - x)) (b - x) x b (Nat.le_refl _)
    rw [show x - a + (b - a - 1 - (x - a)) = b - a - 1 by omega] at a1
    rw [show b - x + (b - a - 1 - (b - x)) = b - a - 1 by omega] at a2
    rw [a1, a2])
  have a1 := Cf_n (wt := wt) (b - a - 1 - (Ro wt a b - a)) (Ro wt a b - a) a (Ro wt a b) (Nat.le_refl _)
  have a2 := Cf_n (wt := wt) (b - a - 1 - (b - Ro wt a b)) (b - Ro wt a b) (Ro wt a b) b (Nat.le_refl _)
  rw [show Ro wt a b - a + (b - a - 1 - (Ro wt a b - a)) = b - a - 1 by omega] at a1
  rw [show b - Ro wt a b + (b - a - 1 - (b - Ro wt a b)) = b - a - 1 by omega] at a2
  have e2 : Co wt a b = Cf wt (b - a - 1 + 1) a b := by unfold Co; rw [show b - a - 1 + 1 = b - a by omega]
  rw [e2]
  show (if b ≤ a + 1 then 0 else (pf wt b - pf wt a) + (Cf wt (b - a - 1) a (amin (fun m => Cf wt (b - a - 1) a m + Cf wt (b - a - 1) m b) (a + 1) (b - a - 2)) + Cf wt (b - a - 1) (amin (fun m => Cf wt (b - a - 1) a m + Cf wt (b - a - 1) m b) (a + 1) (b - a - 2)) b)) = _
  rw [if_neg (by omega), ← e1, a1, a2]
  rfl
theorem Ro_le {a b m : Nat} (h1 : a < m) (h2 : m < b) : Co wt a (Ro wt a b) + Co wt (Ro wt a b) b ≤ Co wt a m + Co wt m b ∧ (m < Ro wt a b → Co wt a (Ro wt a b) + Co wt (Ro wt a b) b < Co wt a m + Co wt m b) :=
  amin_le (fun m => Co wt a m + Co wt m b) (a + 1) (b - a - 2) m (by omega) (by omega)
theorem Co_le {a b m : Nat} (h1 : a < m) (h2 : m < b) : Co wt a b ≤ (pf wt b - pf wt a) + (Co wt a m + Co wt m b) := by
  have := (Ro_le (wt := wt) h1 h2).1
  rw [Co_2 (by omega)]
  omega
/-- the quadrangle inequality -/
theorem quad : ∀ (k a b c d : Nat), d - a ≤ k → a ≤ b → b ≤ c → c ≤ d → Co wt a c + Co wt b d ≤ Co wt b c + Co wt a d := by
  intro k
  induction k with
  | zero =>
    intro a b c d hk h1 h2 h3
    obtain rfl : a = b := by omega
    omega
  | succ k ih =>
    intro a b c d hk h1 h2 h3
    by_cases e1 : a = b
    · subst e1; omega
    by_cases e2 : c = d
    · subst e2; omega
    have p1 := pf_mono (wt := wt) h1
    have p2 := pf_mono (wt := wt) h2
    have p3 := pf_mono (wt := wt) h3
    have hz := Ro_in (wt := wt) (a := a) (b := d) (by omega)
    have cz := Co_2 (wt := wt) (a := a) (b := d) (by omega)
    generalize Ro wt a d = z at hz cz
    by_cases e3 : b = c
    · subst e3
      rw [Co_1 (wt := wt) (a := b) (b := b) (by omega)]
      rcases Nat.lt_trichotomy z b with q | q | q
      · have i1 := ih z b b d (by omega) (by omega) (Nat.le_refl _) (by omega)
        rw [Co_1 (wt := wt) (a := b) (b := b) (by omega)] at i1
        have c1 := Co_le (wt := wt) hz.1 q
        omega
      · subst q; omega
      · have i1 := ih a b b z (by omega) (by omega) (Nat.le_refl _) (by omega)
        rw [Co_1 (wt := wt) (a := b) (b := b) (by omega)] at i1
        have c1 := Co_le (wt := wt) q hz.2
        omega
    · by_cases q1 : z ≤ b
      · have i1 := ih z b c d (by omega) q1 h2 h3
        have c1 := Co_le (wt := wt) hz.1 (show z < c by omega)
        omega
      · by_cases q2 : c ≤ z
        · have i1 := ih a b c z (by omega) h1 h2 q2
          have c1 := Co_le (wt := wt) (show b < z by omega) hz.2
          omega
        · have hy := Ro_in (wt := wt) (a := b) (b := c) (by omega)
          have cy := Co_2 (wt := wt) (a := b) (b := c) (by omega)
          generalize Ro wt b c = y at hy cy
          by_cases q3 : z ≤ y
          · have i1 := ih z y c d (by omega) q3 (by omega) h3
            have c1 := Co_le (wt := wt) hz.1 (show z < c by omega)
            have c2 := Co_le (wt := wt) hy.1 (show y < d by omega)
            omega
          · have i1 := ih a b y z (by omega) h1 (by omega) (by omega)
            have c1 := Co_le (wt := wt) (show a < y by omega) hy.2
            have c2 := Co_le (wt := wt) (show b < z by omega) hz.2
            omega
/-- the last leaf on the left side, of the leaves from i to j -/
def La (wt : Nat → Nat) (i j : Nat) : Nat := if i = j then i else Ro wt i (j + 1) - 1
theorem La_in {i j : Nat} (h : i < j) : i ≤ La wt i j ∧ La wt i j < j ∧ La wt i j + 1 = Ro wt i (j + 1) := by
  have := Ro_in (wt := wt) (a := i) (b := j + 1) (by omega)
  unfold La
  rw [if_neg (by omega)]
  omega
theorem La_left {i j : Nat} (h : i < j) : La wt i (j - 1) ≤ La wt i j := by
  have hl := La_in (wt := wt) h
  by_cases e : i = j - 1
  · unfold La
    rw [if_pos e]
    rw [if_neg (by omega)]
    have := Ro_in (wt := wt) (a := i) (b := j + 1) (by omega)
    omega
  · have hl2 := La_in (wt := wt) (show i < j - 1 by omega)
    rw [show j - 1 + 1 = j by omega] at hl2
    have r1 := Ro_in (wt := wt) (a := i) (b := j + 1) (by omega)
    have r2 := Ro_in (wt := wt) (a := i) (b := j) (by omega)
    apply Classical.byContradiction
    intro hn
    have hlt : Ro wt i (j + 1) < Ro wt i j := by omega
    have s1 := (Ro_le (wt := wt) (a := i) (b := j) (m := Ro wt i (j + 1)) r1.1 (by omega)).2 hlt
    have s2 := (Ro_le (wt := wt) (a := i) (b := j + 1) (m := Ro wt i j) r2.1 (by omega)).1
    have s3 := quad (wt := wt) (j + 1 - Ro wt i (j + 1)) (Ro wt i (j + 1)) (Ro wt i j) j (j + 1) (Nat.le_refl _) (by omega) (by omega) (by omega)
    omega
theorem La_right {i j : Nat} (h : i < j) (h2 : i + 1 < j) : La wt i j ≤ La wt (i + 1) j := by
  have hl := La_in (wt := wt) h
  have hl2 := La_in (wt := wt) h2
  have r1 := Ro_in (wt := wt) (a := i) (b := j + 1) (by omega)
  have r2 := Ro_in (wt := wt) (a := i + 1) (b := j + 1) (by omega)
  apply Classical.byContradiction
  intro hn
  have hlt : Ro wt (i + 1) (j + 1) < Ro wt i (j + 1) := by omega
  have s1 := (Ro_le (wt := wt) (a := i) (b := j + 1) (m := Ro wt (i + 1) (j + 1)) (by omega) r2.2).2 hlt
  have s2 := (Ro_le (wt := wt) (a := i + 1) (b := j + 1) (m := Ro wt i (j + 1)) (by omega) r1.2).1
  have s3 := quad (wt := wt) (Ro wt i (j + 1) - i) i (i + 1) (Ro wt (i + 1) (j + 1)) (Ro wt i (j + 1)) (Nat.le_refl _) (by omega) (by omega) (by omega)
  omega
theorem pf_le {n : Nat} (hw : ∀ k, k < n → wt k ≤ 600) : ∀ b, b ≤ n → pf wt b ≤ 600 * b
  | 0, _ => Nat.le_refl _
  | b + 1, h => by
    show pf wt b + wt b ≤ _
    have := pf_le hw b (by omega)
    have := hw b (by omega)
    omega
theorem Co_bound : ∀ (k a b : Nat), b - a ≤ k → a ≤ b → Co wt a b ≤ (pf wt b - pf wt a) * (b - a) := by
  intro k
  induction k with
  | zero => intro a b h1 h2; rw [Co_1 (by omega)]; exact Nat.zero_le _
  | succ k ih =>
    intro a b h1 h2
    by_cases q : b ≤ a + 1
    · rw [Co_1 q]; exact Nat.zero_le _
    · have hz := Ro_in (wt := wt) (a := a) (b := b) (by omega)
      rw [Co_2 (by omega)]
      generalize Ro wt a b = z at hz
      have i1 := ih a z (by omega) (by omega)
      have i2 := ih z b (by omega) (by omega)
      have p1 := pf_mono (wt := wt) (show a ≤ z by omega)
      have p2 := pf_mono (wt := wt) (show z ≤ b by omega)
      have m1 : (pf wt z - pf wt a) * (z - a) ≤ (pf wt z - pf wt a) * (b - a - 1) := Nat.mul_le_mul_left _ (by omega)
      have m2 : (pf wt b - pf wt z) * (b - z) ≤ (pf wt b - pf wt z) * (b - a - 1) := Nat.mul_le_mul_left _ (by omega)
      have m3 : (pf wt z - pf wt a) * (b - a - 1) + (pf wt b - pf wt z) * (b - a - 1) = (pf wt b - pf wt a) * (b - a - 1) := by
        rw [← Nat.add_mul, show pf wt z - pf wt a + (pf wt b - pf wt z) = pf wt b - pf wt a by omega]
      have m4 : (pf wt b - pf wt a) * (b - a) = (pf wt b - pf wt a) * (b - a - 1) + (pf wt b - pf wt a) := by
        rw [show b - a = b - a - 1 + 1 by omega, Nat.mul_succ, Nat.add_sub_cancel]
      omega
/-- bounds that keep all within an int -/
theorem Co_max {n a b : Nat} (hn : n ≤ 96) (hw : ∀ k, k < n → wt k ≤ 600) (hab : a ≤ b) (hb : b ≤ n) : Co wt a b ≤ 57600 * (b - a) ∧ pf wt b ≤ 57600 := by
  have h1 := pf_le hw b hb
  have h2 := Co_bound (wt := wt) (b - a) a b (Nat.le_refl _) hab
  have h3 : (pf wt b - pf wt a) * (b - a) ≤ 57600 * (b - a) := Nat.mul_le_mul_right _ (by omega)
  exact ⟨Nat.le_trans h2 h3, by omega⟩
end
