/-! Trees of beginnings: a node more, a code more. -/
def TreeG (R : Nat) (Pre : Nat → Nat → Prop) (Cod : Nat → Nat → Nat → Prop) (N : Nat) (pre : Nat → Nat × Nat) (below : Nat → Int32) : Prop :=
  (pre 0 = (0, 0) ∧ 1 ≤ N) ∧ (∀ v, v < N → Pre (pre v).1 (pre v).2) ∧ (∀ v n, Pre v n → ∃ w, w < N ∧ pre w = (v, n)) ∧ (∀ v w, v < N → w < N → pre v = pre w → v = w) ∧
  (∀ v b, v < N → b < 2 → (∀ s, Cod (2 * (pre v).1 + b) ((pre v).2 + 1) s → below (2 * v + b) = (-1 : Int32) - nI s) ∧ (∀ w, w < N → pre w = (2 * (pre v).1 + b, (pre v).2 + 1) → below (2 * v + b) = nI w) ∧
    ((¬ ∃ s, Cod (2 * (pre v).1 + b) ((pre v).2 + 1) s) → ¬ Pre (2 * (pre v).1 + b) ((pre v).2 + 1) → below (2 * v + b) = 0)) ∧
  (∀ v b n, b < 2 → Pre (2 * v + b) (n + 1) → Pre v n) ∧ (∀ v b n s, b < 2 → Cod (2 * v + b) (n + 1) s → Pre v n) ∧ ∀ i, 2 * N ≤ i → i < R → below i = 0
theorem TreeG.congr {R N : Nat} {Pre Pre' : Nat → Nat → Prop} {Cod Cod' : Nat → Nat → Nat → Prop} {pre : Nat → Nat × Nat} {below : Nat → Int32} (h : TreeG R Pre Cod N pre below) (hP : ∀ a m, Pre a m ↔ Pre' a m) (hC : ∀ a m s, Cod a m s ↔ Cod' a m s) : TreeG R Pre' Cod' N pre below := by
  obtain rfl : Pre = Pre' := funext fun a => funext fun m => propext (hP a m)
  obtain rfl : Cod = Cod' := funext fun a => funext fun m => funext fun s => propext (hC a m s)
  exact h
theorem TreeG.node {R N w v n b : Nat} {Pre : Nat → Nat → Prop} {Cod : Nat → Nat → Nat → Prop} {pre : Nat → Nat × Nat} {below : Nat → Int32} (h : TreeG R Pre Cod N pre below) (hw : w < N) (hv : pre w = (v, n)) (hb : b < 2) (hP : ¬ Pre (2 * v + b) (n + 1)) (hC : ∀ s, ¬ Cod (2 * v + b) (n + 1) s) (hR : 2 * N + 2 ≤ R) :
    TreeG R (fun a m => Pre a m ∨ (a = 2 * v + b ∧ m = n + 1)) Cod (N + 1) (fun k => if k = N then (2 * v + b, n + 1) else pre k) (upd below (2 * w + b) (nI N)) := by
  obtain ⟨⟨a1, a2⟩, a3, a4, a5, a6, a7, a8, a9⟩ := h
  have hvn : Pre v n := by have := a3 w hw; rw [hv] at this; exact this
  have pN : ∀ k, k < N → (fun k => if k = N then (2 * v + b, n + 1) else pre k) k = pre k := fun k hk => if_neg (by omega)
  have pE : (fun k => if k = N then (2 * v + b, n + 1) else pre k) N = (2 * v + b, n + 1) := if_pos rfl
  have no : ∀ k, k < N → pre k ≠ (2 * v + b, n + 1) := fun k hk e => hP (by have := a3 k hk; rw [e] at this; exact this)
  refine ⟨⟨?_, by omega⟩, fun x hx => ?_, fun x m hx => ?_, fun x y hx hy hxy => ?_, fun x c hx hc => ?_, fun x c m hc hx => ?_, fun x c m s hc hx => Or.inl (a8 x c m s hc hx), fun i hi hiR => ?_⟩
  · exact (pN 0 (by omega)).trans a1
  · by_cases e : x = N
    · subst e
      exact Or.inr (by rw [pE]; exact ⟨rfl, rfl⟩)
    · rw [pN x (by omega)]
      exact Or.inl (a3 x (by omega))
  · rcases hx with hx | ⟨rfl, rfl⟩
    · obtain ⟨y, y1, y2⟩ := a4 x m hx
      exact ⟨y, by omega, (pN y y1).trans y2⟩
    · exact ⟨N, by omega, pE⟩
  · by_cases ex : x = N
    · by_cases ey : y = N
      · omega
      · subst ex
        rw [pE, pN y (by omega)] at hxy
        exact absurd hxy.symm (no y (by omega))
    · by_cases ey : y = N
      · subst ey
        rw [pE, pN x (by omega)] at hxy
        exact absurd hxy (no x (by omega))
      · rw [pN x (by omega), pN y (by omega)] at hxy
        exact a5 x y (by omega) (by omega) hxy
  · by_cases e : x = N
    · subst e
      rw [pE]
      have z : upd below (2 * w + b) (nI x) (2 * x + c) = 0 := by rw [pk_un (by omega)]; exact a9 _ (by omega) (by omega)
      refine ⟨fun s hs => absurd (a8 _ _ _ _ hc hs) hP, fun k hk hk2 => ?_, fun _ _ => z⟩
      by_cases ek : k = x
      · subst ek
        rw [pE] at hk2
        have := congrArg Prod.snd hk2
        simp at this
      · rw [pN k (by omega)] at hk2
        have h3 := a3 k (by omega)
        rw [hk2] at h3
        exact absurd (a7 _ _ _ hc h3) hP
    · rw [pN x (by omega)]
      obtain ⟨b1, b2, b3⟩ := a6 x c (by omega) hc
      by_cases e2 : x = w ∧ c = b
      · obtain ⟨rfl, rfl⟩ := e2
        rw [hv]
        refine ⟨fun s hs => absurd hs (hC s), fun k hk hk2 => ?_, fun _ q => absurd (Or.inr ⟨rfl, rfl⟩) q⟩
        by_cases ek : k = N
        · subst ek; exact pk_us
        · rw [pN k (by omega)] at hk2
          exact absurd hk2 (no k (by omega))
      · have ne : 2 * x + c ≠ 2 * w + b := by omega
        rw [pk_un ne]
        refine ⟨b1, fun k hk hk2 => ?_, fun q1 q2 => b3 q1 (fun q => q2 (Or.inl q))⟩
        by_cases ek : k = N
        · subst ek
          rw [pE] at hk2
          have q1 := congrArg Prod.fst hk2
          have q2 := congrArg Prod.snd hk2
          simp only at q1 q2
          have q3 : x = w := a5 x w (by omega) hw (by
            rw [hv]
            exact Prod.ext (by show (pre x).1 = v; omega) (by show (pre x).2 = n; omega))
          exact absurd ⟨q3, by omega⟩ e2
        · rw [pN k (by omega)] at hk2
          exact b2 k (by omega) hk2
  · rcases hx with hx | ⟨q1, q2⟩
    · exact Or.inl (a7 _ _ _ hc hx)
    · obtain rfl : x = v := by omega
      obtain rfl : m = n := by omega
      exact Or.inl hvn
  · rw [pk_un (by omega)]
    exact a9 i (by omega) hiR
theorem TreeG.code {R N w v n b s : Nat} {Pre : Nat → Nat → Prop} {Cod : Nat → Nat → Nat → Prop} {pre : Nat → Nat × Nat} {below : Nat → Int32} (h : TreeG R Pre Cod N pre below) (hw : w < N) (hv : pre w = (v, n)) (hb : b < 2) (hP : ¬ Pre (2 * v + b) (n + 1)) (hC : ∀ s, ¬ Cod (2 * v + b) (n + 1) s) :
    TreeG R Pre (fun a m s' => Cod a m s' ∨ (a = 2 * v + b ∧ m = n + 1 ∧ s' = s)) N pre (upd below (2 * w + b) ((-1 : Int32) - nI s)) := by
  obtain ⟨a1, a3, a4, a5, a6, a7, a8, a9⟩ := h
  have hvn : Pre v n := by have := a3 w hw; rw [hv] at this; exact this
  have no : ∀ k, k < N → pre k ≠ (2 * v + b, n + 1) := fun k hk e => hP (by have := a3 k hk; rw [e] at this; exact this)
  refine ⟨a1, a3, a4, a5, fun x c hx hc => ?_, a7, fun x c m s' hc hx => ?_, fun i hi hiR => ?_⟩
  · obtain ⟨b1, b2, b3⟩ := a6 x c hx hc
    by_cases e2 : x = w ∧ c = b
    · obtain ⟨rfl, rfl⟩ := e2
      rw [hv, pk_us]
      refine ⟨fun s' hs => ?_, fun k hk hk2 => absurd hk2 (no k hk), fun q _ => absurd ⟨s, Or.inr ⟨rfl, rfl, rfl⟩⟩ q⟩
      rcases hs with hs | ⟨_, _, rfl⟩
      · exact absurd hs (hC s')
      · rfl
    · have ne : 2 * x + c ≠ 2 * w + b := by omega
      rw [pk_un ne]
      refine ⟨fun s' hs => ?_, b2, fun q1 q2 => b3 (fun ⟨s', q⟩ => q1 ⟨s', Or.inl q⟩) q2⟩
      rcases hs with hs | ⟨q1, q2, _⟩
      · exact b1 s' hs
      · have q3 : x = w := a5 x w hx hw (by
          rw [hv]
          exact Prod.ext (by show (pre x).1 = v; omega) (by show (pre x).2 = n; omega))
        exact absurd ⟨q3, by omega⟩ e2
  · rcases hx with hx | ⟨q1, q2, _⟩
    · exact a8 x c m s' hc hx
    · obtain rfl : x = v := by omega
      obtain rfl : m = n := by omega
      exact hvn
  · rw [pk_un (by omega)]
    exact a9 i hi hiR
/-! How many nodes. -/
def ones (n : Nat) : Nat := if h : n = 0 then 0 else n % 2 + ones (n / 2)
termination_by n
decreasing_by omega
theorem ones_2 (f : Nat) : ones (2 * f) = ones f := by
  by_cases h : f = 0
  · subst h; rfl
  · rw [ones, dif_neg (by omega), show 2 * f % 2 = 0 by omega, show 2 * f / 2 = f by omega, Nat.zero_add]
theorem ones_21 (f : Nat) : ones (2 * f + 1) = ones f + 1 := by
  rw [ones, dif_neg (by omega), show (2 * f + 1) % 2 = 1 by omega, show (2 * f + 1) / 2 = f by omega, Nat.add_comm]
theorem ones_t (e : Nat) : ∀ t, ones (2 ^ t * e + (2 ^ t - 1)) = ones e + t
  | 0 => by simp
  | t + 1 => by
    have hp : 0 < 2 ^ t := Nat.pow_pos (by decide)
    have e1 : 2 ^ (t + 1) * e + (2 ^ (t + 1) - 1) = 2 * (2 ^ t * e + (2 ^ t - 1)) + 1 := by
      rw [Nat.pow_succ, Nat.mul_comm (2 ^ t) 2, Nat.mul_assoc]
      omega
    rw [e1, ones_21, ones_t e t, Nat.add_assoc]
/-- how many of the k lowest bits are the first one, or behind it -/
def tzc (e : Nat) : Nat → Nat
  | 0 => 0
  | k + 1 => tzc e k + (if 2 ^ (k + 1) ∣ e then 1 else 0)
theorem tzc_0 : ∀ k, tzc 0 k = k
  | 0 => rfl
  | k + 1 => by
    unfold tzc
    rw [tzc_0 k, if_pos (Nat.dvd_zero _)]
theorem tzc_2 (f : Nat) : ∀ m, tzc (2 * f) (m + 1) = tzc f m + 1
  | 0 => by
    unfold tzc
    rw [if_pos (by rw [Nat.zero_add, Nat.pow_one]; exact ⟨f, rfl⟩)]
    rfl
  | m + 1 => by
    show tzc (2 * f) (m + 1) + _ = tzc f m + _ + 1
    rw [tzc_2 f m]
    have : 2 ^ (m + 1 + 1) ∣ 2 * f ↔ 2 ^ (m + 1) ∣ f := by
      rw [Nat.pow_succ, Nat.mul_comm (2 ^ (m + 1)) 2]
      exact Nat.mul_dvd_mul_iff_left (by decide)
    by_cases h : 2 ^ (m + 1) ∣ f
    · rw [if_pos (this.mpr h), if_pos h]
    · rw [if_neg (fun z => h (this.mp z)), if_neg h]
theorem tzc_odd (f : Nat) : ∀ m, tzc (2 * f + 1) m = 0
  | 0 => rfl
  | m + 1 => by
    unfold tzc
    rw [tzc_odd f m, if_neg (fun z => ?_)]
    have : 2 ∣ 2 * f + 1 := Nat.dvd_trans ⟨2 ^ m, by rw [Nat.pow_succ, Nat.mul_comm]⟩ z
    omega
theorem tz_ones : ∀ (u e m : Nat), e ≤ u → 0 < e → tzc e m + ones e ≤ ones (e - 1) + 1 := by
  intro u
  induction u with
  | zero => intro e m h1 h2; omega
  | succ u ih =>
    intro e m h1 h2
    rcases Nat.mod_two_eq_zero_or_one e with h | h
    · obtain ⟨f, rfl⟩ : ∃ f, e = 2 * f := ⟨e / 2, by omega⟩
      cases m with
      | zero =>
        have := ih f 0 (by omega) (by omega)
        rw [ones_2, show 2 * f - 1 = 2 * (f - 1) + 1 by omega, ones_21]
        unfold tzc at this ⊢
        omega
      | succ m =>
        have := ih f m (by omega) (by omega)
        rw [tzc_2, ones_2, show 2 * f - 1 = 2 * (f - 1) + 1 by omega, ones_21]
        omega
    · obtain ⟨f, rfl⟩ : ∃ f, e = 2 * f + 1 := ⟨e / 2, by omega⟩
      rw [tzc_odd, ones_21, show 2 * f + 1 - 1 = 2 * f by omega, ones_2]
      omega
/-- N nodes suffice for j codes that end at E -/
def cnB (N j E : Nat) : Prop := (E = 0 ∧ N = 1) ∨ (0 < E ∧ N + ones (E - 1) ≤ j + 23)
theorem cnB_step {N j e L : Nat} (hL : L ≤ 24) (hL1 : 0 < L) (h : cnB N j (2 ^ (24 - L) * e)) : cnB (N + tzc e (L - 1)) (j + 1) (2 ^ (24 - L) * e + 2 ^ (24 - L)) ∧ N + tzc e (L - 1) ≤ j + L := by
  have hp : 0 < 2 ^ (24 - L) := Nat.pow_pos (by decide)
  have o1 := ones_t e (24 - L)
  rw [← show 2 ^ (24 - L) * e + 2 ^ (24 - L) - 1 = 2 ^ (24 - L) * e + (2 ^ (24 - L) - 1) by omega] at o1
  rcases h with ⟨h1, h2⟩ | ⟨h1, h2⟩
  · have e0 : e = 0 := by
      rcases Nat.mul_eq_zero.mp h1 with q | q
      · omega
      · exact q
    subst e0
    rw [tzc_0]
    have : ones 0 = 0 := by rw [ones]; rfl
    refine ⟨Or.inr ⟨by omega, by omega⟩, by omega⟩
  · have e0 : 0 < e := by
      rcases Nat.eq_zero_or_pos e with q | q
      · subst q; simp at h1
      · exact q
    have o2 := ones_t (e - 1) (24 - L)
    rw [show 2 ^ (24 - L) * (e - 1) + (2 ^ (24 - L) - 1) = 2 ^ (24 - L) * e - 1 by
      obtain ⟨f, rfl⟩ : ∃ f, e = f + 1 := ⟨e - 1, by omega⟩
      rw [Nat.mul_succ, Nat.add_sub_cancel]
      omega] at o2
    have := tz_ones e e (L - 1) (Nat.le_refl _) e0
    refine ⟨Or.inr ⟨by omega, by omega⟩, by omega⟩
