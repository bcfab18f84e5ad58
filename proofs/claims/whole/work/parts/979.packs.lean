/-! build: PACKAGES, the lists. -/
/-- how many of the first i items are leaves -/
def LC (n packs : Nat) (W pw : Nat → Nat) : Nat → Nat
  | 0 => 0
  | i + 1 => LC n packs W pw i + (if LC n packs W pw i < n ∧ (packs ≤ i - LC n packs W pw i ∨ W (LC n packs W pw i) ≤ pw (i - LC n packs W pw i)) then 1 else 0)
/-- is the i-th item a leaf -/
def isl (n packs : Nat) (W pw : Nat → Nat) (i : Nat) : Bool := decide (LC n packs W pw i < n ∧ (packs ≤ i - LC n packs W pw i ∨ W (LC n packs W pw i) ≤ pw (i - LC n packs W pw i)))
def itm (n packs : Nat) (W pw : Nat → Nat) (i : Nat) : Nat := if isl n packs W pw i then W (LC n packs W pw i) else pw (i - LC n packs W pw i)
section
variable {n packs : Nat} {W pw : Nat → Nat}
theorem LC_s (i : Nat) : LC n packs W pw (i + 1) = LC n packs W pw i + (if isl n packs W pw i then 1 else 0) := by
  show LC n packs W pw i + _ = _
  unfold isl
  simp
theorem LC_le_i : ∀ i, LC n packs W pw i ≤ i
  | 0 => Nat.le_refl _
  | i + 1 => by
    rw [LC_s]
    have := LC_le_i i
    split <;> omega
theorem LC_le : ∀ i, LC n packs W pw i ≤ n
  | 0 => Nat.zero_le _
  | i + 1 => by
    rw [LC_s]
    have := LC_le i
    by_cases h : isl n packs W pw i = true
    · have := (of_decide_eq_true h).1
      rw [if_pos h]; omega
    · rw [if_neg h]; omega
theorem LC_mono {i j : Nat} (h : i ≤ j) : LC n packs W pw i ≤ LC n packs W pw j := by
  obtain ⟨d, rfl⟩ : ∃ d, j = i + d := ⟨j - i, by omega⟩
  induction d with
  | zero => exact Nat.le_refl _
  | succ d ih =>
    have := ih (by omega)
    rw [← Nat.add_assoc, LC_s]
    omega
theorem PC_le : ∀ i, i ≤ n + packs → i - LC n packs W pw i ≤ packs
  | 0, _ => Nat.zero_le _
  | i + 1, h => by
    have a := PC_le i (by omega)
    have b := LC_le (n := n) (packs := packs) (W := W) (pw := pw) i
    have c := LC_le_i (n := n) (packs := packs) (W := W) (pw := pw) i
    rw [LC_s]
    by_cases q : isl n packs W pw i = true
    · rw [if_pos q]; omega
    · rw [if_neg q]
      have nq : ¬ (LC n packs W pw i < n ∧ (packs ≤ i - LC n packs W pw i ∨ W (LC n packs W pw i) ≤ pw (i - LC n packs W pw i))) := fun z => q (decide_eq_true z)
      by_cases q2 : LC n packs W pw i < n
      · have : ¬ packs ≤ i - LC n packs W pw i := fun z => nq ⟨q2, Or.inl z⟩
        omega
      · omega
/-- the j-th leaf stands somewhere -/
theorem LC_at {j t : Nat} (h : j < LC n packs W pw t) : ∃ x, x < t ∧ isl n packs W pw x = true ∧ LC n packs W pw x = j := by
  induction t with
  | zero => exact absurd h (Nat.not_lt_zero _)
  | succ t ih =>
    by_cases q : j < LC n packs W pw t
    · obtain ⟨x, x1, x2⟩ := ih q
      exact ⟨x, by omega, x2⟩
    · rw [LC_s] at h
      by_cases q2 : isl n packs W pw t = true
      · rw [if_pos q2] at h
        exact ⟨t, by omega, q2, by omega⟩
      · rw [if_neg q2] at h; omega
theorem PC_at {j t : Nat} (h : j < t - LC n packs W pw t) : ∃ x, x < t ∧ isl n packs W pw x = false ∧ x - LC n packs W pw x = j := by
  induction t with
  | zero => omega
  | succ t ih =>
    by_cases q : j < t - LC n packs W pw t
    · obtain ⟨x, x1, x2⟩ := ih q
      exact ⟨x, by omega, x2⟩
    · rw [LC_s] at h
      by_cases q2 : isl n packs W pw t = true
      · rw [if_pos q2] at h; omega
      · rw [if_neg q2] at h
        exact ⟨t, by omega, by simpa using q2, by omega⟩
theorem itm_pos (hW : ∀ j, j < n → 0 < W j) (hp : ∀ q, q < packs → 0 < pw q) {i : Nat} (hi : i < n + packs) : 0 < itm n packs W pw i := by
  unfold itm
  by_cases q : isl n packs W pw i = true
  · rw [if_pos q]; exact hW _ (of_decide_eq_true q).1
  · rw [if_neg q]
    refine hp _ ?_
    have nq : ¬ (LC n packs W pw i < n ∧ (packs ≤ i - LC n packs W pw i ∨ W (LC n packs W pw i) ≤ pw (i - LC n packs W pw i))) := fun z => q (decide_eq_true z)
    have b := LC_le (n := n) (packs := packs) (W := W) (pw := pw) i
    have c := LC_le_i (n := n) (packs := packs) (W := W) (pw := pw) i
    by_cases q2 : LC n packs W pw i < n
    · have : ¬ packs ≤ i - LC n packs W pw i := fun z => nq ⟨q2, Or.inl z⟩
      omega
    · omega
/-- sums -/
def sN (f : Nat → Nat) : Nat → Nat
  | 0 => 0
  | m + 1 => sN f m + f m
theorem sN_le_of {f : Nat → Nat} {i : Nat} : ∀ m, i < m → f i ≤ sN f m
  | 0, h => by omega
  | m + 1, h => by
    show f i ≤ sN f m + f m
    by_cases e : i = m
    · subst e; omega
    · have := sN_le_of (f := f) m (show i < m by omega); omega
theorem sN_mono {f : Nat → Nat} {a : Nat} : ∀ d, sN f a ≤ sN f (a + d)
  | 0 => Nat.le_refl _
  | d + 1 => Nat.le_trans (sN_mono d) (by show sN f (a + d) ≤ sN f (a + d) + _; omega)
theorem sN_bound {f : Nat → Nat} {c : Nat} : ∀ m, (∀ i, i < m → f i ≤ c) → sN f m ≤ m * c
  | 0, _ => by simp [sN]
  | m + 1, h => by
    show sN f m + f m ≤ _
    have := sN_bound m (fun i hi => h i (by omega))
    have := h m (by omega)
    rw [Nat.succ_mul]
    omega
theorem itm_sum (m : Nat) : sN (itm n packs W pw) m = sN W (LC n packs W pw m) + sN pw (m - LC n packs W pw m) := by
  induction m with
  | zero => rfl
  | succ m ih =>
    have c := LC_le_i (n := n) (packs := packs) (W := W) (pw := pw) m
    show sN (itm n packs W pw) m + itm n packs W pw m = _
    rw [ih, LC_s]
    unfold itm
    by_cases q : isl n packs W pw m = true
    · rw [if_pos q, if_pos q, show m + 1 - (LC n packs W pw m + 1) = m - LC n packs W pw m by omega]
      show _ = sN W (LC n packs W pw m) + W (LC n packs W pw m) + _
      omega
    · rw [if_neg q, if_neg q, Nat.add_zero, show m + 1 - LC n packs W pw m = (m - LC n packs W pw m) + 1 by omega]
      show _ = sN W (LC n packs W pw m) + (sN pw (m - LC n packs W pw m) + pw (m - LC n packs W pw m))
      omega
theorem sN_pairs (f : Nat → Nat) : ∀ m, sN (fun q => f (2 * q) + f (2 * q + 1)) m = sN f (2 * m)
  | 0 => rfl
  | m + 1 => by
    show sN (fun q => f (2 * q) + f (2 * q + 1)) m + (f (2 * m) + f (2 * m + 1)) = sN f (2 * m) + f (2 * m) + f (2 * m + 1)
    rw [sN_pairs f m]
    omega
end
/-- the list before the l-th: its items and its size -/
def pkP (n : Nat) (W : Nat → Nat) : Nat → (Nat → Nat) × Nat
  | 0 => (fun _ => 0, 0)
  | l + 1 => (itm n ((pkP n W l).2 / 2) W (fun q => (pkP n W l).1 (2 * q) + (pkP n W l).1 (2 * q + 1)), n + (pkP n W l).2 / 2)
def pkN (n : Nat) (W : Nat → Nat) (l : Nat) : Nat := (pkP n W l).2 / 2
def pkW (n : Nat) (W : Nat → Nat) (l q : Nat) : Nat := (pkP n W l).1 (2 * q) + (pkP n W l).1 (2 * q + 1)
/-- leaves among the first i items of the l-th list -/
def pkL (n : Nat) (W : Nat → Nat) (l i : Nat) : Nat := LC n (pkN n W l) W (pkW n W l) i
def pkI (n : Nat) (W : Nat → Nat) (l i : Nat) : Bool := isl n (pkN n W l) W (pkW n W l) i
theorem pkP_1 (n : Nat) (W : Nat → Nat) (l i : Nat) : (pkP n W (l + 1)).1 i = itm n (pkN n W l) W (pkW n W l) i := rfl
theorem pkP_2 (n : Nat) (W : Nat → Nat) (l : Nat) : (pkP n W (l + 1)).2 = n + pkN n W l := rfl
section
variable {n : Nat} {W : Nat → Nat}
theorem pk_size (hn : 1 ≤ n) : ∀ l, (pkP n W l).2 ≤ 2 * n - 1 ∧ pkN n W l + 1 ≤ n
  | 0 => ⟨Nat.zero_le _, by show 0 / 2 + 1 ≤ n; omega⟩
  | l + 1 => by
    have := (pk_size hn l).2
    unfold pkN
    rw [pkP_2]
    omega
theorem pk_pos (hW : ∀ j, j < n → 0 < W j) : ∀ l i, i < (pkP n W l).2 → 0 < (pkP n W l).1 i
  | 0, i, h => absurd h (Nat.not_lt_zero _)
  | l + 1, i, h => by
    rw [pkP_1]
    refine itm_pos hW (fun q hq => ?_) h
    have : 2 * q < (pkP n W l).2 := by unfold pkN at hq; omega
    have := pk_pos hW l (2 * q) this
    unfold pkW
    omega
theorem pk_sum (hn : n ≤ 96) (hW : ∀ j, j < n → W j ≤ 600) : ∀ l, sN (pkP n W l).1 (pkP n W l).2 ≤ 57600 * l
  | 0 => Nat.le_refl _
  | l + 1 => by
    have ih := pk_sum hn hW l
    have e : sN (pkP n W (l + 1)).1 (pkP n W (l + 1)).2 = sN (itm n (pkN n W l) W (pkW n W l)) (n + pkN n W l) := rfl
    have l1 := LC_le (n := n) (packs := pkN n W l) (W := W) (pw := pkW n W l) (n + pkN n W l)
    have l2 := PC_le (n := n) (packs := pkN n W l) (W := W) (pw := pkW n W l) (n + pkN n W l) (Nat.le_refl _)
    rw [e, itm_sum]
    generalize LC n (pkN n W l) W (pkW n W l) (n + pkN n W l) = a at l1 l2
    have s1 : sN W a ≤ 57600 := by
      have := sN_bound (f := W) (c := 600) a (fun i hi => hW i (by omega))
      omega
    have s2 : sN (pkW n W l) (n + pkN n W l - a) ≤ sN (pkP n W l).1 (pkP n W l).2 := by
      have h1 : sN (pkW n W l) (n + pkN n W l - a) = sN (pkP n W l).1 (2 * (n + pkN n W l - a)) := sN_pairs (pkP n W l).1 _
      rw [h1]
      have h2 : 2 * (n + pkN n W l - a) ≤ (pkP n W l).2 := by unfold pkN at l2 ⊢; omega
      have := sN_mono (f := (pkP n W l).1) (a := 2 * (n + pkN n W l - a)) ((pkP n W l).2 - 2 * (n + pkN n W l - a))
      rw [show 2 * (n + pkN n W l - a) + ((pkP n W l).2 - 2 * (n + pkN n W l - a)) = (pkP n W l).2 by omega] at this
      exact this
    omega
theorem pk_it (hn : n ≤ 96) (hW : ∀ j, j < n → W j ≤ 600) {l i : Nat} (hl : l ≤ 30) (hi : i < (pkP n W l).2) : (pkP n W l).1 i ≤ 1728000 := by
  have := pk_sum hn hW l
  have := sN_le_of (f := (pkP n W l).1) _ hi
  omega
theorem pk_w (hn : n ≤ 96) (hW : ∀ j, j < n → W j ≤ 600) {l q : Nat} (hl : l ≤ 30) (hq : q < pkN n W l) : pkW n W l q ≤ 3456000 := by
  unfold pkW
  unfold pkN at hq
  have := pk_it hn hW hl (i := 2 * q) (by omega)
  have := pk_it hn hW hl (i := 2 * q + 1) (by omega)
  omega
/-- with lists enough, the last has two items for each leaf but one -/
theorem pk_last (hn : 1 ≤ n) {m : Nat} (hm : 1 ≤ m) (h : n ≤ 2 ^ m) : 2 * n - 2 ≤ (pkP n W m).2 := by
  have key : ∀ l, l + 1 ≤ m → 2 * n ≤ (pkP n W (l + 1)).2 + 2 ^ (m - l) := fun l => by
    induction l with
    | zero =>
      intro _
      rw [pkP_2]
      show 2 * n ≤ n + 0 / 2 + 2 ^ (m - 0)
      rw [Nat.sub_zero]
      omega
    | succ l ih =>
      intro hl
      have i1 := ih (by omega)
      have hs := (pk_size (W := W) hn (l + 1)).1
      rw [pkP_2 n W (l + 1)]
      unfold pkN
      rw [show m - l = m - (l + 1) + 1 by omega, Nat.pow_succ] at i1
      omega
  have := key (m - 1) (by omega)
  rw [show m - 1 + 1 = m by omega, show m - (m - 1) = 1 by omega] at this
  omega
/-- what is taken of a list, from the last one down: t of the l-th -/
def Tk (n : Nat) (W : Nat → Nat) (m : Nat) (t : Nat → Nat) : Prop := t (m - 1) = 2 * n - 2 ∧ ∀ l, 0 < l → l < m → t (l - 1) = 2 * (t l - pkL n W l (t l))
theorem tk_le (hn : 1 ≤ n) {m : Nat} {t : Nat → Nat} (hm : 1 ≤ m) (h : n ≤ 2 ^ m) (ht : Tk n W m t) : ∀ j l, l + j = m - 1 → t l ≤ (pkP n W (l + 1)).2 := by
  intro j
  induction j with
  | zero =>
    intro l hl
    obtain rfl : l = m - 1 := by omega
    rw [ht.1, show m - 1 + 1 = m by omega]
    exact pk_last hn hm h
  | succ j ih =>
    intro l hl
    have i1 := ih (l + 1) (by omega)
    have e := ht.2 (l + 1) (by omega) (by omega)
    rw [Nat.add_sub_cancel] at e
    rw [pkP_2 n W (l + 1)] at i1
    have := PC_le (n := n) (packs := pkN n W (l + 1)) (W := W) (pw := pkW n W (l + 1)) (t (l + 1)) i1
    rw [e]
    unfold pkL
    unfold pkN at this ⊢
    omega
theorem tk_mono (hW : ∀ j, j < n → 0 < W j) (hs : ∀ i j, i < j → j < n → W i ≤ W j) {l tl : Nat} (htl : tl ≤ (pkP n W (l + 2)).2) : pkL n W l (2 * (tl - pkL n W (l + 1) tl)) ≤ pkL n W (l + 1) tl := by
  rcases Nat.eq_zero_or_pos (pkL n W l (2 * (tl - pkL n W (l + 1) tl))) with z | z
  · omega
  · generalize ha : pkL n W l (2 * (tl - pkL n W (l + 1) tl)) = a at z
    obtain ⟨x, x1, x2, x3⟩ := LC_at (n := n) (packs := pkN n W l) (W := W) (pw := pkW n W l) (j := a - 1) (t := 2 * (tl - pkL n W (l + 1) tl)) (by rw [show LC n (pkN n W l) W (pkW n W l) (2 * (tl - pkL n W (l + 1) tl)) = a from ha]; omega)
    obtain ⟨y, y1, y2, y3⟩ := PC_at (n := n) (packs := pkN n W (l + 1)) (W := W) (pw := pkW n W (l + 1)) (j := x / 2) (t := tl) (by show x / 2 < tl - pkL n W (l + 1) tl; omega)
    have xs := of_decide_eq_true x2
    rw [x3] at xs
    have ny : ¬ (LC n (pkN n W (l + 1)) W (pkW n W (l + 1)) y < n ∧ (pkN n W (l + 1) ≤ y - LC n (pkN n W (l + 1)) W (pkW n W (l + 1)) y ∨ W (LC n (pkN n W (l + 1)) W (pkW n W (l + 1)) y) ≤ pkW n W (l + 1) (y - LC n (pkN n W (l + 1)) W (pkW n W (l + 1)) y))) := fun q => by
      have : isl n (pkN n W (l + 1)) W (pkW n W (l + 1)) y = true := decide_eq_true q
      rw [this] at y2
      exact absurd y2 (by decide)
    rw [y3] at ny
    have hp : x / 2 < pkN n W (l + 1) := by
      have := PC_le (n := n) (packs := pkN n W (l + 1)) (W := W) (pw := pkW n W (l + 1)) tl htl
      have e : pkL n W (l + 1) tl = LC n (pkN n W (l + 1)) W (pkW n W (l + 1)) tl := rfl
      omega
    have hx : (pkP n W (l + 1)).1 x = W (a - 1) := by
      rw [pkP_1]
      unfold itm
      rw [if_pos x2, x3]
    have hw : W (a - 1) < pkW n W (l + 1) (x / 2) := by
      unfold pkW
      unfold pkN at hp
      have p0 := pk_pos hW (l + 1) (2 * (x / 2)) (by omega)
      have p1 := pk_pos hW (l + 1) (2 * (x / 2) + 1) (by omega)
      have : x = 2 * (x / 2) ∨ x = 2 * (x / 2) + 1 := by omega
      rcases this with e | e
      · rw [e] at hx
        omega
      · rw [e] at hx
        omega
    have hy : a - 1 < LC n (pkN n W (l + 1)) W (pkW n W (l + 1)) y := by
      rcases Nat.lt_or_ge (a - 1) (LC n (pkN n W (l + 1)) W (pkW n W (l + 1)) y) with q | q
      · exact q
      · exfalso
        refine ny ⟨by omega, Or.inr ?_⟩
        by_cases e : LC n (pkN n W (l + 1)) W (pkW n W (l + 1)) y = a - 1
        · rw [e]; omega
        · have := hs _ _ (show LC n (pkN n W (l + 1)) W (pkW n W (l + 1)) y < a - 1 by omega) xs.1
          omega
    have := LC_mono (n := n) (packs := pkN n W (l + 1)) (W := W) (pw := pkW n W (l + 1)) (Nat.le_of_lt y1)
    unfold pkL
    omega
end
