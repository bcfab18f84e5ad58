/-! build: PACKAGES, the sum of shares. -/
theorem sN_congr {f g : Nat → Nat} : ∀ m, (∀ i, i < m → f i = g i) → sN f m = sN g m
  | 0, _ => rfl
  | m + 1, h => by
    show sN f m + f m = sN g m + g m
    rw [sN_congr m (fun i hi => h i (by omega)), h m (by omega)]
theorem sN_ext {f : Nat → Nat} {p v : Nat} : ∀ m, p < m → sN (ext f p v) m + f p = sN f m + v
  | 0, h => by omega
  | m + 1, h => by
    show sN (ext f p v) m + ext f p v m + f p = sN f m + f m + v
    by_cases e : p = m
    · subst e
      rw [ext_s, sN_congr (f := ext f p v) (g := f) p (fun i hi => ext_o (by omega))]
      omega
    · have := sN_ext (f := f) (v := v) m (show p < m by omega)
      rw [ext_o (fun z => e z.symm)]
      omega
theorem sN_perm (F : Nat → Nat) : ∀ (n : Nat) (li : Nat → Nat), Prm n li → sN (fun i => F (li i)) n = sN F n := by
  intro n
  induction n with
  | zero => intro li _; rfl
  | succ n ih =>
    intro li h
    obtain ⟨p, p1, p2⟩ := h.sur (x := n) (by omega)
    have hP : Prm n (ext li p (li n)) := by
      refine ⟨fun i hi => ?_, fun i j hi hj e => ?_⟩
      · by_cases e : i = p
        · subst e
          rw [ext_s]
          have := h.1 n (by omega)
          have ne : li n ≠ n := fun z => by have := h.2 n i (by omega) (by omega) (by rw [z, p2]); omega
          omega
        · rw [ext_o e]
          have := h.1 i (by omega)
          have ne : li i ≠ n := fun z => e (h.2 i p (by omega) p1 (by rw [z, p2]))
          omega
      · by_cases ei : i = p
        · by_cases ej : j = p
          · omega
          · subst ei; rw [ext_s, ext_o ej] at e
            have := h.2 n j (by omega) (by omega) e; omega
        · by_cases ej : j = p
          · subst ej; rw [ext_s, ext_o ei] at e
            have := h.2 i n (by omega) (by omega) e; omega
          · rw [ext_o ei, ext_o ej] at e
            exact h.2 i j (by omega) (by omega) e
    have i1 := ih _ hP
    show sN (fun i => F (li i)) n + F (li n) = sN F n + F n
    rw [← i1]
    by_cases e : p = n
    · subst e
      rw [sN_congr (f := fun i => F (ext li p (li p) i)) (g := fun i => F (li i)) p (fun i hi => by show F (ext li p (li p) i) = F (li i); rw [ext_o (by omega)]), p2]
    · have := sN_ext (f := fun i => F (li i)) (p := p) (v := F (li n)) n (by omega)
      rw [sN_congr (f := fun i => F (ext li p (li n) i)) (g := ext (fun i => F (li i)) p (F (li n))) n (fun i hi => by
        show F (ext li p (li n) i) = ext (fun i => F (li i)) p (F (li n)) i
        by_cases q : i = p
        · subst q; rw [ext_s, ext_s]
        · rw [ext_o q, ext_o q])]
      rw [show F n = F (li p) by rw [p2]]
      have e2 : (fun i => F (li i)) p = F (li p) := rfl
      omega
/-- in how many of the first c lists the i-th leaf is taken -/
def dpk (a : Nat → Nat) : Nat → Nat → Nat
  | 0, _ => 0
  | c + 1, i => dpk a c i + (if i < a c then 1 else 0)
theorem dpk_le (a : Nat → Nat) (i : Nat) : ∀ c, dpk a c i ≤ c
  | 0 => Nat.le_refl _
  | c + 1 => by
    unfold dpk
    have := dpk_le a i c
    split <;> omega
theorem dpk_0 {a : Nat → Nat} {i : Nat} : ∀ c, (∀ l, l < c → a l ≤ i) → dpk a c i = 0
  | 0, _ => rfl
  | c + 1, h => by
    unfold dpk
    rw [dpk_0 c (fun l hl => h l (by omega)), if_neg (by have := h c (by omega); omega)]
theorem pack_kraft {n m : Nat} {W t : Nat → Nat} (hn : 2 ≤ n) (hm : 1 ≤ m) (hm24 : m ≤ 24) (h : n ≤ 2 ^ m) (hW : ∀ j, j < n → 0 < W j) (hs : ∀ i j, i < j → j < n → W i ≤ W j) (ht : Tk n W m t) :
    sN (fun i => 2 ^ (24 - dpk (fun l => pkL n W l (t l)) m i)) (pkL n W (m - 1) (t (m - 1))) ≤ 16777216 ∧ 1 ≤ pkL n W (m - 1) (t (m - 1)) ∧ ∀ l, l < m → pkL n W l (t l) ≤ pkL n W (m - 1) (t (m - 1)) := by
  have tl : ∀ l, l < m → t l ≤ (pkP n W (l + 1)).2 := fun l hl => tk_le (by omega) hm h ht (m - 1 - l) l (by omega)
  generalize ha : (fun l => pkL n W l (t l)) = a
  have ea : ∀ l, pkL n W l (t l) = a l := fun l => by rw [← ha]
  have mono1 : ∀ l, l + 1 < m → a l ≤ a (l + 1) := fun l hl => by
    have e := ht.2 (l + 1) (by omega) hl
    rw [Nat.add_sub_cancel] at e
    have := tk_mono hW hs (l := l) (tl := t (l + 1)) (tl (l + 1) hl)
    rw [← e, ea, ea] at this
    exact this
  have mono : ∀ d l, l + d < m → a l ≤ a (l + d) := fun d => by
    induction d with
    | zero => intro l _; exact Nat.le_refl _
    | succ d ih => intro l hl; exact Nat.le_trans (ih l (by omega)) (mono1 (l + d) (by omega))
  have key : ∀ l, l < m → sN (fun i => 2 ^ (24 - dpk a (l + 1) i)) (a l) + 8388608 * t l = 16777216 * a l := fun l => by
    induction l with
    | zero =>
      intro h0
      have e1 : a 0 = t 0 := by
        have := PC_le (n := n) (packs := pkN n W 0) (W := W) (pw := pkW n W 0) (t 0) (tl 0 h0)
        have l0 := LC_le_i (n := n) (packs := pkN n W 0) (W := W) (pw := pkW n W 0) (t 0)
        have n0 : pkN n W 0 = 0 := Nat.zero_div 2
        rw [← ea]
        unfold pkL
        omega
      have e2 : ∀ x, x ≤ a 0 → sN (fun i => 2 ^ (24 - dpk a (0 + 1) i)) x = 8388608 * x := fun x => by
        induction x with
        | zero => intro _; rfl
        | succ x ih =>
          intro hx
          show sN (fun i => 2 ^ (24 - dpk a (0 + 1) i)) x + 2 ^ (24 - dpk a (0 + 1) x) = _
          rw [ih (by omega), show dpk a (0 + 1) x = 1 by show 0 + (if x < a 0 then 1 else 0) = 1; rw [if_pos (by omega)]]
          show 8388608 * x + 8388608 = _
          omega
      rw [e2 _ (Nat.le_refl _), ← e1]
      omega
    | succ l ih =>
      intro hl
      have i1 := ih (by omega)
      have mo := mono1 l hl
      have et := ht.2 (l + 1) (by omega) hl
      rw [Nat.add_sub_cancel, ea] at et
      have lt := LC_le_i (n := n) (packs := pkN n W (l + 1)) (W := W) (pw := pkW n W (l + 1)) (t (l + 1))
      have lt2 : a (l + 1) ≤ t (l + 1) := by rw [← ea]; exact lt
      have f1 : ∀ x, x ≤ a l → 2 * sN (fun i => 2 ^ (24 - dpk a (l + 1 + 1) i)) x = sN (fun i => 2 ^ (24 - dpk a (l + 1) i)) x := fun x => by
        induction x with
        | zero => intro _; rfl
        | succ x ihx =>
          intro hx
          show 2 * (sN (fun i => 2 ^ (24 - dpk a (l + 1 + 1) i)) x + 2 ^ (24 - dpk a (l + 1 + 1) x)) = sN (fun i => 2 ^ (24 - dpk a (l + 1) i)) x + 2 ^ (24 - dpk a (l + 1) x)
          rw [← ihx (by omega), show dpk a (l + 1 + 1) x = dpk a (l + 1) x + 1 by show dpk a (l + 1) x + _ = _; rw [if_pos (by omega)]]
          have := dpk_le a x (l + 1)
          rw [show 24 - dpk a (l + 1) x = (24 - (dpk a (l + 1) x + 1)) + 1 by omega, Nat.pow_succ]
          omega
      have f2 : ∀ x, a l + x ≤ a (l + 1) → sN (fun i => 2 ^ (24 - dpk a (l + 1 + 1) i)) (a l + x) = sN (fun i => 2 ^ (24 - dpk a (l + 1 + 1) i)) (a l) + 8388608 * x := fun x => by
        induction x with
        | zero => intro _; rfl
        | succ x ihx =>
          intro hx
          show sN (fun i => 2 ^ (24 - dpk a (l + 1 + 1) i)) (a l + x) + 2 ^ (24 - dpk a (l + 1 + 1) (a l + x)) = _
          have z : dpk a (l + 1) (a l + x) = 0 := dpk_0 (l + 1) (fun l' hl' => by
            have := mono (l - l') l' (by omega)
            rw [show l' + (l - l') = l by omega] at this
            omega)
          rw [ihx (by omega), show dpk a (l + 1 + 1) (a l + x) = 1 by show dpk a (l + 1) (a l + x) + _ = _; rw [z, if_pos (by omega)]]
          show _ + 8388608 = _
          omega
      have f3 := f1 (a l) (Nat.le_refl _)
      have f4 := f2 (a (l + 1) - a l) (by omega)
      rw [show a l + (a (l + 1) - a l) = a (l + 1) by omega] at f4
      omega
  have k1 := key (m - 1) (by omega)
  rw [show m - 1 + 1 = m by omega, ht.1] at k1
  have ln := LC_le (n := n) (packs := pkN n W (m - 1)) (W := W) (pw := pkW n W (m - 1)) (t (m - 1))
  have an : a (m - 1) ≤ n := by rw [← ea]; exact ln
  rw [ea]
  refine ⟨by omega, by omega, fun l hl => ?_⟩
  rw [ea]
  have := mono (m - 1 - l) l (by omega)
  rw [show l + (m - 1 - l) = m - 1 by omega] at this
  exact this
theorem shP_sN (d : Nat → Nat) : ∀ n, shP d n = sN (fun k => if 0 < d k then 2 ^ (24 - d k) else 0) n
  | 0 => rfl
  | n + 1 => by
    show shP d n + _ = sN (fun k => if 0 < d k then 2 ^ (24 - d k) else 0) n + _
    rw [shP_sN d n]
theorem pack_msr {n m : Nat} {W t d li : Nat → Nat} (hn : 2 ≤ n) (hm : 1 ≤ m) (hm24 : m ≤ 24) (h : n ≤ 2 ^ m) (hW : ∀ j, j < n → 0 < W j) (hs : ∀ i j, i < j → j < n → W i ≤ W j) (ht : Tk n W m t) (hP : Prm n li) (hd : ∀ i, i < n → d (li i) = dpk (fun l => pkL n W l (t l)) m i) : Msr n d ∧ ∀ k, k < n → d k ≤ m := by
  obtain ⟨k1, k2, k3⟩ := pack_kraft hn hm hm24 h hW hs ht
  have dl : ∀ k, k < n → d k ≤ m := fun k hk => by
    obtain ⟨i, i1, i2⟩ := hP.sur hk
    rw [← i2, hd i i1]
    exact dpk_le _ i m
  have an := LC_le (n := n) (packs := pkN n W (m - 1)) (W := W) (pw := pkW n W (m - 1)) (t (m - 1))
  refine ⟨⟨fun k hk => by have := dl k hk; omega, fun _ => ⟨?_, li 0, hP.1 0 (by omega), ?_⟩⟩, dl⟩
  · rw [shP_sN, ← sN_perm _ n li hP]
    generalize ha : (fun l => pkL n W l (t l)) = a at *
    have ea : ∀ l, pkL n W l (t l) = a l := fun l => by rw [← ha]
    rw [ea] at k1 k2 k3
    have an' : a (m - 1) ≤ n := by rw [← ea]; exact an
    have f1 : ∀ x, x ≤ a (m - 1) → sN (fun i => if 0 < d (li i) then 2 ^ (24 - d (li i)) else 0) x = sN (fun i => 2 ^ (24 - dpk a m i)) x := fun x => by
      induction x with
      | zero => intro _; rfl
      | succ x ih =>
        intro hx
        show sN (fun i => if 0 < d (li i) then 2 ^ (24 - d (li i)) else 0) x + (if 0 < d (li x) then 2 ^ (24 - d (li x)) else 0) = sN (fun i => 2 ^ (24 - dpk a m i)) x + 2 ^ (24 - dpk a m x)
        rw [ih (by omega), hd x (by omega), if_pos]
        rw [show m = m - 1 + 1 by omega]
        show 0 < dpk a (m - 1) x + _
        rw [if_pos (by omega)]
        omega
    have f2 : ∀ x, a (m - 1) + x ≤ n → sN (fun i => if 0 < d (li i) then 2 ^ (24 - d (li i)) else 0) (a (m - 1) + x) = sN (fun i => if 0 < d (li i) then 2 ^ (24 - d (li i)) else 0) (a (m - 1)) := fun x => by
      induction x with
      | zero => intro _; rfl
      | succ x ih =>
        intro hx
        show sN (fun i => if 0 < d (li i) then 2 ^ (24 - d (li i)) else 0) (a (m - 1) + x) + (if 0 < d (li (a (m - 1) + x)) then 2 ^ (24 - d (li (a (m - 1) + x))) else 0) = _
        rw [ih (by omega), hd _ (by omega), dpk_0 m (fun l hl => by have := k3 l hl; rw [ea] at this; omega), if_neg (by omega), Nat.add_zero]
    have f3 := f2 (n - a (m - 1)) (by omega)
    rw [show a (m - 1) + (n - a (m - 1)) = n by omega] at f3
    rw [f3, f1 _ (Nat.le_refl _)]
    exact k1
  · rw [hd 0 (by omega), show m = m - 1 + 1 by omega]
    show 0 < dpk _ (m - 1) 0 + _
    rw [if_pos (by show 0 < pkL n W (m - 1) (t (m - 1)); omega)]
    omega
