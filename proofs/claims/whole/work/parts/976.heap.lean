/-! build: HEAP. -/
/-- a is taken before b: the lesser weight, of the same the greater number -/
def bfr (W : Nat → Int32) (a b : Nat) : Prop := (W a).toInt < (W b).toInt ∨ ((W a).toInt = (W b).toInt ∧ b < a)
def Lst (W : Nat → Int32) (P : Nat → Prop) (a : Nat) : Prop := P a ∧ ∀ x, P x → x = a ∨ bfr W a x
theorem Lst.uniq {W : Nat → Int32} {P Q : Nat → Prop} {a b : Nat} (h : Lst W P a) (h2 : Lst W Q b) (hPQ : ∀ x, P x ↔ Q x) : a = b := by
  rcases h.2 b ((hPQ b).mpr h2.1) with z | z
  · exact z.symm
  · rcases h2.2 a ((hPQ a).mp h.1) with y | y
    · exact y
    · unfold bfr at z y; omega
/-- op lists those for which P holds, c of them -/
def Enm (P : Nat → Prop) (c : Nat) (op : Nat → Nat) : Prop := (∀ j, j < c → P (op j)) ∧ (∀ i j, i < c → j < c → op i = op j → i = j) ∧ ∀ x, P x → ∃ j, j < c ∧ op j = x
theorem i32_lt (a b : Int32) : a < b ↔ a.toInt < b.toInt := Int32.lt_iff_toInt_lt
theorem isBefore_eq (F : Nat) {N a b : Nat} {W : Nat → Int32} (hN : N ≤ 192) (ha : a < N) (hb : b < N) : ∃ f : Bool, fn_X4_isBefore F N W (nI a) (nI b) = some (b01 f) ∧ (f = true ↔ bfr W a b) := by
  unfold fn_X4_isBefore bf_X4_isBefore_0 bfr
  rw [nI_clamp (n := a) (by omega), nI_clamp (n := b) (by omega), if_neg (gin (by omega) (by omega)), if_neg (gin (by omega) (by omega)), if_neg (gin (by omega) (by omega)), if_neg (gin (by omega) (by omega))]
  by_cases q1 : W a < W b
  · rw [if_pos q1]
    exact ⟨true, rfl, ⟨fun _ => Or.inl ((i32_lt _ _).mp q1), fun _ => rfl⟩⟩
  · rw [if_neg q1]
    have q1' : ¬ (W a).toInt < (W b).toInt := fun z => q1 ((i32_lt _ _).mpr z)
    by_cases q2 : W a = W b
    · rw [if_pos q2]
      have q2' : (W a).toInt = (W b).toInt := by rw [q2]
      by_cases q3 : a ≤ b
      · rw [if_pos (nI_le q3 (by omega))]
        exact ⟨false, rfl, ⟨fun z => absurd z (by decide), fun z => by omega⟩⟩
      · rw [if_neg (nI_ge (by omega) (by omega))]
        exact ⟨true, rfl, ⟨fun _ => Or.inr ⟨q2', by omega⟩, fun _ => rfl⟩⟩
    · rw [if_neg q2]
      have q2' : ¬ (W a).toInt = (W b).toInt := fun z => q2 (Int32.toInt_inj.mp z)
      exact ⟨false, rfl, ⟨fun z => absurd z (by decide), fun z => by omega⟩⟩
theorem take_loop (F : Nat) {S N c : Nat} {W : Nat → Int32} {op : Nat → Nat} {opX : Nat → Int32} {P : Nat → Prop} (hN : N ≤ 192) (hS : S ≤ 96) (hc : c ≤ S) (hP : ∀ x, P x → x < N) (hE : Enm P c op) (hX : ∀ j, j < c → opX j = nI (op j)) : ∀ (d i k l : Nat), i + d = c → d < k → l < i → (∀ j, j < i → op j = op l ∨ bfr W (op l) (op j)) →
    ∃ l', l' < c ∧ lf_X4_takeLeast_4 F N W S k (nI l) (nI i) (nI c) opX = some (nI (op l'), nI (c - 1), upd opX l' (nI (op (c - 1)))) ∧ ∀ j, j < c → op j = op l' ∨ bfr W (op l') (op j) := by
  intro d
  induction d with
  | zero =>
    intro i k l hi hk hl hj
    obtain ⟨k, rfl⟩ : ∃ z, k = z + 1 := ⟨k - 1, by omega⟩
    refine ⟨l, by omega, ?_, fun j hj2 => hj j (by omega)⟩
    show bf_X4_takeLeast_4 F N W S (fun a b c d => lf_X4_takeLeast_4 F N W S k a b c d) (nI l) (nI i) (nI c) opX = _
    unfold bf_X4_takeLeast_4
    rw [if_pos (nI_le (by omega) (by omega)), show nI c - (1 : Int32) = nI (c - 1) from pk_sub (b := 1) (by omega), nI_clamp (n := l) (by omega), nI_clamp (n := c - 1) (by omega), if_neg (gin (by omega) (by omega)), if_neg (gin (by omega) (by omega)), if_neg (gin (by omega) (by omega)), hX l (by omega), hX (c - 1) (by omega)]
  | succ d ih =>
    intro i k l hi hk hl hj
    obtain ⟨k, rfl⟩ : ∃ z, k = z + 1 := ⟨k - 1, by omega⟩
    have a1 := hP _ (hE.1 i (by omega))
    have a2 := hP _ (hE.1 l (by omega))
    obtain ⟨f, f1, f2⟩ := isBefore_eq F (W := W) hN a1 a2
    have st : lf_X4_takeLeast_4 F N W S (k + 1) (nI l) (nI i) (nI c) opX = (if b01 f = 0 then lf_X4_takeLeast_4 F N W S k (nI l) (nI (i + 1)) (nI c) opX else lf_X4_takeLeast_4 F N W S k (nI i) (nI (i + 1)) (nI c) opX) := by
      show bf_X4_takeLeast_4 F N W S (fun a b c d => lf_X4_takeLeast_4 F N W S k a b c d) (nI l) (nI i) (nI c) opX = _
      unfold bf_X4_takeLeast_4
      rw [if_neg (nI_ge (by omega) (by omega)), nI_clamp (n := i) (by omega), nI_clamp (n := l) (by omega), if_neg (gin (by omega) (by omega)), if_neg (gin (by omega) (by omega)), hX i (by omega), hX l (by omega), f1, bs, show nI i + (1 : Int32) = nI (i + 1) from nI_add i 1]
    rw [st]
    cases f with
    | false =>
      rw [if_pos (show b01 false = 0 from rfl)]
      refine ih (i + 1) k l (by omega) (by omega) (by omega) (fun j hj2 => ?_)
      by_cases e : j = i
      · subst e
        right
        have nb : ¬ bfr W (op j) (op l) := fun z => absurd (f2.mpr z) (by decide)
        have ne : op j ≠ op l := fun z => by have := hE.2.1 j l (by omega) (by omega) z; omega
        unfold bfr at nb ⊢
        omega
      · exact hj j (by omega)
    | true =>
      rw [if_neg (show ¬ b01 true = 0 by decide)]
      have bf := f2.mp rfl
      refine ih (i + 1) k i (by omega) (by omega) (by omega) (fun j hj2 => ?_)
      by_cases e : j = i
      · subst e; exact Or.inl rfl
      · right
        rcases hj j (by omega) with z | z
        · rw [z]; exact bf
        · unfold bfr at bf z ⊢; omega
theorem take_eq (F : Nat) {S N c : Nat} {W : Nat → Int32} {op : Nat → Nat} {opX : Nat → Int32} {P : Nat → Prop} (hF : 1000 < F) (hN : N ≤ 192) (hS : S ≤ 96) (hc : c ≤ S) (hc1 : 1 ≤ c) (hP : ∀ x, P x → x < N) (hE : Enm P c op) (hX : ∀ j, j < c → opX j = nI (op j)) :
    ∃ (a : Nat) (op' : Nat → Nat) (opX' : Nat → Int32), fn_X4_takeLeast F N W S (nI c) opX = some (nI a, nI (c - 1), opX') ∧ Lst W P a ∧ Enm (fun x => P x ∧ x ≠ a) (c - 1) op' ∧ ∀ j, j < c - 1 → opX' j = nI (op' j) := by
  obtain ⟨l, l1, l2, l3⟩ := take_loop F (W := W) hN hS hc hP hE hX (c - 1) 1 F 0 (by omega) (by omega) (by omega) (fun j hj => by
    obtain rfl : j = 0 := by omega
    exact Or.inl rfl)
  refine ⟨op l, ext op l (op (c - 1)), _, l2, ⟨hE.1 l l1, fun x hx => ?_⟩, ⟨fun j hj => ?_, fun i j hi hj e => ?_, fun x hx => ?_⟩, fun j hj => ?_⟩
  · obtain ⟨j, j1, j2⟩ := hE.2.2 x hx
    rw [← j2]; exact l3 j j1
  · by_cases e : j = l
    · subst e
      rw [ext_s]
      exact ⟨hE.1 _ (by omega), fun z => by have := hE.2.1 _ _ (by omega) (by omega) z; omega⟩
    · rw [ext_o e]
      exact ⟨hE.1 j (by omega), fun z => e (hE.2.1 _ _ (by omega) (by omega) z)⟩
  · by_cases ei : i = l
    · by_cases ej : j = l
      · omega
      · subst ei; rw [ext_s, ext_o ej] at e
        have := hE.2.1 _ _ (by omega) (by omega) e; omega
    · by_cases ej : j = l
      · subst ej; rw [ext_s, ext_o ei] at e
        have := hE.2.1 _ _ (by omega) (by omega) e; omega
      · rw [ext_o ei, ext_o ej] at e
        exact hE.2.1 _ _ (by omega) (by omega) e
  · obtain ⟨j, j1, j2⟩ := hE.2.2 x hx.1
    have jl : j ≠ l := fun z => hx.2 (by rw [← j2, z])
    by_cases e : j = c - 1
    · subst e; exact ⟨l, by omega, by rw [ext_s]; exact j2⟩
    · exact ⟨j, by omega, by rw [ext_o jl]; exact j2⟩
  · by_cases e : j = l
    · subst e; rw [pk_us, ext_s]
    · rw [pk_un e, ext_o e]; exact hX j (by omega)
/-- the reference's search: above is -1 where par is 0 -/
theorem least_loop (F : Nat) {made : Nat} {W aM : Nat → Int32} {par : Nat → Nat} {bu : Int32} (hm : made ≤ 192) (ha : ∀ x, x < made → (aM x = -1 ↔ par x = 0)) : ∀ (d i k : Nat) (b : Int32), i + d = made → d < k → ((b = -1 ∧ ∀ x, x < i → par x = 0 → ¬ nI x = bu → False) ∨ ∃ c, b = nI c ∧ c < i ∧ par c = 0 ∧ ¬ nI c = bu ∧ ∀ x, x < i → par x = 0 → ¬ nI x = bu → x = c ∨ bfr W c x) →
    (∃ c, lf_X12_least_5 F 192 W 192 aM k (nI made) bu b (nI i) = some (nI c) ∧ Lst W (fun x => x < made ∧ par x = 0 ∧ ¬ nI x = bu) c) ∨ (∀ x, x < made → par x = 0 → ¬ nI x = bu → False) := by
  intro d
  induction d with
  | zero =>
    intro i k b hi hk hb
    obtain ⟨k, rfl⟩ : ∃ z, k = z + 1 := ⟨k - 1, by omega⟩
    obtain rfl : i = made := by omega
    rcases hb with ⟨_, z⟩ | ⟨c, c1, c2, c3, c4, c5⟩
    · exact Or.inr z
    · refine Or.inl ⟨c, ?_, ⟨c2, c3, c4⟩, fun x hx => c5 x hx.1 hx.2.1 hx.2.2⟩
      show bf_X12_least_5 F 192 W 192 aM (fun a b c d => lf_X12_least_5 F 192 W 192 aM k a b c d) (nI i) bu b (nI i) = _
      unfold bf_X12_least_5
      rw [if_pos (nI_le (Nat.le_refl _) (by omega)), c1]
  | succ d ih =>
    intro i k b hi hk hb
    obtain ⟨k, rfl⟩ : ∃ z, k = z + 1 := ⟨k - 1, by omega⟩
    have unf : lf_X12_least_5 F 192 W 192 aM (k + 1) (nI made) bu b (nI i) = bf_X12_least_5 F 192 W 192 aM (fun a b c d => lf_X12_least_5 F 192 W 192 aM k a b c d) (nI made) bu b (nI i) := rfl
    rw [unf]
    unfold bf_X12_least_5
    rw [if_neg (nI_ge (by omega) (by omega)), nI_clamp (n := i) (by omega), if_neg (gin (by omega) (by omega)), show nI i + (1 : Int32) = nI (i + 1) from nI_add i 1]
    have keep : (par i ≠ 0 ∨ nI i = bu) → ((b = -1 ∧ ∀ x, x < i + 1 → par x = 0 → ¬ nI x = bu → False) ∨ ∃ c, b = nI c ∧ c < i + 1 ∧ par c = 0 ∧ ¬ nI c = bu ∧ ∀ x, x < i + 1 → par x = 0 → ¬ nI x = bu → x = c ∨ bfr W c x) := fun hno => by
      have hx : ∀ x, x < i + 1 → par x = 0 → ¬ nI x = bu → x < i := fun x h1 h2 h3 => by
        have : x ≠ i := fun z => by subst z; rcases hno with y | y; exact y h2; exact h3 y
        omega
      rcases hb with ⟨z1, z2⟩ | ⟨c, c1, c2, c3, c4, c5⟩
      · exact Or.inl ⟨z1, fun x h1 h2 h3 => z2 x (hx x h1 h2 h3) h2 h3⟩
      · exact Or.inr ⟨c, c1, by omega, c3, c4, fun x h1 h2 h3 => c5 x (hx x h1 h2 h3) h2 h3⟩
    by_cases q1 : par i = 0
    · rw [if_pos ((ha i (by omega)).mpr q1)]
      by_cases q2 : nI i = bu
      · rw [if_pos q2]
        exact ih (i + 1) k b (by omega) (by omega) (keep (Or.inr q2))
      · rw [if_neg q2]
        rcases hb with ⟨z1, z2⟩ | ⟨c, c1, c2, c3, c4, c5⟩
        · rw [if_pos z1]
          refine ih (i + 1) k (nI i) (by omega) (by omega) (Or.inr ⟨i, rfl, by omega, q1, q2, fun x h1 h2 h3 => ?_⟩)
          by_cases e : x = i
          · exact Or.inl e
          · exact absurd h3 (fun _ => z2 x (by omega) h2 h3)
        · subst c1
          rw [if_neg (nI_nm1 (by omega)), if_neg (gin (by omega) (by omega)), nI_clamp (n := c) (by omega), if_neg (gin (by omega) (by omega))]
          by_cases q3 : W c < W i
          · have q3' := (i32_lt _ _).mp q3
            rw [if_pos q3]
            refine ih (i + 1) k (nI c) (by omega) (by omega) (Or.inr ⟨c, rfl, by omega, c3, c4, fun x h1 h2 h3 => ?_⟩)
            by_cases e : x = i
            · subst e; exact Or.inr (Or.inl q3')
            · exact c5 x (by omega) h2 h3
          · have q3' : ¬ (W c).toInt < (W i).toInt := fun z => q3 ((i32_lt _ _).mpr z)
            rw [if_neg q3]
            refine ih (i + 1) k (nI i) (by omega) (by omega) (Or.inr ⟨i, rfl, by omega, q1, q2, fun x h1 h2 h3 => ?_⟩)
            by_cases e : x = i
            · exact Or.inl e
            · right
              rcases c5 x (by omega) h2 h3 with y | y
              · subst y; unfold bfr; omega
              · unfold bfr at y ⊢; omega
    · rw [if_neg (fun z => q1 ((ha i (by omega)).mp z))]
      exact ih (i + 1) k b (by omega) (by omega) (keep (Or.inl q1))
theorem least_eq (F : Nat) {made a : Nat} {W aM : Nat → Int32} {par : Nat → Nat} {bu : Int32} {P : Nat → Prop} (hF : 1000 < F) (hm : made ≤ 192) (ha : ∀ x, x < made → (aM x = -1 ↔ par x = 0)) (hP : ∀ x, P x ↔ x < made ∧ par x = 0 ∧ ¬ nI x = bu) (hL : Lst W P a) : fn_X12_least F 192 W 192 aM (nI made) bu = some (nI a) := by
  rcases least_loop F (W := W) (bu := bu) hm ha made 0 F (-1) (by omega) (by omega) (Or.inl ⟨rfl, fun x hx => by omega⟩) with ⟨c, c1, c2⟩ | z
  · have : c = a := c2.uniq hL (fun x => (hP x).symm)
    subst this
    exact c1
  · obtain ⟨p1, p2, p3⟩ := (hP a).mp hL.1
    exact absurd p3 (fun _ => z a p1 p2 p3)
