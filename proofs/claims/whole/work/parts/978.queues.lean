/-! build: QUEUES. -/
/-- the leaves from the L-th on, and the nodes from I on, are open -/
def Opn (n : Nat) (li : Nat → Nat) (L I made x : Nat) : Prop := (∃ j, L ≤ j ∧ j < n ∧ x = li j) ∨ (I ≤ x ∧ x < made)
theorem upd_upd (f : Nat → Int32) (k : Nat) (x y : Int32) : upd (upd f k x) k y = upd f k y := funext fun j => by
  by_cases e : j = k
  · subst e; rw [pk_us, pk_us]
  · rw [pk_un e, pk_un e, pk_un e]
section
variable {S n : Nat} {li : Nat → Nat}
theorem front_50 (F : Nat) {N L I : Nat} {W line : Nat → Int32} (hS : S ≤ 96) (hnS : n ≤ S) (hI : I < 200) (hP : Prm n li) (hl : ∀ i, i < n → line i = nI (li i)) (hL : L ≤ n) :
    bf_X4_takeFront_50 F N W (nI n) S line 0 (nI L) (nI I) = some (nI I, nI L, nI (I + 1)) ∧ (L < n → bf_X4_takeFront_50 F N W (nI n) S line 1 (nI L) (nI I) = some (nI (li L), nI (L + 1), nI I)) := by
  refine ⟨?_, fun h => ?_⟩
  · unfold bf_X4_takeFront_50
    rw [if_pos rfl, show nI I + (1 : Int32) = nI (I + 1) from nI_add I 1, show nI (I + 1) - (1 : Int32) = nI I from nI_pred I]
  · unfold bf_X4_takeFront_50
    rw [if_neg (by decide), show nI L + (1 : Int32) = nI (L + 1) from nI_add L 1, show nI (L + 1) - (1 : Int32) = nI L from nI_pred L, nI_clamp (by omega), if_neg (gin (by omega) (by omega)), hl L h]
theorem pick_eq (F : Nat) {L I made : Nat} {wX line wM ord found aM cM : Nat → Int32} {t k : Nat} {rec52 : Int32 → Int32 → Int32 → (Nat → Int32) → (Nat → Int32) → (Nat → Int32) → (Nat → Int32) → Option ((Nat → Int32) × (Nat → Int32) × (Nat → Int32) × (Nat → Int32))} (hS : S ≤ 96) (hnS : n ≤ S) (hP : Prm n li) (hl : ∀ i, i < n → line i = nI (li i)) (ho : ∀ i, i < n → ord i = nI (li i)) (hL : L ≤ n) (hI : n ≤ I) (hIm : I ≤ made) (hm : made < 2 * S) (hLI : L = n → I < made) (hw : ∀ x, x < made → wX x = wM x) (ht : t < 2) :
    ∃ (a L' I' : Nat), fn_X4_takeFront F (2 * S) wX (nI n) S line (nI L) (nI I) (nI made) = some (nI a, nI L', nI I') ∧
      lf_X12_byQueues_81 F (nI n) 96 cM 96 192 192 96 rec52 (k + 1) (nI L) (nI I) (nI made) (nI t) found wM aM ord = lf_X12_byQueues_81 F (nI n) 96 cM 96 192 192 96 rec52 k (nI L') (nI I') (nI made) (nI (t + 1)) found (upd wM made (wM made + wM a)) (upd aM a (nI made)) ord ∧
      Opn n li L I made a ∧ (∀ x, Opn n li L' I' made x ↔ Opn n li L I made x ∧ x ≠ a) ∧ L' + I' = L + I + 1 ∧ L' ≤ n ∧ n ≤ I' ∧ I' ≤ made ∧ a < made := by
  obtain ⟨f0, f1⟩ := front_50 F (N := 2 * S) (W := wX) (I := I) hS hnS (by omega) hP hl hL
  have um : lf_X12_byQueues_81 F (nI n) 96 cM 96 192 192 96 rec52 (k + 1) (nI L) (nI I) (nI made) (nI t) found wM aM ord = bf_X12_byQueues_81 F (nI n) 96 cM 96 192 192 96 rec52 (fun a b c d e f g h => lf_X12_byQueues_81 F (nI n) 96 cM 96 192 192 96 rec52 k a b c d e f g h) (nI L) (nI I) (nI made) (nI t) found wM aM ord := rfl
  have s168 : ∀ (a L' : Nat) (s0 s1 : Int32) (I' : Nat), a < 192 → s1 + s0 = nI I' → bf_X12_byQueues_168 F (nI n) 96 cM 96 192 192 96 rec52 (fun a b c d e f g h => lf_X12_byQueues_81 F (nI n) 96 cM 96 192 192 96 rec52 k a b c d e f g h) (nI L') (nI made) (nI t) (nI a) s0 s1 found wM aM ord = lf_X12_byQueues_81 F (nI n) 96 cM 96 192 192 96 rec52 k (nI L') (nI I') (nI made) (nI (t + 1)) found (upd wM made (wM made + wM a)) (upd aM a (nI made)) ord := fun a L' s0 s1 I' ha hs => by
    unfold bf_X12_byQueues_168
    rw [nI_clamp (n := a) (by omega), nI_clamp (n := made) (by omega), if_neg (gin (by omega) (by omega)), if_neg (gin (by omega) (by omega)), if_neg (gin (by omega) (by omega)), if_neg (gin (by omega) (by omega)), hs, show nI t + (1 : Int32) = nI (t + 1) from nI_add t 1]
  -- a made node is taken
  have inner : I < made → (fn_X4_takeFront F (2 * S) wX (nI n) S line (nI L) (nI I) (nI made) = bf_X4_takeFront_50 F (2 * S) wX (nI n) S line 0 (nI L) (nI I)) → (bf_X12_byQueues_81 F (nI n) 96 cM 96 192 192 96 rec52 (fun a b c d e f g h => lf_X12_byQueues_81 F (nI n) 96 cM 96 192 192 96 rec52 k a b c d e f g h) (nI L) (nI I) (nI made) (nI t) found wM aM ord = bf_X12_byQueues_125 F (nI n) 96 cM 96 192 192 96 rec52 (fun a b c d e f g h => lf_X12_byQueues_81 F (nI n) 96 cM 96 192 192 96 rec52 k a b c d e f g h) (nI L) (nI I) (nI made) (nI t) 0 found wM aM ord) → ∃ (a L' I' : Nat), fn_X4_takeFront F (2 * S) wX (nI n) S line (nI L) (nI I) (nI made) = some (nI a, nI L', nI I') ∧ lf_X12_byQueues_81 F (nI n) 96 cM 96 192 192 96 rec52 (k + 1) (nI L) (nI I) (nI made) (nI t) found wM aM ord = lf_X12_byQueues_81 F (nI n) 96 cM 96 192 192 96 rec52 k (nI L') (nI I') (nI made) (nI (t + 1)) found (upd wM made (wM made + wM a)) (upd aM a (nI made)) ord ∧ Opn n li L I made a ∧ (∀ x, Opn n li L' I' made x ↔ Opn n li L I made x ∧ x ≠ a) ∧ L' + I' = L + I + 1 ∧ L' ≤ n ∧ n ≤ I' ∧ I' ≤ made ∧ a < made := fun him hx hy => by
    refine ⟨I, L, I + 1, hx.trans f0, ?_, Or.inr ⟨Nat.le_refl _, him⟩, fun x => ?_, by omega, hL, by omega, by omega, him⟩
    · rw [um, hy]
      unfold bf_X12_byQueues_125 bf_X12_byQueues_142 bf_X12_byQueues_155
      rw [if_pos rfl, if_pos rfl, if_pos rfl, show nI L + (0 : Int32) = nI L from nI_add L 0]
      exact s168 I L 1 (nI I) (I + 1) (by omega) (nI_add I 1)
    · constructor
      · rintro (⟨j, j1, j2, j3⟩ | ⟨x1, x2⟩)
        · exact ⟨Or.inl ⟨j, j1, j2, j3⟩, by have := hP.1 j j2; omega⟩
        · exact ⟨Or.inr ⟨by omega, x2⟩, by omega⟩
      · rintro ⟨⟨j, j1, j2, j3⟩ | ⟨x1, x2⟩, hne⟩
        · exact Or.inl ⟨j, j1, j2, j3⟩
        · exact Or.inr ⟨by omega, x2⟩
  -- a leaf is taken
  have leaf : L < n → (fn_X4_takeFront F (2 * S) wX (nI n) S line (nI L) (nI I) (nI made) = bf_X4_takeFront_50 F (2 * S) wX (nI n) S line 1 (nI L) (nI I)) → (bf_X12_byQueues_81 F (nI n) 96 cM 96 192 192 96 rec52 (fun a b c d e f g h => lf_X12_byQueues_81 F (nI n) 96 cM 96 192 192 96 rec52 k a b c d e f g h) (nI L) (nI I) (nI made) (nI t) found wM aM ord = bf_X12_byQueues_125 F (nI n) 96 cM 96 192 192 96 rec52 (fun a b c d e f g h => lf_X12_byQueues_81 F (nI n) 96 cM 96 192 192 96 rec52 k a b c d e f g h) (nI L) (nI I) (nI made) (nI t) 1 found wM aM ord) → ∃ (a L' I' : Nat), fn_X4_takeFront F (2 * S) wX (nI n) S line (nI L) (nI I) (nI made) = some (nI a, nI L', nI I') ∧ lf_X12_byQueues_81 F (nI n) 96 cM 96 192 192 96 rec52 (k + 1) (nI L) (nI I) (nI made) (nI t) found wM aM ord = lf_X12_byQueues_81 F (nI n) 96 cM 96 192 192 96 rec52 k (nI L') (nI I') (nI made) (nI (t + 1)) found (upd wM made (wM made + wM a)) (upd aM a (nI made)) ord ∧ Opn n li L I made a ∧ (∀ x, Opn n li L' I' made x ↔ Opn n li L I made x ∧ x ≠ a) ∧ L' + I' = L + I + 1 ∧ L' ≤ n ∧ n ≤ I' ∧ I' ≤ made ∧ a < made := fun hLn hx hy => by
    have l1 := hP.1 L hLn
    refine ⟨li L, L + 1, I, hx.trans (f1 hLn), ?_, Or.inl ⟨L, Nat.le_refl _, hLn, rfl⟩, fun x => ?_, by omega, by omega, hI, hIm, by omega⟩
    · rw [um, hy]
      unfold bf_X12_byQueues_125 bf_X12_byQueues_142 bf_X12_byQueues_155
      rw [if_neg (show ¬ (1 : Int32) = 0 by decide), nI_clamp (n := L) (by omega), if_neg (gin (by omega) (by omega)), ho L hLn, if_neg (show ¬ (1 : Int32) = 0 by decide), if_neg (show ¬ (1 : Int32) = 0 by decide), show nI L + (1 : Int32) = nI (L + 1) from nI_add L 1]
      exact s168 (li L) (L + 1) 0 (nI I) I (by omega) (nI_add I 0)
    · constructor
      · rintro (⟨j, j1, j2, j3⟩ | ⟨x1, x2⟩)
        · exact ⟨Or.inl ⟨j, by omega, j2, j3⟩, fun z => by have := hP.2 j L j2 hLn (j3.symm.trans z); omega⟩
        · exact ⟨Or.inr ⟨x1, x2⟩, by omega⟩
      · rintro ⟨⟨j, j1, j2, j3⟩ | ⟨x1, x2⟩, hne⟩
        · have : j ≠ L := fun z => hne (by rw [j3, z])
          exact Or.inl ⟨j, by omega, j2, j3⟩
        · exact Or.inr ⟨x1, x2⟩
  have ux : fn_X4_takeFront F (2 * S) wX (nI n) S line (nI L) (nI I) (nI made) = bf_X4_takeFront_0 F (2 * S) wX (nI n) S line (nI made) (nI L) (nI I) := rfl
  have t2 : ¬ (2 : Int32) ≤ nI t := nI_ge (b := 2) ht (by decide)
  by_cases c1 : L = n
  · refine inner (hLI c1) ?_ ?_
    · rw [ux]
      unfold bf_X4_takeFront_0
      rw [if_pos (nI_le (by omega) (by omega))]
    · unfold bf_X12_byQueues_81
      rw [if_neg t2, if_pos (nI_le (by omega) (by omega))]
  · have l1 := hP.1 L (by omega)
    by_cases c2 : I = made
    · refine leaf (by omega) ?_ ?_
      · rw [ux]
        unfold bf_X4_takeFront_0
        rw [if_neg (nI_ge (by omega) (by omega)), if_pos (nI_le (by omega) (by omega))]
      · unfold bf_X12_byQueues_81
        rw [if_neg t2, if_neg (nI_ge (by omega) (by omega)), if_pos (by rw [c2])]
    · have e1 : bf_X4_takeFront_0 F (2 * S) wX (nI n) S line (nI made) (nI L) (nI I) = (if wX I < wX (li L) then bf_X4_takeFront_50 F (2 * S) wX (nI n) S line 0 (nI L) (nI I) else bf_X4_takeFront_50 F (2 * S) wX (nI n) S line 1 (nI L) (nI I)) := by
        unfold bf_X4_takeFront_0
        rw [if_neg (nI_ge (by omega) (by omega)), if_neg (nI_ge (by omega) (by omega)), nI_clamp (n := L) (by omega), if_neg (gin (by omega) (by omega)), hl L (by omega), nI_clamp (n := li L) (by omega), nI_clamp (n := I) (by omega), if_neg (gin (by omega) (by omega)), if_neg (gin (by omega) (by omega))]
      have e2 : bf_X12_byQueues_81 F (nI n) 96 cM 96 192 192 96 rec52 (fun a b c d e f g h => lf_X12_byQueues_81 F (nI n) 96 cM 96 192 192 96 rec52 k a b c d e f g h) (nI L) (nI I) (nI made) (nI t) found wM aM ord = (if wX I < wX (li L) then bf_X12_byQueues_125 F (nI n) 96 cM 96 192 192 96 rec52 (fun a b c d e f g h => lf_X12_byQueues_81 F (nI n) 96 cM 96 192 192 96 rec52 k a b c d e f g h) (nI L) (nI I) (nI made) (nI t) 0 found wM aM ord else bf_X12_byQueues_125 F (nI n) 96 cM 96 192 192 96 rec52 (fun a b c d e f g h => lf_X12_byQueues_81 F (nI n) 96 cM 96 192 192 96 rec52 k a b c d e f g h) (nI L) (nI I) (nI made) (nI t) 1 found wM aM ord) := by
        unfold bf_X12_byQueues_81
        rw [if_neg t2, if_neg (nI_ge (by omega) (by omega)), if_neg (fun z => c2 ((nI_eq (by omega) (by omega)).mp z)), nI_clamp (n := L) (by omega), if_neg (gin (by omega) (by omega)), ho L (by omega), nI_clamp (n := li L) (by omega), nI_clamp (n := I) (by omega), if_neg (gin (by omega) (by omega)), if_neg (gin (by omega) (by omega)), hw I (by omega), hw (li L) (by omega)]
      by_cases c3 : wX I < wX (li L)
      · rw [if_pos c3] at e1 e2
        exact inner (by omega) (ux.trans e1) e2
      · rw [if_neg c3] at e1 e2
        exact leaf (by omega) (ux.trans e1) e2
theorem queue_loop (F : Nat) {w0 cM line ord : Nat → Int32} (hF : 1000 < F) (hS : S ≤ 96) (hn : 2 ≤ n) (hnS : n ≤ S) (hP : Prm n li) (hl : ∀ i, i < n → line i = nI (li i)) (ho : ∀ i, i < n → ord i = nI (li i)) : ∀ (j made k k' L I : Nat) (par : Nat → Nat) (wX aX dA dB wM aM found : Nat → Int32), made + j = 2 * n - 1 → n ≤ made → j < k → j < k' → HS n made par wX aX wM aM → L ≤ n → n ≤ I → I ≤ made → L + I = 2 * made - n → (∀ x, x < made → (par x = 0 ↔ Opn n li L I made x)) →
    ∃ (par' : Nat → Nat) (x1 x2 : Int32) (x3 x4 x5 dB' x6 f' y1 y2 y3 : Nat → Int32), Par n par' ∧ lf_X4_measureByQueues_39 F (2 * S) (2 * S) (2 * S) (nI n) S w0 S S k (nI made) (nI L) (nI I) wX aX dA dB line = some (x1, x2, x3, x4, x5, dB', x6) ∧ lf_X12_byQueues_52 F (nI n) 96 cM 96 192 192 96 k' (nI L) (nI I) (nI made) found wM aM ord = some (f', y1, y2, y3) ∧ ∀ x, x < n → dB' x = nI (dpt n par' x) ∧ f' x = nI (dpt n par' x) := by
  intro j
  induction j with
  | zero =>
    intro made k k' L I par wX aX dA dB wM aM found hj hm hk hk' hH hL hI hIm hLI hO
    obtain ⟨k, rfl⟩ : ∃ z, k = z + 1 := ⟨k - 1, by omega⟩
    obtain ⟨k', rfl⟩ : ∃ z, k' = z + 1 := ⟨k' - 1, by omega⟩
    obtain rfl : made = 2 * n - 1 := by omega
    obtain ⟨h1, h2, h3, h4, h5⟩ := id hH
    have hr : par (2 * n - 2) = 0 := h5 (by omega)
    have hI2 : I ≤ 2 * n - 2 := by
      rcases (hO _ (by omega)).mp hr with ⟨i, i1, i2, i3⟩ | z
      · have := hP.1 i i2; omega
      · omega
    have h0 : ∀ x, x < 2 * n - 2 → par x ≠ 0 := fun x hx z => by
      rcases (hO x (by omega)).mp z with ⟨i, i1, i2, i3⟩ | y
      · omega
      · omega
    have hPr := h1.par hn h0
    obtain ⟨dA', dB', r1, r2⟩ := depX_eq F dA dB hF hS hn hnS hPr (fun x hx => (h3 x (by omega) (h0 x hx)).1)
    obtain ⟨f', u1, u2⟩ := up_eq F found hF hn (by omega) hPr (fun x hx => (h3 x (by omega) (h0 x hx)).2) (h4 _ (by omega) hr)
    refine ⟨par, nI L, nI I, wX, aX, dA', dB', line, f', wM, aM, ord, hPr, ?_, ?_, fun x hx => ⟨r2 x hx, u2 x hx⟩⟩
    · show bf_X4_measureByQueues_39 F (2 * S) (2 * S) (2 * S) (nI n) S w0 S S (fun a b c d e f g h => lf_X4_measureByQueues_39 F (2 * S) (2 * S) (2 * S) (nI n) S w0 S S k a b c d e f g h) (nI (2 * n - 1)) (nI L) (nI I) wX aX dA dB line = _
      unfold bf_X4_measureByQueues_39
      rw [show (2 : Int32) * nI n = nI (2 * n) by rw [show (2 : Int32) = nI 2 from rfl, pk_mul], show nI (2 * n) - (1 : Int32) = nI (2 * n - 1) from pk_sub (b := 1) (by omega), if_pos (nI_le (Nat.le_refl _) (by omega)), r1, bs]
    · show bf_X12_byQueues_52 F (nI n) 96 cM 96 192 192 96 (fun a b c d e f g => lf_X12_byQueues_52 F (nI n) 96 cM 96 192 192 96 k' a b c d e f g) (nI L) (nI I) (nI (2 * n - 1)) found wM aM ord = _
      unfold bf_X12_byQueues_52
      rw [show (2 : Int32) * nI n = nI (2 * n) by rw [show (2 : Int32) = nI 2 from rfl, pk_mul], show nI (2 * n) - (1 : Int32) = nI (2 * n - 1) from pk_sub (b := 1) (by omega), if_pos (nI_le (Nat.le_refl _) (by omega)), u1, bs]
  | succ j ih =>
    intro made k k' L I par wX aX dA dB wM aM found hj hm hk hk' hH hL hI hIm hLI hO
    obtain ⟨k, rfl⟩ : ∃ z, k = z + 1 := ⟨k - 1, by omega⟩
    obtain ⟨k', rfl⟩ : ∃ z, k' = z + 1 := ⟨k' - 1, by omega⟩
    obtain ⟨h1, h2, h3, h4, h5⟩ := id hH
    obtain ⟨F1, rfl⟩ : ∃ z, F = z + 3 := ⟨F - 3, by omega⟩
    have hw0 : ∀ x, x < made → wX x = upd wM made 0 x := fun x hx => by rw [pk_un (by omega)]; exact h2 x hx
    obtain ⟨a, L1, I1, a1, a2, a3, a4, a5, a6, a7, a8, a9⟩ := pick_eq (F1 + 3) (L := L) (I := I) (made := made) (wX := wX) (wM := upd wM made 0) (aM := upd aM made (-1)) (line := line) (ord := ord) (found := found) (cM := cM) (t := 0) (k := F1 + 2) (rec52 := fun a b c d e f g => lf_X12_byQueues_52 (F1 + 3) (nI n) 96 cM 96 192 192 96 k' a b c d e f g) hS hnS hP hl ho hL hI hIm (by omega) (fun z => by omega) hw0 (by decide)
    have hw1 : ∀ x, x < made → wX x = upd (upd wM made 0) made (upd wM made 0 made + upd wM made 0 a) x := fun x hx => by rw [pk_un (by omega), pk_un (by omega)]; exact h2 x hx
    obtain ⟨b, L2, I2, b1, b2, b3, b4, b5, b6, b7, b8, b9⟩ := pick_eq (F1 + 3) (L := L1) (I := I1) (made := made) (wX := wX) (wM := upd (upd wM made 0) made (upd wM made 0 made + upd wM made 0 a)) (aM := upd (upd aM made (-1)) a (nI made)) (line := line) (ord := ord) (found := found) (cM := cM) (t := 0 + 1) (k := F1 + 1) (rec52 := fun a b c d e f g => lf_X12_byQueues_52 (F1 + 3) (nI n) 96 cM 96 192 192 96 k' a b c d e f g) hS hnS hP hl ho a6 a7 a8 (by omega) (fun z => by omega) hw1 (by decide)
    have ba := ((a4 b).mp b3)
    have pa : par a = 0 := (hO a a9).mpr a3
    have pb : par b = 0 := (hO b b9).mpr ba.1
    have hN := hH.new (w := wX a + wX b) (by omega) hm (by omega) a9 b9 (fun z => ba.2 z.symm) pa pb
    have wE : upd (upd (upd wM made 0) made (upd wM made 0 made + upd wM made 0 a)) made (upd (upd wM made 0) made (upd wM made 0 made + upd wM made 0 a) made + upd (upd wM made 0) made (upd wM made 0 made + upd wM made 0 a) b) = upd wM made (wX a + wX b) := by
      rw [upd_upd, upd_upd, pk_us, pk_us, pk_un (by omega), pk_un (by omega), pk_un (by omega), Int32.zero_add, h2 a a9, h2 b b9]
    have hO' : ∀ x, x < made + 1 → (ext (ext (ext par made 0) a made) b made x = 0 ↔ Opn n li L2 I2 (made + 1) x) := fun x hx => by
      have oo : ∀ y, y < made → (Opn n li L2 I2 (made + 1) y ↔ Opn n li L2 I2 made y) := fun y hy => by
        constructor
        · rintro (z | ⟨z1, z2⟩)
          · exact Or.inl z
          · exact Or.inr ⟨z1, hy⟩
        · rintro (z | ⟨z1, z2⟩)
          · exact Or.inl z
          · exact Or.inr ⟨z1, by omega⟩
      by_cases xm : x = made
      · subst xm
        rw [ext_o (by omega), ext_o (by omega), ext_s]
        exact ⟨fun _ => Or.inr ⟨b8, by omega⟩, fun _ => rfl⟩
      · rw [oo x (by omega), b4 x, a4 x]
        by_cases xb : x = b
        · subst xb; rw [ext_s]; exact ⟨fun z => by omega, fun z => absurd rfl z.2⟩
        · by_cases xa : x = a
          · subst xa; rw [ext_o xb, ext_s]; exact ⟨fun z => by omega, fun z => absurd rfl z.1.2⟩
          · rw [ext_o xb, ext_o xa, ext_o xm, hO x (by omega)]
            exact ⟨fun z => ⟨⟨z, xa⟩, xb⟩, fun z => z.1.1⟩
    obtain ⟨par', x1, x2, x3, x4, x5, dB', x6, f', y1, y2, y3, r1, r2, r3, r4⟩ := ih (made + 1) k k' L2 I2 _ _ _ dA dB _ _ found (by omega) (by omega) (by omega) (by omega) hN b6 b7 (by omega) (by omega) hO'
    refine ⟨par', x1, x2, x3, x4, x5, dB', x6, f', y1, y2, y3, r1, ?_, ?_, r4⟩
    · show bf_X4_measureByQueues_39 (F1 + 3) (2 * S) (2 * S) (2 * S) (nI n) S w0 S S (fun a b c d e f g h => lf_X4_measureByQueues_39 (F1 + 3) (2 * S) (2 * S) (2 * S) (nI n) S w0 S S k a b c d e f g h) (nI made) (nI L) (nI I) wX aX dA dB line = _
      unfold bf_X4_measureByQueues_39
      rw [show (2 : Int32) * nI n = nI (2 * n) by rw [show (2 : Int32) = nI 2 from rfl, pk_mul], show nI (2 * n) - (1 : Int32) = nI (2 * n - 1) from pk_sub (b := 1) (by omega), if_neg (nI_ge (by omega) (by omega)), a1, bs, b1, bs, join_eq (F1 + 3) wX aX (by omega) (by omega) (by omega) (by omega), bs, show nI made + (1 : Int32) = nI (made + 1) from nI_add made 1]
      exact r2
    · show bf_X12_byQueues_52 (F1 + 3) (nI n) 96 cM 96 192 192 96 (fun a b c d e f g => lf_X12_byQueues_52 (F1 + 3) (nI n) 96 cM 96 192 192 96 k' a b c d e f g) (nI L) (nI I) (nI made) found wM aM ord = _
      unfold bf_X12_byQueues_52
      rw [show (2 : Int32) * nI n = nI (2 * n) by rw [show (2 : Int32) = nI 2 from rfl, pk_mul], show nI (2 * n) - (1 : Int32) = nI (2 * n - 1) from pk_sub (b := 1) (by omega), if_neg (nI_ge (by omega) (by omega)), nI_clamp (n := made) (by omega), if_neg (gin (by omega) (by omega)), if_neg (gin (by omega) (by omega))]
      refine Eq.trans (show lf_X12_byQueues_81 (F1 + 3) (nI n) 96 cM 96 192 192 96 _ (F1 + 3) (nI L) (nI I) (nI made) 0 found (upd wM made 0) (upd aM made (-1)) ord = _ from a2) (Eq.trans b2 (Eq.trans ?_ r3))
      rw [wE]
      show bf_X12_byQueues_81 (F1 + 3) (nI n) 96 cM 96 192 192 96 (fun a b c d e f g => lf_X12_byQueues_52 (F1 + 3) (nI n) 96 cM 96 192 192 96 k' a b c d e f g) (fun a b c d e f g h => lf_X12_byQueues_81 (F1 + 3) (nI n) 96 cM 96 192 192 96 (fun a b c d e f g => lf_X12_byQueues_52 (F1 + 3) (nI n) 96 cM 96 192 192 96 k' a b c d e f g) F1 a b c d e f g h) (nI L2) (nI I2) (nI made) (nI (0 + 1 + 1)) found _ _ ord = _
      unfold bf_X12_byQueues_81
      rw [if_pos (by decide), show nI made + (1 : Int32) = nI (made + 1) from nI_add made 1]
theorem start7_loop (F : Nat) {cM found ord : Nat → Int32} (hn : n ≤ 96) : ∀ (d i k : Nat) (wM aM : Nat → Int32), i + d = n → d < k → (∀ x, x < i → wM x = cM x ∧ aM x = -1) → ∃ wM' aM', lf_X12_byQueues_7 F (nI n) 96 cM 96 192 192 96 k (nI i) found wM aM ord = lf_X12_byQueues_52 F (nI n) 96 cM 96 192 192 96 F 0 (nI n) (nI n) found wM' aM' ord ∧ ∀ x, x < n → wM' x = cM x ∧ aM' x = -1 := by
  intro d
  induction d with
  | zero =>
    intro i k wM aM hi hk h
    obtain ⟨k, rfl⟩ : ∃ z, k = z + 1 := ⟨k - 1, by omega⟩
    refine ⟨wM, aM, ?_, fun x hx => h x (by omega)⟩
    show bf_X12_byQueues_7 F (nI n) 96 cM 96 192 192 96 (fun a b c d e => lf_X12_byQueues_7 F (nI n) 96 cM 96 192 192 96 k a b c d e) (nI i) found wM aM ord = _
    unfold bf_X12_byQueues_7
    rw [if_pos (nI_le (by omega) (by omega))]
  | succ d ih =>
    intro i k wM aM hi hk h
    obtain ⟨k, rfl⟩ : ∃ z, k = z + 1 := ⟨k - 1, by omega⟩
    obtain ⟨wM', aM', r1, r2⟩ := ih (i + 1) k (upd wM i (cM i)) (upd aM i (-1)) (by omega) (by omega) (fun x hx => by
      by_cases e : x = i
      · subst e; exact ⟨pk_us, pk_us⟩
      · rw [pk_un e, pk_un e]; exact h x (by omega))
    refine ⟨wM', aM', ?_, r2⟩
    show bf_X12_byQueues_7 F (nI n) 96 cM 96 192 192 96 (fun a b c d e => lf_X12_byQueues_7 F (nI n) 96 cM 96 192 192 96 k a b c d e) (nI i) found wM aM ord = _
    unfold bf_X12_byQueues_7
    rw [if_neg (nI_ge (by omega) (by omega)), nI_clamp (by omega), if_neg (gin (by omega) (by omega)), if_neg (gin (by omega) (by omega)), if_neg (gin (by omega) (by omega)), show nI i + (1 : Int32) = nI (i + 1) from nI_add i 1]
    exact r1
end
/-- QUEUES: both find the same depths -/
theorem queues_eq (F : Nat) {S n : Nat} {wt : Nat → Nat} {w0 cM : Nat → Int32} (o1 o2 : Int32) (wX aX dA dB liX wM aM found orM : Nat → Int32) (hF : 1000 < F) (hS : S ≤ 96) (hn : 2 ≤ n) (hnS : n ≤ S) (hw : ∀ k, k < n → wt k ≤ 600 ∧ w0 k = nI (wt k) ∧ cM k = nI (wt k)) :
    ∃ (d : Nat → Nat) (x1 x2 : Int32) (x3 x4 x5 dB' x6 f' y1 y2 y3 : Nat → Int32), Msr n d ∧ fn_X4_measureByQueues F (2 * S) (2 * S) (2 * S) (nI n) S w0 S S o1 o2 wX aX dA dB liX = some (x1, x2, x3, x4, x5, dB', x6) ∧ fn_X12_byQueues F (nI n) 96 cM 96 192 192 96 found wM aM orM = some (f', y1, y2, y3) ∧ ∀ x, x < n → dB' x = nI (d x) ∧ f' x = nI (d x) := by
  obtain ⟨li, AX, AM, s1, s2, s3, s4, s5⟩ := sort_eq F (ri := true) liX orM hF hS hnS hw
  obtain ⟨wM', aM', p1, p2⟩ := start7_loop F (n := n) (cM := cM) (found := found) (ord := AM) (by omega) n 0 F wM aM (by omega) (by omega) (fun x hx => by omega)
  obtain ⟨par, x1, x2, x3, x4, x5, dB', x6, f', y1, y2, y3, r1, r2, r3, r4⟩ := queue_loop F (w0 := w0) (cM := cM) (line := AX) (ord := AM) hF hS hn hnS s4 (fun i hi => (s3 i hi).1) (fun i hi => (s3 i hi).2) (n - 1) n F F 0 n (fun _ => 0) (va_cpy w0 wX 0 0 n) aX dA dB wM' aM' found (by omega) (Nat.le_refl _) (by omega) (by omega) (HS.start (fun x hx => by rw [pk_cpy_in (by omega) (by omega), show 0 + (x - 0) = x by omega, (hw x hx).2.1, ← (hw x hx).2.2]; exact (p2 x hx).1.symm) (fun x hx => (p2 x hx).2)) (by omega) (Nat.le_refl _) (Nat.le_refl _) (by omega) (fun x hx => ⟨fun _ => Or.inl (by obtain ⟨i, i1, i2⟩ := s4.sur hx; exact ⟨i, by omega, i1, i2.symm⟩), fun _ => rfl⟩)
  refine ⟨dpt n par, x1, x2, x3, x4, x5, dB', x6, f', y1, y2, y3, r1.msr hn (by omega), ?_, ?_, r4⟩
  · unfold fn_X4_measureByQueues bf_X4_measureByQueues_0
    rw [nI_clamp (by omega), if_neg]
    · rw [show fn_X3_lineUpRising F (nI n) S w0 S liX = some AX by
        unfold fn_X3_lineUpRising bf_X3_lineUpRising_0
        rw [show fn_X3_lineUp F (nI n) S w0 S liX 1 = _ from s1, bs], bs]
      exact r2
    · show ¬ ((0 : Int32) < 0 ∨ (0 : Int32) < 0 ∨ nI n < 0 ∨ S < 0 + n ∨ 2 * S < 0 + n)
      rintro (z | z | z | z | z)
      · exact absurd z (by decide)
      · exact absurd z (by decide)
      · exact nI_pos (by omega) z
      · omega
      · omega
  · unfold fn_X12_byQueues bf_X12_byQueues_0
    rw [show fn_X12_sort F (nI n) 96 cM 96 orM 1 = _ from s2, bs]
    exact Eq.trans p1 r3
