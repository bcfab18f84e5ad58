/-! build: HEAP, all rounds. -/
theorem Lst.congr {W W' : Nat → Int32} {P : Nat → Prop} {a : Nat} (h : Lst W P a) (hW : ∀ x, P x → W x = W' x) : Lst W' P a := by
  refine ⟨h.1, fun x hx => ?_⟩
  rcases h.2 x hx with z | z
  · exact Or.inl z
  · right
    unfold bfr at z ⊢
    rw [← hW a h.1, ← hW x hx]
    exact z
theorem FS.par {n : Nat} {par : Nat → Nat} (hn : 2 ≤ n) (h : FS n (2 * n - 1) par) (h0 : ∀ x, x < 2 * n - 2 → par x ≠ 0) : Par n par := by
  obtain ⟨h1, h2⟩ := h
  refine ⟨fun x hx => ?_, fun m m1 m2 => ?_⟩
  · rcases h1 x (by omega) with z | z
    · exact absurd z (h0 x hx)
    · exact ⟨z.1, z.2.1, by omega⟩
  · obtain ⟨a, b, c1, c2, c3, c4, c5, c6⟩ := h2 m m1 (by omega)
    exact ⟨a, b, c1, c2, c3, c4, c5, fun x hx => c6 x (by omega)⟩
/-- class and reference while nodes are made -/
def HS (n made : Nat) (par : Nat → Nat) (wX aX wM aM : Nat → Int32) : Prop :=
  FS n made par ∧ (∀ x, x < made → wX x = wM x) ∧ (∀ x, x < made → par x ≠ 0 → aX x = nI (par x) ∧ aM x = nI (par x)) ∧ (∀ x, x < made → par x = 0 → aM x = -1) ∧ (n < made → par (made - 1) = 0)
theorem HS.am {n made : Nat} {par : Nat → Nat} {wX aX wM aM : Nat → Int32} (h : HS n made par wX aX wM aM) (hm : made ≤ 192) {x : Nat} (hx : x < made) : aM x = -1 ↔ par x = 0 := by
  constructor
  · intro z
    apply Classical.byContradiction
    intro y
    have := (h.2.2.1 x hx y).2
    rw [z] at this
    rcases h.1.1 x hx with q | q
    · exact y q
    · exact nI_nm1 (by omega) this.symm
  · exact h.2.2.2.1 x hx
theorem HS.new {n made a b : Nat} {par : Nat → Nat} {wX aX wM aM : Nat → Int32} {w : Int32} (h : HS n made par wX aX wM aM) (hn : 0 < n) (hm : n ≤ made) (hm2 : made < 192) (ha : a < made) (hb : b < made) (hab : a ≠ b) (pa : par a = 0) (pb : par b = 0) :
    HS n (made + 1) (ext (ext (ext par made 0) a made) b made) (upd wX made w) (upd (upd aX a (nI made)) b (nI made)) (upd wM made w) (upd (upd (upd aM made (-1)) a (nI made)) b (nI made)) := by
  obtain ⟨h1, h2, h3, h4, h5⟩ := h
  refine ⟨h1.new hn hm ha hb hab pa pb, fun x hx => ?_, fun x hx px => ?_, fun x hx px => ?_, fun _ => ?_⟩
  · by_cases e : x = made
    · subst e; rw [pk_us, pk_us]
    · rw [pk_un e, pk_un e]; exact h2 x (by omega)
  · by_cases xb : x = b
    · subst xb; rw [ext_s, pk_us, pk_us]; exact ⟨rfl, rfl⟩
    · by_cases xa : x = a
      · subst xa; rw [ext_o xb, ext_s, pk_un xb, pk_us, pk_un xb, pk_us]; exact ⟨rfl, rfl⟩
      · by_cases xm : x = made
        · subst xm; rw [ext_o xb, ext_o xa, ext_s] at px; exact absurd rfl px
        · rw [ext_o xb, ext_o xa, ext_o xm] at px ⊢
          rw [pk_un xb, pk_un xa, pk_un xb, pk_un xa, pk_un xm]
          exact h3 x (by omega) px
  · by_cases xb : x = b
    · subst xb; rw [ext_s] at px; omega
    · by_cases xa : x = a
      · subst xa; rw [ext_o xb, ext_s] at px; omega
      · by_cases xm : x = made
        · subst xm; rw [pk_un xb, pk_un xa, pk_us]
        · rw [ext_o xb, ext_o xa, ext_o xm] at px
          rw [pk_un xb, pk_un xa, pk_un xm]
          exact h4 x (by omega) px
  · rw [Nat.add_sub_cancel, ext_o (by omega), ext_o (by omega), ext_s]
theorem join_eq (F : Nat) {N a b made : Nat} (wX aX : Nat → Int32) (hN : N ≤ 192) (ha : a < N) (hb : b < N) (hm : made < N) : fn_X4_join F N N wX aX (nI a) (nI b) (nI made) = some (upd wX made (wX a + wX b), upd (upd aX a (nI made)) b (nI made)) := by
  unfold fn_X4_join bf_X4_join_0
  rw [nI_clamp (n := a) (by omega), nI_clamp (n := b) (by omega), nI_clamp (n := made) (by omega), if_neg (gin ha (by omega)), if_neg (gin hb (by omega)), if_neg (gin hm (by omega)), if_neg (gin ha (by omega)), if_neg (gin hb (by omega))]
theorem heap_loop (F : Nat) {S n : Nat} {w0 cM : Nat → Int32} (hF : 1000 < F) (hS : S ≤ 96) (hn : 2 ≤ n) (hnS : n ≤ S) : ∀ (j made k k' : Nat) (par op : Nat → Nat) (wX aX dA opX dB wM aM found : Nat → Int32), made + j = 2 * n - 1 → n ≤ made → j < k → j < k' → HS n made par wX aX wM aM → Enm (fun x => x < made ∧ par x = 0) (2 * n - made) op → (∀ i, i < 2 * n - made → opX i = nI (op i)) →
    ∃ (par' : Nat → Nat) (x1 : Int32) (x2 x3 x4 x5 dB' f' y1 y2 : Nat → Int32), Par n par' ∧ lf_X4_measureByHeap_53 F (2 * S) (2 * S) (2 * S) S (nI n) S w0 S k (nI made) (nI (2 * n - made)) wX aX dA opX dB = some (x1, x2, x3, x4, x5, dB') ∧ lf_X12_byHeap_40 F (nI n) 96 cM 96 192 192 k' (nI made) found wM aM = some (f', y1, y2) ∧ ∀ x, x < n → dB' x = nI (dpt n par' x) ∧ f' x = nI (dpt n par' x) := by
  intro j
  induction j with
  | zero =>
    intro made k k' par op wX aX dA opX dB wM aM found hj hm hk hk' hH hE hX
    obtain ⟨k, rfl⟩ : ∃ z, k = z + 1 := ⟨k - 1, by omega⟩
    obtain ⟨k', rfl⟩ : ∃ z, k' = z + 1 := ⟨k' - 1, by omega⟩
    obtain rfl : made = 2 * n - 1 := by omega
    obtain ⟨h1, h2, h3, h4, h5⟩ := id hH
    have hr : par (2 * n - 2) = 0 := h5 (by omega)
    have h0 : ∀ x, x < 2 * n - 2 → par x ≠ 0 := fun x hx z => by
      obtain ⟨i, i1, i2⟩ := hE.2.2 x ⟨by omega, z⟩
      obtain ⟨l, l1, l2⟩ := hE.2.2 (2 * n - 2) ⟨by omega, hr⟩
      obtain rfl : i = l := by omega
      omega
    have hP := h1.par hn h0
    obtain ⟨dA', dB', r1, r2⟩ := depX_eq F dA dB hF hS hn hnS hP (fun x hx => (h3 x (by omega) (h0 x hx)).1)
    obtain ⟨f', u1, u2⟩ := up_eq F found hF hn (by omega) hP (fun x hx => (h3 x (by omega) (h0 x hx)).2) (h4 _ (by omega) hr)
    refine ⟨par, nI (2 * n - (2 * n - 1)), wX, aX, dA', opX, dB', f', wM, aM, hP, ?_, ?_, fun x hx => ⟨r2 x hx, u2 x hx⟩⟩
    · show bf_X4_measureByHeap_53 F (2 * S) (2 * S) (2 * S) S (nI n) S w0 S (fun a b c d e f g => lf_X4_measureByHeap_53 F (2 * S) (2 * S) (2 * S) S (nI n) S w0 S k a b c d e f g) (nI (2 * n - 1)) (nI (2 * n - (2 * n - 1))) wX aX dA opX dB = _
      unfold bf_X4_measureByHeap_53
      rw [show (2 : Int32) * nI n = nI (2 * n) by rw [show (2 : Int32) = nI 2 from rfl, pk_mul], show nI (2 * n) - (1 : Int32) = nI (2 * n - 1) from pk_sub (b := 1) (by omega), if_pos (nI_le (Nat.le_refl _) (by omega)), r1, bs]
    · show bf_X12_byHeap_40 F (nI n) 96 cM 96 192 192 (fun a b c d => lf_X12_byHeap_40 F (nI n) 96 cM 96 192 192 k' a b c d) (nI (2 * n - 1)) found wM aM = _
      unfold bf_X12_byHeap_40
      rw [show (2 : Int32) * nI n = nI (2 * n) by rw [show (2 : Int32) = nI 2 from rfl, pk_mul], show nI (2 * n) - (1 : Int32) = nI (2 * n - 1) from pk_sub (b := 1) (by omega), if_pos (nI_le (Nat.le_refl _) (by omega)), u1, bs]
  | succ j ih =>
    intro made k k' par op wX aX dA opX dB wM aM found hj hm hk hk' hH hE hX
    obtain ⟨k, rfl⟩ : ∃ z, k = z + 1 := ⟨k - 1, by omega⟩
    obtain ⟨k', rfl⟩ : ∃ z, k' = z + 1 := ⟨k' - 1, by omega⟩
    obtain ⟨h1, h2, h3, h4, h5⟩ := id hH
    obtain ⟨a, op1, opX1, t1, t2, t3, t4⟩ := take_eq F (N := 2 * S) (W := wX) hF (by omega) hS (by omega) (by omega) (fun x hx => by omega) hE hX
    obtain ⟨b, op2, opX2, s1, s2, s3, s4⟩ := take_eq F (N := 2 * S) (W := wX) hF (by omega) hS (by omega) (by omega) (fun x hx => by have := hx.1.1; omega) t3 t4
    obtain ⟨⟨a1, a2⟩, _⟩ := id t2
    obtain ⟨⟨⟨b1, b2⟩, b3⟩, _⟩ := id s2
    have l1 : fn_X12_least F 192 wM 192 aM (nI made) (-1) = some (nI a) := least_eq F hF (by omega) (fun x hx => hH.am (by omega) hx) (fun x => ⟨fun z => ⟨z.1, z.2, nI_nm1 (by omega)⟩, fun z => ⟨z.1, z.2.1⟩⟩) (t2.congr (fun x hx => h2 x hx.1))
    have l2 : fn_X12_least F 192 wM 192 aM (nI made) (nI a) = some (nI b) := least_eq F hF (by omega) (fun x hx => hH.am (by omega) hx) (fun x => ⟨fun z => ⟨z.1.1, z.1.2, fun y => z.2 ((nI_eq (by omega) (by omega)).mp y)⟩, fun z => ⟨⟨z.1, z.2.1⟩, fun y => z.2.2 (by rw [y])⟩⟩) (s2.congr (fun x hx => h2 x hx.1.1))
    have hN := hH.new (w := wX a + wX b) (by omega) hm (by omega) a1 b1 (fun z => b3 z.symm) a2 b2
    have pe : ∀ x, x < made → x ≠ a → x ≠ b → ext (ext (ext par made 0) a made) b made x = par x := fun x hx xa xb => by rw [ext_o xb, ext_o xa, ext_o (by omega)]
    have hE' : Enm (fun x => x < made + 1 ∧ ext (ext (ext par made 0) a made) b made x = 0) (2 * n - (made + 1)) (ext op2 (2 * n - made - 1 - 1) made) := by
      refine ⟨fun i hi => ?_, fun i l hi hl e => ?_, fun x hx => ?_⟩
      · by_cases e : i = 2 * n - made - 1 - 1
        · subst e; rw [ext_s, ext_o (by omega), ext_o (by omega), ext_s]; exact ⟨by omega, rfl⟩
        · rw [ext_o e]
          obtain ⟨⟨⟨q1, q2⟩, q3⟩, q4⟩ := s3.1 i (by omega)
          rw [pe _ q1 q3 q4]
          exact ⟨by omega, q2⟩
      · by_cases ei : i = 2 * n - made - 1 - 1
        · by_cases el : l = 2 * n - made - 1 - 1
          · omega
          · rw [ei, ext_s, ext_o el] at e
            have := (s3.1 l (by omega)).1.1.1
            omega
        · by_cases el : l = 2 * n - made - 1 - 1
          · rw [el, ext_s, ext_o ei] at e
            have := (s3.1 i (by omega)).1.1.1
            omega
          · rw [ext_o ei, ext_o el] at e
            exact s3.2.1 i l (by omega) (by omega) e
      · obtain ⟨x1, x2⟩ := hx
        by_cases xm : x = made
        · subst xm; exact ⟨2 * n - x - 1 - 1, by omega, ext_s⟩
        · have xa : x ≠ a := fun z => by subst z; rw [ext_o (fun y => b3 y.symm), ext_s] at x2; omega
          have xb : x ≠ b := fun z => by subst z; rw [ext_s] at x2; omega
          rw [pe x (by omega) xa xb] at x2
          obtain ⟨i, i1, i2⟩ := s3.2.2 x ⟨⟨⟨by omega, x2⟩, xa⟩, xb⟩
          exact ⟨i, by omega, by rw [ext_o (by omega)]; exact i2⟩
    obtain ⟨par', x1, x2, x3, x4, x5, dB', f', y1, y2, r1, r2, r3, r4⟩ := ih (made + 1) k k' _ _ _ _ dA (upd opX2 (2 * n - made - 1 - 1) (nI made)) dB _ _ found (by omega) (by omega) (by omega) (by omega) hN hE' (fun i hi => by
      by_cases e : i = 2 * n - made - 1 - 1
      · subst e; rw [pk_us, ext_s]
      · rw [pk_un e, ext_o e]; exact s4 i (by omega))
    refine ⟨par', x1, x2, x3, x4, x5, dB', f', y1, y2, r1, ?_, ?_, r4⟩
    · show bf_X4_measureByHeap_53 F (2 * S) (2 * S) (2 * S) S (nI n) S w0 S (fun a b c d e f g => lf_X4_measureByHeap_53 F (2 * S) (2 * S) (2 * S) S (nI n) S w0 S k a b c d e f g) (nI made) (nI (2 * n - made)) wX aX dA opX dB = _
      unfold bf_X4_measureByHeap_53
      rw [show (2 : Int32) * nI n = nI (2 * n) by rw [show (2 : Int32) = nI 2 from rfl, pk_mul], show nI (2 * n) - (1 : Int32) = nI (2 * n - 1) from pk_sub (b := 1) (by omega), if_neg (nI_ge (by omega) (by omega)), t1, bs, s1, bs, join_eq F wX aX (by omega) (by omega) (by omega) (by omega), bs, nI_clamp (n := 2 * n - made - 1 - 1) (by omega), if_neg (gin (by omega) (by omega)), show nI made + (1 : Int32) = nI (made + 1) from nI_add made 1, show nI (2 * n - made - 1 - 1) + (1 : Int32) = nI (2 * n - (made + 1)) by rw [show nI (2 * n - made - 1 - 1) + (1 : Int32) = nI (2 * n - made - 1 - 1 + 1) from nI_add _ 1, show 2 * n - made - 1 - 1 + 1 = 2 * n - (made + 1) by omega]]
      exact r2
    · show bf_X12_byHeap_40 F (nI n) 96 cM 96 192 192 (fun a b c d => lf_X12_byHeap_40 F (nI n) 96 cM 96 192 192 k' a b c d) (nI made) found wM aM = _
      unfold bf_X12_byHeap_40
      rw [show (2 : Int32) * nI n = nI (2 * n) by rw [show (2 : Int32) = nI 2 from rfl, pk_mul], show nI (2 * n) - (1 : Int32) = nI (2 * n - 1) from pk_sub (b := 1) (by omega), if_neg (nI_ge (by omega) (by omega)), l1, bs, l2, bs, nI_clamp (n := a) (by omega), nI_clamp (n := b) (by omega), nI_clamp (n := made) (by omega), if_neg (gin (by omega) (by omega)), if_neg (gin (by omega) (by omega)), if_neg (gin (by omega) (by omega)), if_neg (gin (by omega) (by omega)), if_neg (gin (by omega) (by omega)), if_neg (gin (by omega) (by omega)), show nI made + (1 : Int32) = nI (made + 1) from nI_add made 1, ← h2 a a1, ← h2 b b1]
      exact r3
theorem open_loop (F : Nat) {S n : Nat} {w0 wX aX dA dB : Nat → Int32} {o0 : Int32} (hS : S ≤ 96) (hnS : n ≤ S) : ∀ (d i k : Nat) (opX : Nat → Int32), i + d = n → d < k → (∀ x, x < i → opX x = nI x) → ∃ opX', lf_X4_measureByHeap_19 F (2 * S) (2 * S) (2 * S) S (nI n) S w0 S k (nI i) o0 wX aX dA opX dB = lf_X4_measureByHeap_53 F (2 * S) (2 * S) (2 * S) S (nI n) S w0 S F (nI n) (nI n) wX aX dA opX' dB ∧ ∀ x, x < n → opX' x = nI x := by
  intro d
  induction d with
  | zero =>
    intro i k opX hi hk h
    obtain ⟨k, rfl⟩ : ∃ z, k = z + 1 := ⟨k - 1, by omega⟩
    refine ⟨opX, ?_, fun x hx => h x (by omega)⟩
    show bf_X4_measureByHeap_19 F (2 * S) (2 * S) (2 * S) S (nI n) S w0 S (fun a b c d e f g => lf_X4_measureByHeap_19 F (2 * S) (2 * S) (2 * S) S (nI n) S w0 S k a b c d e f g) (nI i) o0 wX aX dA opX dB = _
    unfold bf_X4_measureByHeap_19
    rw [if_pos (nI_le (by omega) (by omega))]
  | succ d ih =>
    intro i k opX hi hk h
    obtain ⟨k, rfl⟩ : ∃ z, k = z + 1 := ⟨k - 1, by omega⟩
    obtain ⟨opX', r1, r2⟩ := ih (i + 1) k (upd opX i (nI i)) (by omega) (by omega) (fun x hx => by
      by_cases e : x = i
      · subst e; exact pk_us
      · rw [pk_un e]; exact h x (by omega))
    refine ⟨opX', ?_, r2⟩
    show bf_X4_measureByHeap_19 F (2 * S) (2 * S) (2 * S) S (nI n) S w0 S (fun a b c d e f g => lf_X4_measureByHeap_19 F (2 * S) (2 * S) (2 * S) S (nI n) S w0 S k a b c d e f g) (nI i) o0 wX aX dA opX dB = _
    unfold bf_X4_measureByHeap_19
    rw [if_neg (nI_ge (by omega) (by omega)), nI_clamp (by omega), if_neg (gin (by omega) (by omega)), show nI i + (1 : Int32) = nI (i + 1) from nI_add i 1]
    exact r1
theorem start_loop (F : Nat) {n : Nat} {cM found : Nat → Int32} (hn : n ≤ 96) : ∀ (d i k : Nat) (wM aM : Nat → Int32), i + d = n → d < k → (∀ x, x < i → wM x = cM x ∧ aM x = -1) → ∃ wM' aM', lf_X12_byHeap_2 F (nI n) 96 cM 96 192 192 k (nI i) found wM aM = lf_X12_byHeap_40 F (nI n) 96 cM 96 192 192 F (nI n) found wM' aM' ∧ ∀ x, x < n → wM' x = cM x ∧ aM' x = -1 := by
  intro d
  induction d with
  | zero =>
    intro i k wM aM hi hk h
    obtain ⟨k, rfl⟩ : ∃ z, k = z + 1 := ⟨k - 1, by omega⟩
    refine ⟨wM, aM, ?_, fun x hx => h x (by omega)⟩
    show bf_X12_byHeap_2 F (nI n) 96 cM 96 192 192 (fun a b c d => lf_X12_byHeap_2 F (nI n) 96 cM 96 192 192 k a b c d) (nI i) found wM aM = _
    unfold bf_X12_byHeap_2
    rw [if_pos (nI_le (by omega) (by omega))]
  | succ d ih =>
    intro i k wM aM hi hk h
    obtain ⟨k, rfl⟩ : ∃ z, k = z + 1 := ⟨k - 1, by omega⟩
    obtain ⟨wM', aM', r1, r2⟩ := ih (i + 1) k (upd wM i (cM i)) (upd aM i (-1)) (by omega) (by omega) (fun x hx => by
      by_cases e : x = i
      · subst e; exact ⟨pk_us, pk_us⟩
      · rw [pk_un e, pk_un e]; exact h x (by omega))
    refine ⟨wM', aM', ?_, r2⟩
    show bf_X12_byHeap_2 F (nI n) 96 cM 96 192 192 (fun a b c d => lf_X12_byHeap_2 F (nI n) 96 cM 96 192 192 k a b c d) (nI i) found wM aM = _
    unfold bf_X12_byHeap_2
    rw [if_neg (nI_ge (by omega) (by omega)), nI_clamp (by omega), if_neg (gin (by omega) (by omega)), if_neg (gin (by omega) (by omega)), if_neg (gin (by omega) (by omega)), show nI i + (1 : Int32) = nI (i + 1) from nI_add i 1]
    exact r1
theorem HS.start {n : Nat} {wX aX wM aM : Nat → Int32} (hw : ∀ x, x < n → wX x = wM x) (ha : ∀ x, x < n → aM x = -1) : HS n n (fun _ => 0) wX aX wM aM :=
  ⟨⟨fun _ _ => Or.inl rfl, fun m m1 m2 => by omega⟩, hw, fun x _ h => absurd rfl h, fun x hx _ => ha x hx, fun h => absurd h (Nat.lt_irrefl _)⟩
/-- HEAP: both find the same depths -/
theorem heap_eq (F : Nat) {S n : Nat} {w0 cM : Nat → Int32} (o0 : Int32) (wX aX dA opX dB wM aM found : Nat → Int32) (hF : 1000 < F) (hS : S ≤ 96) (hn : 2 ≤ n) (hnS : n ≤ S) (hw : ∀ x, x < n → w0 x = cM x) :
    ∃ (d : Nat → Nat) (x1 : Int32) (x2 x3 x4 x5 dB' f' y1 y2 : Nat → Int32), Msr n d ∧ fn_X4_measureByHeap F (2 * S) (2 * S) (2 * S) S (nI n) S w0 S o0 wX aX dA opX dB = some (x1, x2, x3, x4, x5, dB') ∧ fn_X12_byHeap F (nI n) 96 cM 96 192 192 found wM aM = some (f', y1, y2) ∧ ∀ x, x < n → dB' x = nI (d x) ∧ f' x = nI (d x) := by
  obtain ⟨opX', o1, o2⟩ := open_loop F (S := S) (n := n) (w0 := w0) (wX := va_cpy w0 wX 0 0 n) (aX := aX) (dA := dA) (dB := dB) (o0 := o0) hS hnS n 0 F opX (by omega) (by omega) (fun x hx => by omega)
  obtain ⟨wM', aM', p1, p2⟩ := start_loop F (n := n) (cM := cM) (found := found) (by omega) n 0 F wM aM (by omega) (by omega) (fun x hx => by omega)
  obtain ⟨par, x1, x2, x3, x4, x5, dB', f', y1, y2, r1, r2, r3, r4⟩ := heap_loop F (w0 := w0) (cM := cM) hF hS hn hnS (n - 1) n F F (fun _ => 0) (fun i => i) (va_cpy w0 wX 0 0 n) aX dA opX' dB wM' aM' found (by omega) (Nat.le_refl _) (by omega) (by omega) (HS.start (fun x hx => by rw [pk_cpy_in (by omega) (by omega), show 0 + (x - 0) = x by omega, hw x hx]; exact (p2 x hx).1.symm) (fun x hx => (p2 x hx).2)) ⟨fun j hj => ⟨show j < n by omega, rfl⟩, fun i j _ _ e => e, fun x hx => ⟨x, by have := hx.1; omega, rfl⟩⟩ (fun i hi => o2 i (by omega))
  refine ⟨dpt n par, x1, x2, x3, x4, x5, dB', f', y1, y2, r1.msr hn (by omega), ?_, ?_, r4⟩
  · unfold fn_X4_measureByHeap bf_X4_measureByHeap_0
    rw [nI_clamp (by omega), if_neg]
    · refine Eq.trans o1 ?_
      rw [show 2 * n - n = n by omega] at r2
      exact r2
    · show ¬ ((0 : Int32) < 0 ∨ (0 : Int32) < 0 ∨ nI n < 0 ∨ S < 0 + n ∨ 2 * S < 0 + n)
      rintro (z | z | z | z | z)
      · exact absurd z (by decide)
      · exact absurd z (by decide)
      · exact nI_pos (by omega) z
      · omega
      · omega
  · exact Eq.trans p1 r3
