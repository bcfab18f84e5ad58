/-! pack. -/
/-- the row of symbols without a code from i on, among the next d -/
def gp (len : Nat → Nat) : Nat → Nat → Nat
  | 0, _ => 0
  | d + 1, i => if len i = 0 then gp len d (i + 1) + 1 else 0
theorem gp_le (len : Nat → Nat) : ∀ d i, gp len d i ≤ d
  | 0, _ => Nat.le_refl _
  | d + 1, i => by
    unfold gp
    have := gp_le len d (i + 1)
    split <;> omega
theorem nI_e0 {n : Nat} (h : n < 2 ^ 31) : nI n = 0 ↔ n = 0 := nI_eq (b := 0) h (by decide)
theorem gap_loop (F : Nat) {S a : Nat} {len : Nat → Nat} {w : Nat → Int32} (hS : S ≤ 96) (hw : ∀ s, s < S → len s ≤ 24 ∧ w s = nI (len s)) : ∀ (d i k : Nat), a ≤ i → i + d = S → d < k → lf_X10_gapFrom_2 F (nI S) S w k (nI a) (nI i) = some (nI (i - a + gp len d i)) := by
  intro d
  induction d with
  | zero =>
    intro i k ha hi hk
    obtain ⟨k, rfl⟩ : ∃ q, k = q + 1 := ⟨k - 1, by omega⟩
    show bf_X10_gapFrom_2 F (nI S) S w (fun x y => lf_X10_gapFrom_2 F (nI S) S w k x y) (nI a) (nI i) = _
    unfold bf_X10_gapFrom_2
    rw [if_pos (nI_le (by omega) (by omega)), pk_sub ha]
    rfl
  | succ d ih =>
    intro i k ha hi hk
    obtain ⟨k, rfl⟩ : ∃ q, k = q + 1 := ⟨k - 1, by omega⟩
    obtain ⟨w1, w2⟩ := hw i (by omega)
    show bf_X10_gapFrom_2 F (nI S) S w (fun x y => lf_X10_gapFrom_2 F (nI S) S w k x y) (nI a) (nI i) = _
    unfold bf_X10_gapFrom_2 gp
    rw [if_neg (nI_ge (by omega) (by omega)), if_neg (nI_in (by omega) (by omega)), nI_clamp (by omega), w2, show nI i + (1 : Int32) = nI (i + 1) from nI_add i 1]
    by_cases e : len i = 0
    · rw [if_pos ((nI_e0 (by omega)).mpr e), if_pos e]
      refine (ih (i + 1) k (by omega) (by omega) (by omega)).trans ?_
      rw [show i + 1 - a + gp len d (i + 1) = i - a + (gp len d (i + 1) + 1) by omega]
    · rw [if_neg (fun z => e ((nI_e0 (by omega)).mp z)), if_neg e, pk_sub ha]
      rfl
theorem zeros_loop (F : Nat) {S a : Nat} {len : Nat → Nat} {w : Nat → Int32} (hS : S ≤ 96) (hw : ∀ s, s < S → len s ≤ 24 ∧ w s = nI (len s)) : ∀ (d z k : Nat), z ≤ 66 → a + z + d = S → d < k → lf_X12_zeros_2 F (nI S) 96 w k (nI a) (nI z) = some (nI (min 66 (z + gp len d (a + z)))) := by
  intro d
  induction d with
  | zero =>
    intro z k hz hi hk
    obtain ⟨k, rfl⟩ : ∃ q, k = q + 1 := ⟨k - 1, by omega⟩
    show bf_X12_zeros_2 F (nI S) 96 w (fun x y => lf_X12_zeros_2 F (nI S) 96 w k x y) (nI a) (nI z) = _
    unfold bf_X12_zeros_2 gp
    rw [show nI a + nI z = nI (a + z) from nI_add a z, if_pos (nI_le (by omega) (by omega)), show min 66 (z + 0) = z by omega]
  | succ d ih =>
    intro z k hz hi hk
    obtain ⟨k, rfl⟩ : ∃ q, k = q + 1 := ⟨k - 1, by omega⟩
    obtain ⟨w1, w2⟩ := hw (a + z) (by omega)
    show bf_X12_zeros_2 F (nI S) 96 w (fun x y => lf_X12_zeros_2 F (nI S) 96 w k x y) (nI a) (nI z) = _
    unfold bf_X12_zeros_2 gp
    rw [show nI a + nI z = nI (a + z) from nI_add a z, if_neg (nI_ge (by omega) (by omega))]
    by_cases e6 : z = 66
    · rw [if_pos (show (66 : Int32) ≤ nI z from nI_le (a := 66) (by omega) (by omega)), show min 66 (z + (if len (a + z) = 0 then gp len d (a + z + 1) + 1 else 0)) = z by omega]
    rw [if_neg (show ¬ (66 : Int32) ≤ nI z from nI_ge (b := 66) (by omega) (by omega)), if_neg (nI_in (by omega) (by omega)), nI_clamp (by omega), w2, show nI z + (1 : Int32) = nI (z + 1) from nI_add z 1]
    by_cases e : len (a + z) = 0
    · rw [if_pos ((nI_e0 (by omega)).mpr e), if_pos e]
      refine (ih (z + 1) k (by omega) (by omega) (by omega)).trans ?_
      rw [show a + (z + 1) = a + z + 1 by omega, show z + 1 + gp len d (a + z + 1) = z + (gp len d (a + z + 1) + 1) by omega]
    · rw [if_neg (fun z => e ((nI_e0 (by omega)).mp z)), if_neg e, show min 66 (z + 0) = z by omega]
theorem gap_eq {F S i : Nat} {len : Nat → Nat} {w : Nat → Int32} (hS : S ≤ 96) (hF : S < F) (hi : i ≤ S) (hw : ∀ s, s < S → len s ≤ 24 ∧ w s = nI (len s)) : fn_X10_gapFrom F (nI S) S w (nI i) = some (nI (gp len (S - i) i)) := by
  have := gap_loop F (a := i) hS hw (S - i) i F (Nat.le_refl _) (by omega) (by omega)
  rw [show i - i + gp len (S - i) i = gp len (S - i) i by omega] at this
  exact this
theorem zeros_eq {F S i : Nat} {len : Nat → Nat} {w : Nat → Int32} (hS : S ≤ 96) (hF : S < F) (hi : i ≤ S) (hw : ∀ s, s < S → len s ≤ 24 ∧ w s = nI (len s)) : fn_X12_zeros F (nI S) 96 w (nI i) = some (nI (min 66 (gp len (S - i) i))) := by
  have := zeros_loop F (a := i) hS hw (S - i) 0 F (by omega) (by omega) (by omega)
  rw [Nat.add_zero, Nat.zero_add] at this
  exact this
/-- the reference's part behind the lengths -/
noncomputable def packEnd (F T : Nat) (x w cm : Nat → Int32) (m : Int32) (b : Nat → Int32) : Option (Int32 × Int32 × (Nat → Int32)) :=
  (fn_X12_lay F 6000 m b (nI T) (10 : Int32)).bind fun v149 => ((fn_X12_layText F (nI T) 600 x 96 w 96 cm 6000 v149.1 v149.2).bind fun v153 => some (v153.1, v153.1, v153.2))
theorem nz_min {v : Nat} (hv : v ≤ 96) : (if (66 : Int32) < nI v then (66 : Int32) else nI v) = nI (min 66 v) := by
  by_cases q : 66 < v
  · rw [if_pos (show (66 : Int32) < nI v from nI_lt (a := 66) q (by omega)), show min 66 v = 66 by omega]; rfl
  · rw [if_neg (show ¬ (66 : Int32) < nI v from nI_nlt (b := v) (a := 66) (by omega) (by decide)), show min 66 v = v by omega]
theorem lens_loop (F : Nat) {S T : Nat} {len : Nat → Nat} {wX wM x cm : Nat → Int32} {io ld : Int32} (hS : S ≤ 96) (hF : 200 < F) (hX : ∀ s, s < S → len s ≤ 24 ∧ wX s = nI (len s)) (hM : ∀ s, s < S → len s ≤ 24 ∧ wM s = nI (len s)) : ∀ (e d i : Nat), d ≤ e → i + d = S →
    ∃ (B : Nat) (G : Nat → (Nat → Bool) → Nat → Bool), B ≤ 11 * d ∧
      (∀ (M n k : Nat) (f : Nat → Bool) (ov : Bool) (b : Nat → Int32), d < k → WS 6000 M f n ov b → ∃ (n' : Nat) (ov' : Bool) (b' : Nat → Int32), lf_X11_writeLengths_2 F (nI S) (nI S) S wX (nI 6000) 188 k (nI i) (nI n) (b01 ov) b = some (nI n', b01 ov', b') ∧ WS 6000 (M + B) (G M f) n' ov' b') ∧
      (∀ (m k : Nat), d < k → lf_X12_tableBits_5 F (nI S) 96 wM k (nI m) (nI i) = some (nI (m + B))) ∧
      (∀ (M k : Nat) (f : Nat → Bool) (b : Nat → Int32), d < k → M + B ≤ 6000 → WM_ M f b → ∃ b', lf_X12_pack_83 F (nI S) (nI T) io ld 600 x 96 wM 96 cm 6000 k (nI i) (nI M) b = packEnd F T x wM cm (nI (M + B)) b' ∧ WM_ (M + B) (G M f) b') := by
  intro e
  induction e with
  | zero =>
    intro d i hd hi
    obtain rfl : d = 0 := by omega
    refine ⟨0, fun _ f => f, Nat.zero_le _, fun M n k f ov b hk h => ?_, fun m k hk => ?_, fun M k f b hk _ h => ?_⟩ <;> obtain ⟨k, rfl⟩ : ∃ q, k = q + 1 := ⟨k - 1, by omega⟩
    · refine ⟨n, ov, b, ?_, h⟩
      show bf_X11_writeLengths_2 F (nI S) (nI S) S wX (nI 6000) 188 (fun a c e g => lf_X11_writeLengths_2 F (nI S) (nI S) S wX (nI 6000) 188 k a c e g) (nI i) (nI n) (b01 ov) b = _
      unfold bf_X11_writeLengths_2
      rw [if_pos (nI_le (by omega) (by omega))]
    · show bf_X12_tableBits_5 F (nI S) 96 wM (fun a c => lf_X12_tableBits_5 F (nI S) 96 wM k a c) (nI m) (nI i) = _
      unfold bf_X12_tableBits_5
      rw [if_pos (nI_le (by omega) (by omega))]
      rfl
    · refine ⟨b, ?_, h⟩
      show bf_X12_pack_83 F (nI S) (nI T) io ld 600 x 96 wM 96 cm 6000 (fun a c g => lf_X12_pack_83 F (nI S) (nI T) io ld 600 x 96 wM 96 cm 6000 k a c g) (nI i) (nI M) b = _
      unfold bf_X12_pack_83
      rw [if_pos (nI_le (by omega) (by omega))]
      rfl
  | succ e ih =>
    intro d i hd hi
    by_cases hd0 : d = 0
    · exact ih d i (by omega) hi
    have gz := gap_eq (F := F) (i := i) hS (by omega) (by omega) hX
    have zz := zeros_eq (F := F) (i := i) hS (by omega) (by omega) hM
    rw [show S - i = d by omega] at gz zz
    have gl := gp_le len d i
    generalize gp len d i = v at gz zz gl
    have zm := nz_min (v := v) (by omega)
    by_cases h3 : min 66 v < 3
    · obtain ⟨B, G, b0, b1, b2, b3⟩ := ih (d - 1) (i + 1) (by omega) (by omega)
      obtain ⟨x1, x2⟩ := hX i (by omega)
      obtain ⟨y1, y2⟩ := hM i (by omega)
      have c3 : nI (min 66 v) < (3 : Int32) := nI_lt (b := 3) h3 (by decide)
      have c2 : nI (min 66 v) ≤ (2 : Int32) := nI_le (b := 2) (by omega) (by decide)
      refine ⟨5 + B, fun M f => G (M + 5) (fx f M (nI (len i)) 5), by omega, fun M n k f ov b hk h => ?_, fun m k hk => ?_, fun M k f b hk hB h => ?_⟩ <;> obtain ⟨k, rfl⟩ : ∃ q, k = q + 1 := ⟨k - 1, by omega⟩
      · obtain ⟨n1, o1, w1, a1, a2⟩ := addNumber_eq F (N := 6000) (nw := 188) (d := 5) (nI (len i)) (by decide) (by decide) (by decide) (by decide) (by omega) h
        obtain ⟨n2, o2, w2, p1, p2⟩ := b1 _ n1 k _ o1 w1 (by omega) a2
        refine ⟨n2, o2, w2, ?_, by rw [← Nat.add_assoc]; exact p2⟩
        show bf_X11_writeLengths_2 F (nI S) (nI S) S wX (nI 6000) 188 (fun a c e g => lf_X11_writeLengths_2 F (nI S) (nI S) S wX (nI 6000) 188 k a c e g) (nI i) (nI n) (b01 ov) b = _
        unfold bf_X11_writeLengths_2
        rw [if_neg (nI_ge (by omega) (by omega)), gz, bs, zm, if_pos c3, if_neg (nI_in (by omega) (by omega)), nI_clamp (by omega), x2, show (5 : Int32) = nI 5 from rfl, a1, bs, show nI i + (1 : Int32) = nI (i + 1) from nI_add i 1]
        exact p1
      · show bf_X12_tableBits_5 F (nI S) 96 wM (fun a c => lf_X12_tableBits_5 F (nI S) 96 wM k a c) (nI m) (nI i) = _
        unfold bf_X12_tableBits_5 bf_X12_tableBits_31
        rw [if_neg (nI_ge (by omega) (by omega)), zz, bs, if_pos c2, if_pos c2, show nI i + (1 : Int32) = nI (i + 1) from nI_add i 1, show nI m + (5 : Int32) = nI (m + 5) from nI_add m 5]
        refine (b2 (m + 5) k (by omega)).trans ?_
        rw [Nat.add_assoc]
      · obtain ⟨w1, a1, a2⟩ := lay_ws F (N := 6000) (d := 5) (nI (len i)) (by decide) (by decide) (by omega) (by omega) h
        obtain ⟨w2, p1, p2⟩ := b3 _ k _ w1 (by omega) (by omega) a2
        refine ⟨w2, ?_, by rw [← Nat.add_assoc]; exact p2⟩
        show bf_X12_pack_83 F (nI S) (nI T) io ld 600 x 96 wM 96 cm 6000 (fun a c g => lf_X12_pack_83 F (nI S) (nI T) io ld 600 x 96 wM 96 cm 6000 k a c g) (nI i) (nI M) b = _
        unfold bf_X12_pack_83
        rw [if_neg (nI_ge (by omega) (by omega)), zz, bs, if_pos c2, if_neg (nI_in (by omega) (by omega)), nI_clamp (by omega), y2, show (5 : Int32) = nI 5 from rfl, a1, bs, show nI i + (1 : Int32) = nI (i + 1) from nI_add i 1, ← Nat.add_assoc]
        exact p1
    · have hv3 : 3 ≤ min 66 v := by omega
      have hvd : min 66 v ≤ d := by omega
      generalize min 66 v = z at zz zm h3 hv3 hvd
      obtain ⟨B, G, b0, b1, b2, b3⟩ := ih (d - z) (i + z) (by omega) (by omega)
      have c3 : ¬ nI z < (3 : Int32) := nI_nlt (b := 3) hv3 (by omega)
      have c2 : ¬ nI z ≤ (2 : Int32) := nI_ge (a := 2) (by omega) (by omega)
      have s3 : nI z - (3 : Int32) = nI (z - 3) := pk_sub (b := 3) hv3
      refine ⟨11 + B, fun M f => G (M + 5 + 6) (fx (fx f M (nI 31) 5) (M + 5) (nI (z - 3)) 6), by omega, fun M n k f ov b hk h => ?_, fun m k hk => ?_, fun M k f b hk hB h => ?_⟩ <;> obtain ⟨k, rfl⟩ : ∃ q, k = q + 1 := ⟨k - 1, by omega⟩
      · obtain ⟨n1, o1, w1, a1, a2⟩ := addNumber_eq F (N := 6000) (nw := 188) (d := 5) (nI 31) (by decide) (by decide) (by decide) (by decide) (by omega) h
        obtain ⟨n2, o2, w2, a3, a4⟩ := addNumber_eq F (N := 6000) (nw := 188) (d := 6) (nI (z - 3)) (by decide) (by decide) (by decide) (by decide) (by omega) a2
        obtain ⟨n3, o3, w3, p1, p2⟩ := b1 _ n2 k _ o2 w2 (by omega) a4
        refine ⟨n3, o3, w3, ?_, by rw [show M + (11 + B) = M + 5 + 6 + B by omega]; exact p2⟩
        show bf_X11_writeLengths_2 F (nI S) (nI S) S wX (nI 6000) 188 (fun a c e g => lf_X11_writeLengths_2 F (nI S) (nI S) S wX (nI 6000) 188 k a c e g) (nI i) (nI n) (b01 ov) b = _
        unfold bf_X11_writeLengths_2
        rw [if_neg (nI_ge (by omega) (by omega)), gz, bs, zm, if_neg c3, s3, show (31 : Int32) = nI 31 from rfl, show (5 : Int32) = nI 5 from rfl, show (6 : Int32) = nI 6 from rfl, a1, bs, a3, bs, show nI i + nI z = nI (i + z) from nI_add i z]
        exact p1
      · show bf_X12_tableBits_5 F (nI S) 96 wM (fun a c => lf_X12_tableBits_5 F (nI S) 96 wM k a c) (nI m) (nI i) = _
        unfold bf_X12_tableBits_5 bf_X12_tableBits_31
        rw [if_neg (nI_ge (by omega) (by omega)), zz, bs, if_neg c2, if_neg c2, show nI i + nI z = nI (i + z) from nI_add i z, show nI m + (11 : Int32) = nI (m + 11) from nI_add m 11]
        refine (b2 (m + 11) k (by omega)).trans ?_
        rw [Nat.add_assoc]
      · obtain ⟨w1, a1, a2⟩ := lay_ws F (N := 6000) (d := 5) (nI 31) (by decide) (by decide) (by omega) (by omega) h
        obtain ⟨w2, a3, a4⟩ := lay_ws F (N := 6000) (d := 6) (nI (z - 3)) (by decide) (by decide) (by omega) (by omega) a2
        obtain ⟨w3, p1, p2⟩ := b3 _ k _ w2 (by omega) (by omega) a4
        refine ⟨w3, ?_, by rw [show M + (11 + B) = M + 5 + 6 + B by omega]; exact p2⟩
        show bf_X12_pack_83 F (nI S) (nI T) io ld 600 x 96 wM 96 cm 6000 (fun a c g => lf_X12_pack_83 F (nI S) (nI T) io ld 600 x 96 wM 96 cm 6000 k a c g) (nI i) (nI M) b = _
        unfold bf_X12_pack_83
        rw [if_neg (nI_ge (by omega) (by omega)), zz, bs, if_neg c2, s3, show (31 : Int32) = nI 31 from rfl, show (5 : Int32) = nI 5 from rfl, show (6 : Int32) = nI 6 from rfl, a1, bs, a3, bs, show nI i + nI z = nI (i + z) from nI_add i z, show M + (11 + B) = M + 5 + 6 + B by omega]
        exact p1
theorem nI_nm1 {n : Nat} (h : n < 2 ^ 31) : ¬ nI n = -1 := fun z => by
  have z2 := congrArg Int32.toInt z
  rw [nI_toInt h] at z2
  have : (-1 : Int32).toInt = -1 := by decide
  omega
theorem sim_pack : Sim_pack FU Inv := by
  intro ci cn ca mi mn ma hI
  obtain ⟨S, K, T, t, len, nb, no, nk, hC, hM, hT, hLn, hB, hO, hKy, hP⟩ := id hI
  obtain ⟨h1, ⟨h2, h3, h4, h5, h6⟩, h7⟩ := id hLn
  obtain ⟨⟨t1, t2, t3⟩, t4, t5⟩ := id hT
  have c0 : ci 0 = nI S := hC.2.1.1
  have c3 : cn 3 = 600 := hC.2.2.1.1
  have c5 : cn 5 = S := hC.2.2.1.2
  have c63 : ci 63 = nI S := hC.2.2.2.2.2.2.2.2.1.1
  have c69 : cn 69 = S := hC.2.2.2.2.2.2.2.2.1.2.2.1
  have c71 : cn 71 = S := hC.2.2.2.2.2.2.2.2.1.2.2.2.1
  have c92 : ci 92 = nI 6000 := hC.2.2.2.2.2.2.2.2.2.2.1.2.2.1
  have c95 : cn 95 = 188 := hC.2.2.2.2.2.2.2.2.2.2.1.2.2.2
  have hS2 : 2 ≤ S := hC.1.1
  have hS : S ≤ 96 := hC.1.2.1
  have hK : K ≤ 24 := hC.1.2.2.2
  have m0 : mi 0 = nI S := hM.1.1
  have m13 : mn 13 = 600 := hM.2.1.1
  have m15 : mn 15 = 96 := hM.2.1.2.1
  have m17 : mn 17 = 96 := hM.2.1.2.2.1
  have m19 : mn 19 = 6000 := hM.2.1.2.2.2.1
  have ge := @rfl _ (gX_pack FU ci cn ca)
  have gm := @rfl _ (gM_pack FU mi mn ma)
  conv at ge => rhs; unfold gX_pack fn_X11_pack bf_X11_pack_0
  conv at gm => rhs; unfold gM_pack fn_X12_pack bf_X12_pack_0
  rw [← h4, ← h2] at gm
  rcases h5 with hl | hl
  · rw [if_pos hl] at gm
    have e : fn_X11_refusalToWrite FU (ci 0) (cn 5) (ca 6) (ci 67) (cn 69) (ca 70) = some (-1) := by rw [hl]; rfl
    rw [e, bs, if_neg (by decide)] at ge
    exact ⟨_, _, ge, gm, rfl, S, K, T, t, len, nb, no, nk, hC, hM, hT, hLn, hB, hO, hKy, hP⟩
  rw [if_neg (by rw [hl]; decide), m0, t3, m13, m15, m17, m19] at gm
  rw [c0, c5, hl, c63, c69, t2, c3, c71, c92, c95] at ge
  have hw : ∀ s, s < S → len s ≤ 24 ∧ ma 16 s = nI (len s) := fun s hs => ⟨by have := (h1 s hs).1; omega, (h1 s hs).2.2⟩
  have hwx : ∀ s, s < S → len s ≤ 24 ∧ ca 70 s = nI (len s) := fun s hs => ⟨by have := (h1 s hs).1; omega, (h1 s hs).2.1⟩
  obtain ⟨r1, r2⟩ := refusal_eq (S := S) (g := cnt t T) (len := len) (c := ca 6) (w := ca 70) hS (fun s hs => ⟨by have := cnt_le t s T; omega, t5 s hs⟩) (fun s hs => ⟨by have := (h1 s hs).1; omega, (h1 s hs).2.1⟩)
  obtain ⟨b1, b2⟩ := textBits_loop FU (S := S) (T := T) (len := len) (t := t) (x := ma 14) (w := ma 16) hS t1 (fun k hk => ⟨(t4 k hk).1, (t4 k hk).2.2⟩) hw T 0 FU (by omega) (by unfold FU; omega)
  have tbe : fn_X12_textBits FU (nI T) 600 (ma 14) 96 (ma 16) = lf_X12_textBits_4 FU (nI T) 600 (ma 14) 96 (ma 16) FU (nI (tb len t 0)) (nI 0) := rfl
  rw [tbe] at gm
  by_cases hlk : lackT T len t 0
  · rw [r1 ((lack_iff (fun k hk => (t4 k hk).1)).mpr hlk), bs, if_neg (by decide)] at ge
    rw [b1 hlk, bs, if_pos rfl, show ∀ (a b c d : Int32) (e f g h i j k l m), bf_X12_pack_34 FU a b c d e f g h i j k (-1) l m = some (-2, l, m) from fun _ _ _ _ _ _ _ _ _ _ _ _ _ => rfl] at gm
    rw [← c92, ← c95] at ge
    exact ⟨_, _, ge, gm, rfl, S, K, T, t, len, nb, no, nk, hC, hM, hT, hLn, hB, hO, hKy, hP⟩
  rw [r2 (fun z => hlk ((lack_iff (fun k hk => (t4 k hk).1)).mp z)), bs, if_pos (by decide), show fn_X0_restart FU (ci 93) (ci 94) = some (nI 0, b01 false) from rfl, bs] at ge
  have ht24 : tb len t T ≤ 24 * T := tb_le T (fun k hk => (hw (t k) (t4 k hk).1).1)
  obtain ⟨B, G, g0, g1, g2, g3⟩ := lens_loop FU (S := S) (T := T) (len := len) (wX := ca 70) (wM := ma 16) (x := ma 14) (cm := ma 18) (io := ci 66) (ld := ci 67) hS (by unfold FU; omega) hwx hw S S 0 (Nat.le_refl _) (by omega)
  rw [b2 hlk, bs, if_neg (nI_nm1 (by omega)), show fn_X12_tableBits FU (nI S) 96 (ma 16) = some (nI (8 + B)) from g2 8 FU (by unfold FU; omega), bs, show nI (tb len t T) + nI (8 + B) + (10 : Int32) = nI (tb len t T + (8 + B) + 10) by rw [nI_add, show (10 : Int32) = nI 10 from rfl, nI_add]] at gm
  have sS : nI S - (1 : Int32) = nI (S - 1) := pk_sub (b := 1) (by omega)
  have ws0 : WS 6000 0 (fun _ => false) 0 false (ca 96) := ⟨rfl, rfl, fun i hi => absurd hi (Nat.not_lt_zero i)⟩
  obtain ⟨n1, o1, w1, a1, a2⟩ := addNumber_eq FU (N := 6000) (nw := 188) (d := 7) (nI (S - 1)) (by decide) (by decide) (by decide) (by decide) (by decide) ws0
  rw [sS, show (7 : Int32) = nI 7 from rfl, a1, bs] at ge
  have io : ∀ {α : Type} (p : Int32 → α), (if ci 66 = 0 then p 0 else p 1) = p (ci 66) := fun p => by
    rcases h3 with h | h
    · rw [if_pos h, h]
    · rw [if_neg (by rw [h]; decide), h]
  rw [io (fun q => bf_X11_pack_52 FU (nI S) (nI T) 600 (ca 4) S (ca 6) (nI S) (ci 66) 1 S (ca 70) S (ca 72) q (ci 87) (ci 88) (ci 89) (cn 90) (ca 91) (nI 6000) (nI n1, b01 o1, w1).1 (nI n1, b01 o1, w1).2.1 188 (nI n1, b01 o1, w1).2.2)] at ge
  conv at ge => rhs; unfold bf_X11_pack_52
  obtain ⟨n2, o2, w2, a3, a4⟩ := addNumber_eq FU (N := 6000) (nw := 188) (d := 1) (ci 66) (by decide) (by decide) (by decide) (by decide) (by decide) a2
  rw [show (1 : Int32) = nI 1 from rfl, a3, bs] at ge
  obtain ⟨n3, o3, w3, a5, a6⟩ := g1 _ n2 FU _ o2 w2 (by unfold FU; omega) a4
  rw [show fn_X11_writeLengths FU (nI S) (nI S) S (ca 70) (nI 6000) 188 (nI n2) (b01 o2) w2 = some (nI n3, b01 o3, w3) from a5, bs] at ge
  obtain ⟨n4, o4, w4, a7, a8⟩ := addNumber_eq FU (N := 6000) (nw := 188) (d := 10) (nI T) (by decide) (by decide) (by decide) (by decide) (by decide) a6
  rw [show (10 : Int32) = nI 10 from rfl, a7, bs] at ge
  obtain ⟨n', ov', w', p1, p2⟩ := writeText_loop FU (S := S) (T := T) (M := 0 + 7 + 1 + B + 10) (len := len) (t := t) (x := ca 4) (w := ca 70) (cx := ca 72) (f := _) hS t1 (by decide) (fun k hk => ⟨(t4 k hk).1, (t4 k hk).2.1⟩) hwx T 0 FU n4 o4 w4 (by omega) (by unfold FU; omega) a8
  rw [show fn_X11_writeText FU (nI T) 600 (ca 4) S (ca 70) S (ca 72) (nI 6000) 188 (nI n4) (b01 o4) w4 = some (nI n', b01 ov', w') from p1, bs] at ge
  obtain ⟨q1, q2, q3⟩ := p2
  by_cases hov : 6000 < tb len t T + (8 + B) + 10
  · rw [show ov' = true by rw [q2]; simp; omega, keep_over, bs] at ge
    rw [if_neg (show ¬ nI (tb len t T + (8 + B) + 10) ≤ 6000 from nI_ge hov (by omega))] at gm
    conv at gm => rhs; unfold bf_X12_pack_34
    rw [if_neg (nI_nm1 (by omega))] at gm
    rw [← c92, ← c95] at ge
    exact ⟨_, _, ge, gm, rfl, S, K, T, t, len, nb, no, nk, hC, hM, hT, hLn, hB, hO, hKy, hP⟩
  · rw [show ov' = false by rw [q2]; simp; omega, keep_ok, bs] at ge
    rw [if_pos (show nI (tb len t T + (8 + B) + 10) ≤ 6000 from nI_le (Nat.not_lt.mp hov) (by decide))] at gm
    obtain ⟨io1, l1, l2, l3, l4, l5, l6⟩ := h7 hl
    have hcm : ∀ k, k < T → t k < S ∧ ma 14 k = nI (t k) ∧ ma 18 (t k) = ca 72 (t k) := fun k hk => by
      have hp : 0 < len (t k) := Nat.pos_of_ne_zero (fun z => hlk ⟨k, Nat.zero_le _, hk, z⟩)
      obtain ⟨_, e1, e2⟩ := l5 (t k) (t4 k hk).1 hp
      exact ⟨(t4 k hk).1, (t4 k hk).2.2, by rw [e1, e2]⟩
    obtain ⟨y1, z1, z2⟩ := lay_ws FU (N := 6000) (M := 0) (d := 7) (f := fun _ => false) (b := ma 20) (nI (S - 1)) (by decide) (by decide) (by decide) (by omega) (fun i hi => absurd hi (Nat.not_lt_zero i))
    rw [sS, show (7 : Int32) = nI 7 from rfl, show fn_X12_lay FU 6000 0 (ma 20) (nI (S - 1)) (nI 7) = _ from z1, bs, io (fun q => bf_X12_pack_77 FU (nI S) (nI T) (ci 66) (ci 67) 600 (ma 14) 96 (ma 16) 96 (ma 18) 6000 q (nI (0 + 7), y1).1 (nI (0 + 7), y1).2)] at gm
    conv at gm => rhs; unfold bf_X12_pack_77
    obtain ⟨y2, z3, z4⟩ := lay_ws FU (N := 6000) (d := 1) (ci 66) (by decide) (by decide) (by decide) (by omega) z2
    rw [show (1 : Int32) = nI 1 from rfl, z3, bs] at gm
    obtain ⟨y3, z5, z6⟩ := g3 _ FU _ y2 (by unfold FU; omega) (by omega) z4
    rw [show lf_X12_pack_83 FU (nI S) (nI T) (ci 66) (ci 67) 600 (ma 14) 96 (ma 16) 96 (ma 18) 6000 FU 0 (nI (0 + 7 + 1)) y2 = _ from z5] at gm
    conv at gm => rhs; unfold packEnd
    obtain ⟨y4, z7, z8⟩ := lay_ws FU (N := 6000) (d := 10) (nI T) (by decide) (by decide) (by decide) (by omega) z6
    rw [show (10 : Int32) = nI 10 from rfl, z7, bs] at gm
    obtain ⟨b', u1, u2⟩ := layText_loop FU (S := S) (T := T) (M := 0 + 7 + 1 + B + 10) (len := len) (t := t) (x := ma 14) (w := ma 16) (cx := ca 72) (cm := ma 18) (f := _) hS t1 (by decide) (by omega) hcm hw T 0 FU y4 (by omega) (by unfold FU; omega) (by show 0 + 7 + 1 + B + 10 + 0 ≤ 6000; omega) z8
    rw [show fn_X12_layText FU (nI T) 600 (ma 14) 96 (ma 16) 96 (ma 18) 6000 (nI (0 + 7 + 1 + B + 10)) y4 = _ from u1, bs] at gm
    rw [← c92, ← c95] at ge
    have hn : n' = 0 + 7 + 1 + B + 10 + tb len t T := by omega
    refine ⟨_, _, ge, gm, by show nI n' = nI _; rw [hn], S, K, T, t, len, n', no, nk, ?_, hM, hT, hLn, ?_, hO, hKy, hP⟩
    · obtain ⟨d1, d2, d3, d4, d5, d6, d7, d8, d9, d10, d11, d12⟩ := hC
      exact ⟨d1, d2, d3, d4, d5, d6, d7, d8, d9, d10, ⟨d11.2.2.1, d11.2.2.2, d11.1, d11.2.1⟩, d12⟩
    · refine ⟨⟨by omega, rfl, by show nI _ = nI n'; rw [hn]⟩, fun i hi => ?_⟩
      show b' i = b01 (wbit w' i)
      rw [u2 i (by omega), q3 i (by omega)]
