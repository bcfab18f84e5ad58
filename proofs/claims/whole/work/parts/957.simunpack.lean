/-! unpack: what the reference keeps and gives back. -/
section
variable {S no : Nat} {mo ma x1 x2 x3 io ld pl at0 sy : Int32} {bits lengths codes out : Nat → Int32}
theorem keepL_loop (F : Nat) {ko : Nat → Int32} {outs : Int32} (hS : S ≤ 96) : ∀ (d i k : Nat) (kl : Nat → Int32), i + d = S → d < k → (∀ x, x < i → kl x = lengths x) →
    ∃ kl', lf_X12_unpack_12 F (nI S) mo ma 96 96 6000 bits 600 96 600 k x1 x2 (nI i) io ld outs pl at0 sy lengths codes out kl ko = lf_X12_unpack_40 F (nI S) mo ma 96 96 6000 bits 600 96 600 F x1 x2 0 io ld outs pl at0 sy lengths codes out kl' ko ∧ ∀ x, x < S → kl' x = lengths x := by
  intro d
  induction d with
  | zero =>
    intro i k kl hi hk h
    obtain ⟨k, rfl⟩ : ∃ q, k = q + 1 := ⟨k - 1, by omega⟩
    refine ⟨kl, ?_, fun x hx => h x (by omega)⟩
    show bf_X12_unpack_12 F (nI S) mo ma 96 96 6000 bits 600 96 600 (fun a b c d e f g h i j l m n o => lf_X12_unpack_12 F (nI S) mo ma 96 96 6000 bits 600 96 600 k a b c d e f g h i j l m n o) x1 x2 (nI i) io ld outs pl at0 sy lengths codes out kl ko = _
    unfold bf_X12_unpack_12
    rw [if_pos (nI_le (by omega) (by omega))]
  | succ d ih =>
    intro i k kl hi hk h
    obtain ⟨k, rfl⟩ : ∃ q, k = q + 1 := ⟨k - 1, by omega⟩
    obtain ⟨kl', a1, a2⟩ := ih (i + 1) k (upd kl i (lengths i)) (by omega) (by omega) (fun x hx => by
      by_cases q : x = i
      · subst q; rw [pk_us]
      · rw [pk_un q]; exact h x (by omega))
    refine ⟨kl', ?_, a2⟩
    show bf_X12_unpack_12 F (nI S) mo ma 96 96 6000 bits 600 96 600 (fun a b c d e f g h i j l m n o => lf_X12_unpack_12 F (nI S) mo ma 96 96 6000 bits 600 96 600 k a b c d e f g h i j l m n o) x1 x2 (nI i) io ld outs pl at0 sy lengths codes out kl ko = _
    unfold bf_X12_unpack_12
    rw [if_neg (nI_ge (by omega) (by omega)), if_neg (nI_in (by omega) (by decide)), if_neg (nI_in (by omega) (by decide)), nI_clamp (by omega), show nI i + (1 : Int32) = nI (i + 1) from nI_add i 1]
    exact a1
theorem keepO_loop (F : Nat) {kl : Nat → Int32} (hno : no ≤ 600) : ∀ (d i k : Nat) (ko : Nat → Int32), i + d = no → d < k → (∀ x, x < i → ko x = out x) →
    ∃ ko', lf_X12_unpack_40 F (nI S) mo ma 96 96 6000 bits 600 96 600 k x1 x2 (nI i) io ld (nI no) pl at0 sy lengths codes out kl ko = ((fn_X12_readPacked F (nI S) mo ma 96 96 6000 bits 600 io pl at0 sy lengths codes out).bind fun v67 => (if v67.1 < 0 then (if ¬ (x1 = 0 ∨ x1 = 1) then none else (if ¬ (x2 = 0 ∨ x2 = 1) then none else lf_X12_unpack_100 F (nI S) mo ma 96 96 6000 bits 600 96 600 F v67.1 (0 : Int32) x1 x2 (nI no) v67.2.2.1 v67.2.2.2.1 v67.2.2.2.2.1 v67.2.2.2.2.2.1 v67.2.2.2.2.2.2.1 v67.2.2.2.2.2.2.2 kl ko')) else some (v67.1, v67.2.1, (1 : Int32), v67.1, v67.2.2.1, v67.2.2.2.1, v67.2.2.2.2.1, v67.2.2.2.2.2.1, v67.2.2.2.2.2.2.1, v67.2.2.2.2.2.2.2, kl, ko'))) ∧ ∀ x, x < no → ko' x = out x := by
  intro d
  induction d with
  | zero =>
    intro i k ko hi hk h
    obtain ⟨k, rfl⟩ : ∃ q, k = q + 1 := ⟨k - 1, by omega⟩
    refine ⟨ko, ?_, fun x hx => h x (by omega)⟩
    show bf_X12_unpack_40 F (nI S) mo ma 96 96 6000 bits 600 96 600 (fun a b c d e f g h i j l m n o => lf_X12_unpack_40 F (nI S) mo ma 96 96 6000 bits 600 96 600 k a b c d e f g h i j l m n o) x1 x2 (nI i) io ld (nI no) pl at0 sy lengths codes out kl ko = _
    unfold bf_X12_unpack_40
    rw [if_pos (nI_le (by omega) (by omega))]
  | succ d ih =>
    intro i k ko hi hk h
    obtain ⟨k, rfl⟩ : ∃ q, k = q + 1 := ⟨k - 1, by omega⟩
    obtain ⟨ko', a1, a2⟩ := ih (i + 1) k (upd ko i (out i)) (by omega) (by omega) (fun x hx => by
      by_cases q : x = i
      · subst q; rw [pk_us]
      · rw [pk_un q]; exact h x (by omega))
    refine ⟨ko', ?_, a2⟩
    show bf_X12_unpack_40 F (nI S) mo ma 96 96 6000 bits 600 96 600 (fun a b c d e f g h i j l m n o => lf_X12_unpack_40 F (nI S) mo ma 96 96 6000 bits 600 96 600 k a b c d e f g h i j l m n o) x1 x2 (nI i) io ld (nI no) pl at0 sy lengths codes out kl ko = _
    unfold bf_X12_unpack_40
    rw [if_neg (nI_ge (by omega) (by omega)), if_neg (nI_in (by omega) (by decide)), if_neg (nI_in (by omega) (by decide)), nI_clamp (by omega), show nI i + (1 : Int32) = nI (i + 1) from nI_add i 1]
    exact a1
theorem backL_loop (F : Nat) {kl ko : Nat → Int32} {outs : Int32} (hS : S ≤ 96) : ∀ (d i k : Nat) (lengths : Nat → Int32), i + d = S → d < k → (∀ x, x < i → lengths x = kl x) →
    ∃ lengths', lf_X12_unpack_100 F (nI S) mo ma 96 96 6000 bits 600 96 600 k x3 (nI i) io ld outs pl at0 sy lengths codes out kl ko = lf_X12_unpack_132 F (nI S) mo ma 96 96 6000 bits 600 96 600 F x3 0 io ld outs pl at0 sy lengths' codes out kl ko ∧ ∀ x, x < S → lengths' x = kl x := by
  intro d
  induction d with
  | zero =>
    intro i k lengths hi hk h
    obtain ⟨k, rfl⟩ : ∃ q, k = q + 1 := ⟨k - 1, by omega⟩
    refine ⟨lengths, ?_, fun x hx => h x (by omega)⟩
    show bf_X12_unpack_100 F (nI S) mo ma 96 96 6000 bits 600 96 600 (fun a b c d e f g h i j l m n => lf_X12_unpack_100 F (nI S) mo ma 96 96 6000 bits 600 96 600 k a b c d e f g h i j l m n) x3 (nI i) io ld outs pl at0 sy lengths codes out kl ko = _
    unfold bf_X12_unpack_100
    rw [if_pos (nI_le (by omega) (by omega))]
  | succ d ih =>
    intro i k lengths hi hk h
    obtain ⟨k, rfl⟩ : ∃ q, k = q + 1 := ⟨k - 1, by omega⟩
    obtain ⟨l', a1, a2⟩ := ih (i + 1) k (upd lengths i (kl i)) (by omega) (by omega) (fun x hx => by
      by_cases q : x = i
      · subst q; rw [pk_us]
      · rw [pk_un q]; exact h x (by omega))
    refine ⟨l', ?_, a2⟩
    show bf_X12_unpack_100 F (nI S) mo ma 96 96 6000 bits 600 96 600 (fun a b c d e f g h i j l m n => lf_X12_unpack_100 F (nI S) mo ma 96 96 6000 bits 600 96 600 k a b c d e f g h i j l m n) x3 (nI i) io ld outs pl at0 sy lengths codes out kl ko = _
    unfold bf_X12_unpack_100
    rw [if_neg (nI_ge (by omega) (by omega)), if_neg (nI_in (by omega) (by decide)), if_neg (nI_in (by omega) (by decide)), nI_clamp (by omega), show nI i + (1 : Int32) = nI (i + 1) from nI_add i 1]
    exact a1
theorem backO_loop (F : Nat) {kl ko : Nat → Int32} (hno : no ≤ 600) : ∀ (d i k : Nat) (out : Nat → Int32), i + d = no → d < k → (∀ x, x < i → out x = ko x) →
    ∃ out', lf_X12_unpack_132 F (nI S) mo ma 96 96 6000 bits 600 96 600 k x3 (nI i) io ld (nI no) pl at0 sy lengths codes out kl ko = ((fn_X12_makeCodes F (nI S) io 96 lengths 96 codes).bind fun v162 => some (x3, io, ld, nI no, pl, at0, sy, lengths, v162.2, out', kl, ko)) ∧ ∀ x, x < no → out' x = ko x := by
  intro d
  induction d with
  | zero =>
    intro i k out hi hk h
    obtain ⟨k, rfl⟩ : ∃ q, k = q + 1 := ⟨k - 1, by omega⟩
    refine ⟨out, ?_, fun x hx => h x (by omega)⟩
    show bf_X12_unpack_132 F (nI S) mo ma 96 96 6000 bits 600 96 600 (fun a b c d e f g h i j l m n => lf_X12_unpack_132 F (nI S) mo ma 96 96 6000 bits 600 96 600 k a b c d e f g h i j l m n) x3 (nI i) io ld (nI no) pl at0 sy lengths codes out kl ko = _
    unfold bf_X12_unpack_132
    rw [if_pos (nI_le (by omega) (by omega))]
  | succ d ih =>
    intro i k out hi hk h
    obtain ⟨k, rfl⟩ : ∃ q, k = q + 1 := ⟨k - 1, by omega⟩
    obtain ⟨o', a1, a2⟩ := ih (i + 1) k (upd out i (ko i)) (by omega) (by omega) (fun x hx => by
      by_cases q : x = i
      · subst q; rw [pk_us]
      · rw [pk_un q]; exact h x (by omega))
    refine ⟨o', ?_, a2⟩
    show bf_X12_unpack_132 F (nI S) mo ma 96 96 6000 bits 600 96 600 (fun a b c d e f g h i j l m n => lf_X12_unpack_132 F (nI S) mo ma 96 96 6000 bits 600 96 600 k a b c d e f g h i j l m n) x3 (nI i) io ld (nI no) pl at0 sy lengths codes out kl ko = _
    unfold bf_X12_unpack_132
    rw [if_neg (nI_ge (by omega) (by omega)), if_neg (nI_in (by omega) (by decide)), if_neg (nI_in (by omega) (by decide)), nI_clamp (by omega), show nI i + (1 : Int32) = nI (i + 1) from nI_add i 1]
    exact a1
end
theorem sim_unpack : Sim_unpack FU Inv := by
  intro ci cn ca mi mn ma hI
  obtain ⟨S, K, T, t, len, nb, no, nk, hC, hM, hT, hLn, hB, hO, hKy, hP⟩ := id hI
  obtain ⟨h1, ⟨h2, h3, h4, h5, h6⟩, h7⟩ := id hLn
  obtain ⟨⟨b1, b2, b3⟩, b4⟩ := id hB
  obtain ⟨⟨o1, o2, o3⟩, o4⟩ := id hO
  have c90 : cn 90 = 188 := hC.2.2.2.2.2.2.2.2.2.2.1.2.1
  have c75 : ci 75 = nI S := hC.2.2.2.2.2.2.2.2.2.1.1
  have c76 : ci 76 = nI K := hC.2.2.2.2.2.2.2.2.2.1.2.1
  have c81 : cn 81 = S := hC.2.2.2.2.2.2.2.2.2.1.2.2.1
  have c83 : cn 83 = S := hC.2.2.2.2.2.2.2.2.2.1.2.2.2.1
  have c85 : cn 85 = 2 * (S + K) := hC.2.2.2.2.2.2.2.2.2.1.2.2.2.2
  have c101 : cn 101 = 600 := hC.2.2.2.2.2.2.2.2.2.2.2.2
  have hS2 : 2 ≤ S := hC.1.1
  have hS : S ≤ 96 := hC.1.2.1
  have hK : K ≤ 24 := hC.1.2.2.2
  have m0 : mi 0 = nI S := hM.1.1
  have m1 : mi 1 = nI K := hM.1.2
  have m15 : mn 15 = 96 := hM.2.1.2.1
  have m17 : mn 17 = 96 := hM.2.1.2.2.1
  have m19 : mn 19 = 6000 := hM.2.1.2.2.2.1
  have m21 : mn 21 = 600 := hM.2.1.2.2.2.2
  have m47 : mn 47 = 96 := hM.2.2.2.2.2.1.1
  have m49 : mn 49 = 600 := hM.2.2.2.2.2.1.2
  have ge := @rfl _ (gX_unpack FU ci cn ca)
  have gm := @rfl _ (gM_unpack FU mi mn ma)
  conv at ge => rhs; unfold gX_unpack fn_X11_unpack bf_X11_unpack_0
  conv at gm => rhs; unfold gM_unpack fn_X12_unpack bf_X12_unpack_0
  rw [m0, m1, b3, o3, m15, m17, m19, m21, m47, m49] at gm
  obtain ⟨kl, k1, k2⟩ := keepL_loop FU (S := S) (mo := nI K) (ma := nI nb) (x1 := mi 3) (x2 := mi 4) (io := mi 3) (ld := mi 4) (pl := mi 7) (at0 := mi 9) (sy := mi 10) (bits := ma 20) (lengths := ma 16) (codes := ma 18) (out := ma 22) (ko := ma 50) (outs := nI no) hS S 0 FU (ma 48) (by omega) (by unfold FU; omega) (fun x hx => by omega)
  obtain ⟨ko, k3, k4⟩ := keepO_loop FU (S := S) (no := no) (mo := nI K) (ma := nI nb) (x1 := mi 3) (x2 := mi 4) (io := mi 3) (ld := mi 4) (pl := mi 7) (at0 := mi 9) (sy := mi 10) (bits := ma 20) (lengths := ma 16) (codes := ma 18) (out := ma 22) (kl := kl) o1 no 0 FU (ma 50) (by omega) (by unfold FU; omega) (fun x hx => by omega)
  rw [show lf_X12_unpack_12 FU (nI S) (nI K) (nI nb) 96 96 6000 (ma 20) 600 96 600 FU (mi 3) (mi 4) 0 (mi 3) (mi 4) (nI no) (mi 7) (mi 9) (mi 10) (ma 16) (ma 18) (ma 22) (ma 48) (ma 50) = _ from k1, show lf_X12_unpack_40 FU (nI S) (nI K) (nI nb) 96 96 6000 (ma 20) 600 96 600 FU (mi 3) (mi 4) 0 (mi 3) (mi 4) (nI no) (mi 7) (mi 9) (mi 10) (ma 16) (ma 18) (ma 22) kl (ma 50) = _ from k3] at gm
  rw [b2, c90, hP, c75, c76, c81, c83, c85, c101] at ge
  have rp := packed_eq FU (S := S) (K := K) (nb := nb) (bits := ma 20) (words := ca 91) (ci 52) (mi 7) (ci 77) (ci 78) (ci 79) (ci 80) (ci 100) (mi 3) (mi 9) (mi 10) (ca 82) (ca 84) (ca 86) (ca 102) (ma 16) (ma 18) (ma 22) (by unfold FU; omega) hS2 hS hK b1 b4
  rcases rp with ⟨n, io, len', z1, p, nodes, full, y1, y2, lx, cx, bx, oX, lm, cm, oM, q1, q2, q3, q4, q5, q6⟩ | ⟨a, p, q1, ⟨z1, z2, q2⟩, ⟨y1, y2, q3⟩⟩
  · rw [q2, bs, if_pos (nI_pos' (by omega))] at ge
    rw [q3, bs, if_neg (nI_pos (by omega))] at gm
    obtain ⟨d1, d2, d3, d4, d5, d6, d7, d8, d9, d10, d11, d12⟩ := id hC
    refine ⟨_, _, ge, gm, rfl, S, K, T, t, len', nb, n, nk, ⟨d1, d2, d3, d4, d5, d6, d7, d8, ⟨rfl, rfl, rfl, rfl, rfl⟩, d9, d11, ⟨rfl, d12.1⟩⟩, hM, hT, ⟨q5, ⟨rfl, b01_cases io, rfl, Or.inr rfl, fun _ => rfl⟩, fun _ => q6⟩, hB, ⟨⟨q1, rfl, rfl⟩, q4⟩, hKy, rfl⟩
  · have a0 : a < 0 := Int32.not_le.mp q1
    rw [q2, bs, if_neg q1] at ge
    rw [q3, bs, if_pos a0, if_neg (fun z => z (by rw [← h2]; exact h3)), if_neg (fun z => z (by rw [← h4]; exact h5))] at gm
    obtain ⟨l', e1, e2⟩ := backL_loop FU (S := S) (mo := nI K) (ma := nI nb) (x3 := a) (io := mi 3) (ld := mi 4) (pl := p) (at0 := y2.1) (sy := y2.2.1) (bits := ma 20) (codes := y2.2.2.2.1) (out := y2.2.2.2.2) (kl := kl) (ko := ko) (outs := nI no) hS S 0 FU y2.2.2.1 (by omega) (by unfold FU; omega) (fun x hx => by omega)
    obtain ⟨o', e3, e4⟩ := backO_loop FU (S := S) (no := no) (mo := nI K) (ma := nI nb) (x3 := a) (io := mi 3) (ld := mi 4) (pl := p) (at0 := y2.1) (sy := y2.2.1) (bits := ma 20) (lengths := l') (codes := y2.2.2.2.1) (kl := kl) (ko := ko) o1 no 0 FU y2.2.2.2.2 (by omega) (by unfold FU; omega) (fun x hx => by omega)
    have hwl : ∀ s, s < S → len s ≤ 24 ∧ l' s = nI (len s) := fun s hs => ⟨by have := (h1 s hs).1; omega, by rw [e2 s hs, k2 s hs]; exact (h1 s hs).2.2⟩
    obtain ⟨io, hio⟩ : ∃ io : Bool, mi 3 = b01 io := by
      rw [← h2]
      rcases h3 with q | q
      · exact ⟨false, q⟩
      · exact ⟨true, q⟩
    obtain ⟨f, cm', g1, g2, g3⟩ := make_any FU (io := io) y2.2.2.2.1 hS (by unfold FU; omega) hwl
    rw [← hio] at g1
    rw [show lf_X12_unpack_100 FU (nI S) (nI K) (nI nb) 96 96 6000 (ma 20) 600 96 600 FU a 0 (mi 3) (mi 4) (nI no) p y2.1 y2.2.1 y2.2.2.1 y2.2.2.2.1 y2.2.2.2.2 kl ko = _ from e1, show lf_X12_unpack_132 FU (nI S) (nI K) (nI nb) 96 96 6000 (ma 20) 600 96 600 FU a 0 (mi 3) (mi 4) (nI no) p y2.1 y2.2.1 l' y2.2.2.2.1 y2.2.2.2.2 kl ko = _ from e3, g1, bs] at gm
    obtain ⟨d1, d2, d3, d4, d5, d6, d7, d8, d9, d10, d11, d12⟩ := id hC
    refine ⟨_, _, ge, gm, rfl, S, K, T, t, len, nb, no, nk, ⟨d1, d2, d3, d4, d5, d6, d7, d8, d9, ⟨rfl, rfl, rfl, rfl, rfl⟩, d11, ⟨d12.1, rfl⟩⟩, hM, hT, ⟨fun s hs => ⟨(h1 s hs).1, (h1 s hs).2.1, (hwl s hs).2⟩, ⟨h2, h3, h4, h5, h6⟩, fun hl => ?_⟩, hB, ⟨⟨o1, o2, rfl⟩, fun i hi => (o4 i hi).trans (show ma 22 i = o' i by rw [e4 i hi, k4 i hi])⟩, hKy, rfl⟩
    obtain ⟨io1, l1, l2, l3, l4, l5, l6⟩ := h7 hl
    have : io1 = io := by
      have e : b01 io1 = b01 io := by rw [← l1, ← hio, h2]
      cases io1 <;> cases io <;> first | rfl | exact absurd e (by decide)
    subst this
    exact ⟨io1, l1, l2, l3, l4, fun s hs hp => ⟨(l5 s hs hp).1, (l5 s hs hp).2.1, g3 ⟨l2, l3⟩ s hs hp⟩, l6⟩
