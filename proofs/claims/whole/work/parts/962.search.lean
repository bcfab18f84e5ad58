/-! key: the search. -/
section
variable {N M e : Nat} {ph q r par bb dp : Nat → Nat} {CX QX CM CB RM : Nat → Int32}
def ext {α : Type} (f : Nat → α) (e : Nat) (v : α) : Nat → α := fun k => if k = e then v else f k
theorem ext_s {α : Type} {f : Nat → α} {e : Nat} {v : α} : ext f e v e = v := if_pos rfl
theorem ext_o {α : Type} {f : Nat → α} {e k : Nat} {v : α} (h : k ≠ e) : ext f e v k = f k := if_neg h
theorem Sr.new {A B i b : Nat} (hp : Bij M N ph) (hN : N ≤ 10) (hM : M ≤ 10) (h : Sr N M e ph q r par bb dp CX QX CM CB RM) (hi : i < e) (hb : b < 2) (hA : A < 2 ^ N) (hB : B < 2 ^ M) (hR : Rl M ph A B) (hnew : ∀ j, j < e → q j ≠ A) :
    e < 1024 ∧ Sr N M (e + 1) ph (ext q e A) (ext r e B) (ext par e i) (ext bb e b) (ext dp e (dp i + 1)) (upd CX A (nI (2 * q i + b))) (upd QX e (nI A)) (upd CM B (nI (r i))) (upd CB B (nI b)) (upd RM e (nI B)) := by
  have hA2 := p1024 hN hA
  have hnewr : ∀ j, j < e → r j ≠ B := fun j hj z => by
    obtain ⟨a1, a2, a3, _⟩ := h.2.1 j hj
    exact hnew j hj ((Rl.uniq hp a1 hA a2 hB a3 hR).mpr z)
  obtain ⟨⟨g1, g2, g3, g4, g5⟩, g6, g7, g8, g9, g10, g11⟩ := id h
  have inj : ∀ j l, j < e + 1 → l < e + 1 → ext q e A j = ext q e A l → j = l := fun j l hj hl z => by
    by_cases ej : j = e
    · by_cases el : l = e
      · omega
      · subst ej; rw [ext_s, ext_o el] at z; exact absurd z.symm (hnew l (by omega))
    · by_cases el : l = e
      · subst el; rw [ext_s, ext_o ej] at z; exact absurd z (hnew j (by omega))
      · rw [ext_o ej, ext_o el] at z; exact g7 j l (by omega) (by omega) z
  have hle : e + 1 ≤ 1024 := pigeon 1024 (e + 1) (ext q e A) (fun j hj => by
    by_cases ej : j = e
    · subst ej; rw [ext_s]; exact hA2
    · rw [ext_o ej]; exact p1024 hN (g6 j (by omega)).1) inj
  refine ⟨by omega, ⟨by omega, hle, by rw [ext_o (by omega)]; exact g3, by rw [ext_o (by omega)]; exact g4, by rw [ext_o (by omega)]; exact g5⟩, fun j hj => ?_, inj, fun j h0 hj => ?_, ⟨?_, ?_⟩, fun A' hA' hn => ?_, fun B' hB' hn => ?_⟩
  · by_cases ej : j = e
    · subst ej
      rw [ext_s, ext_s, ext_s, pk_us, pk_us]
      exact ⟨hA, hB, hR, rfl, rfl, by have := (g6 i hi).2.2.2.2.2; omega⟩
    · rw [ext_o ej, ext_o ej, ext_o ej, pk_un ej, pk_un ej]
      exact g6 j (by omega)
  · by_cases ej : j = e
    · subst ej
      rw [ext_s, ext_s, ext_s, ext_s, ext_s, ext_o (by omega), ext_o (by omega), ext_o (by omega), pk_us, pk_us, pk_us]
      exact ⟨hi, hb, rfl, rfl, rfl, rfl⟩
    · obtain ⟨k1, k2, k3, k4, k5, k6⟩ := g8 j h0 (by omega)
      rw [ext_o ej, ext_o ej, ext_o ej, ext_o ej, ext_o ej, ext_o (by omega), ext_o (by omega), ext_o (by omega), pk_un (hnew j (by omega)), pk_un (hnewr j (by omega)), pk_un (hnewr j (by omega))]
      exact ⟨k1, k2, k3, k4, k5, k6⟩
  · rw [ext_o (by omega), pk_un (hnew 0 (by omega))]; exact g9.1
  · rw [ext_o (by omega), pk_un (hnewr 0 (by omega))]; exact g9.2
  · have : A' ≠ A := fun z => hn e (by omega) (by rw [ext_s, z])
    rw [pk_un this]
    exact g10 A' hA' (fun j hj => by have := hn j (by omega); rw [ext_o (by omega)] at this; exact this)
  · have : B' ≠ B := fun z => hn e (by omega) (by rw [ext_s, z])
    rw [pk_un this]
    exact g11 B' hB' (fun j hj => by have := hn j (by omega); rw [ext_o (by omega)] at this; exact this)
end
/-- the trees' steps, by both numberings -/
def KStp (R N M : Nat) (ph : Nat → Nat) (T T' : Nat → Nat → Nat) (below leads : Nat → Int32) : Prop :=
  N ≤ 10 ∧ M ≤ 10 ∧ 0 < M ∧ 2 * N ≤ R ∧ R < 2 ^ 31 ∧ Bij M N ph ∧ ph 0 = 0 ∧
  (∀ b, b < 2 → ∀ v, v < N → T b v < N ∧ (if below (2 * v + b) < (0 : Int32) then (0 : Int32) else below (2 * v + b)) = nI (T b v)) ∧
  (∀ b, b < 2 → ∀ v, v < M → T' b v < M ∧ leads (2 * v + b) = nI (T' b v)) ∧ ∀ b, b < 2 → ∀ k, k < M → ph (T' b k) = T b (ph k)
/-- the search finds nothing, or both the same key -/
def KOut (x : Option (Int32 × (Nat → Int32) × (Nat → Int32) × Int32 × Int32 × (Nat → Int32))) (y : Option (Int32 × Int32 × Int32 × (Nat → Int32) × (Nat → Int32) × (Nat → Int32) × (Nat → Int32) × (Nat → Int32) × (Nat → Int32) × (Nat → Int32))) : Prop :=
  ∃ (a : Int32) (n : Nat) (z1 z2 : Nat → Int32) (ov : Int32) (w : Nat → Int32) (y1 : Int32) (y2 y3 y4 y5 y6 y7 key : Nat → Int32), n ≤ 1024 ∧ x = some (a, z1, z2, nI n, ov, w) ∧ y = some (a, y1, nI n, y2, y3, y4, y5, y6, y7, key) ∧ ∀ m, m < n → key m = b01 (wbit w m)
theorem search_step (F : Nat) {R N M e i b : Nat} {ph q r par bb dp : Nat → Nat} {T T' : Nat → Nat → Nat} {CX QX CM CB RM below leads w key bg bl lenM codesM : Nat → Int32} {ov sy ld : Int32} {k k' : Nat}
    {rec40 : Int32 → Int32 → Int32 → (Nat → Int32) → (Nat → Int32) → Int32 → Int32 → (Nat → Int32) → Option (Int32 × (Nat → Int32) × (Nat → Int32) × Int32 × Int32 × (Nat → Int32))}
    {rec93 : Int32 → Int32 → Int32 → Int32 → Int32 → (Nat → Int32) → (Nat → Int32) → (Nat → Int32) → (Nat → Int32) → (Nat → Int32) → (Nat → Int32) → (Nat → Int32) → Option (Int32 × Int32 × Int32 × (Nat → Int32) × (Nat → Int32) × (Nat → Int32) × (Nat → Int32) × (Nat → Int32) × (Nat → Int32) × (Nat → Int32))}
    (hF : 5000 < F) (hS : KStp R N M ph T T' below leads) (h : Sr N M e ph q r par bb dp CX QX CM CB RM) (hi : i < e) (hb : b < 2) :
    KOut (lf_X2_search_49 F 1024 1024 (nI 1024) 32 (nI N) R below rec40 (k + 1) (nI (2 ^ N - 1)) (nI e) (nI i) (nI b) CX QX (nI 0) ov w) (lf_X12_key_102 F sy ld 96 lenM 96 codesM 16 16 32 1024 1024 1024 1024 rec93 (k' + 1) (nI (2 ^ M - 1)) (nI e) (nI i) (nI b) (nI M) (nI 0) bg bl leads CM CB RM key) ∨
    ∃ (e' : Nat) (q' r' par' bb' dp' : Nat → Nat) (CX' QX' CM' CB' RM' : Nat → Int32), e ≤ e' ∧ Sr N M e' ph q' r' par' bb' dp' CX' QX' CM' CB' RM' ∧
      lf_X2_search_49 F 1024 1024 (nI 1024) 32 (nI N) R below rec40 (k + 1) (nI (2 ^ N - 1)) (nI e) (nI i) (nI b) CX QX (nI 0) ov w = lf_X2_search_49 F 1024 1024 (nI 1024) 32 (nI N) R below rec40 k (nI (2 ^ N - 1)) (nI e') (nI i) (nI (b + 1)) CX' QX' (nI 0) ov w ∧
      lf_X12_key_102 F sy ld 96 lenM 96 codesM 16 16 32 1024 1024 1024 1024 rec93 (k' + 1) (nI (2 ^ M - 1)) (nI e) (nI i) (nI b) (nI M) (nI 0) bg bl leads CM CB RM key = lf_X12_key_102 F sy ld 96 lenM 96 codesM 16 16 32 1024 1024 1024 1024 rec93 k' (nI (2 ^ M - 1)) (nI e') (nI i) (nI (b + 1)) (nI M) (nI 0) bg bl leads CM' CB' RM' key := by
  obtain ⟨hN, hM, hM0, hR, hR2, hp, h0, hT, hT', hc⟩ := hS
  obtain ⟨⟨g1, g2, g3, g4, g5⟩, g6, g7, g8, g9, g10, g11⟩ := id h
  obtain ⟨i1, i2, i3, i4, i5, i6⟩ := g6 i hi
  have j1 := p1024 hN i1
  have j2 := p1024 hM i2
  have mv : fn_X2_move F (nI N) R below (nI (q i)) (nI b) = some (nI (om (T b) (q i) N)) := move_loop F hN (by omega) hb hR hR2 (hT b hb) N 0 F (by omega) (by omega)
  have ms : fn_X12_step F (nI M) 32 leads (nI (r i)) (nI b) = some (nI (om (T' b) (r i) M)) := stepM_loop F hM (by omega) hb (hT' b hb) M 0 F (by omega) (by omega)
  have hA : om (T b) (q i) N < 2 ^ N := om_lt N (fun v hv => (hT b hb v hv).1)
  have hB : om (T' b) (r i) M < 2 ^ M := om_lt M (fun v hv => (hT' b hb v hv).1)
  have hR' : Rl M ph (om (T b) (q i) N) (om (T' b) (r i) M) := Rl.om hp (fun k hk => ⟨(hT' b hb k hk).1, hc b hb k hk⟩) i3
  generalize om (T b) (q i) N = A at mv hA hR'
  generalize om (T' b) (r i) M = B at ms hB hR'
  have a1 := p1024 hN hA
  have b1 := p1024 hM hB
  have hN1 : 1 ≤ N := by have := hp.1 0 hM0; omega
  have c1 : A = 1 ↔ B = 1 := Rl.uniq hp hA (Nat.one_lt_pow (by omega) (by decide)) hB (Nat.one_lt_pow (by omega) (by decide)) hR' (Rl.one hp hM0 h0)
  have pN : 0 < 2 ^ N := Nat.pow_pos (by decide)
  have pM : 0 < 2 ^ M := Nat.pow_pos (by decide)
  have lN : 2 ^ N ≤ 2 ^ 10 := Nat.pow_le_pow_right (by decide) hN
  have lM : 2 ^ M ≤ 2 ^ 10 := Nat.pow_le_pow_right (by decide) hM
  have ux : lf_X2_search_49 F 1024 1024 (nI 1024) 32 (nI N) R below rec40 (k + 1) (nI (2 ^ N - 1)) (nI e) (nI i) (nI b) CX QX (nI 0) ov w = bf_X2_search_49 F 1024 1024 (nI 1024) 32 (nI N) R below rec40 (fun a b c d e f g h i => lf_X2_search_49 F 1024 1024 (nI 1024) 32 (nI N) R below rec40 k a b c d e f g h i) (nI (2 ^ N - 1)) (nI e) (nI i) (nI b) CX QX (nI 0) ov w := rfl
  have um : lf_X12_key_102 F sy ld 96 lenM 96 codesM 16 16 32 1024 1024 1024 1024 rec93 (k' + 1) (nI (2 ^ M - 1)) (nI e) (nI i) (nI b) (nI M) (nI 0) bg bl leads CM CB RM key = bf_X12_key_102 F sy ld 96 lenM 96 codesM 16 16 32 1024 1024 1024 1024 rec93 (fun a b c d e f g h i j l m n => lf_X12_key_102 F sy ld 96 lenM 96 codesM 16 16 32 1024 1024 1024 1024 rec93 k' a b c d e f g h i j l m n) (nI (2 ^ M - 1)) (nI e) (nI i) (nI b) (nI M) (nI 0) bg bl leads CM CB RM key := rfl
  have e1 : nI b + (1 : Int32) = nI (b + 1) := nI_add b 1
  rw [ux, um]
  unfold bf_X2_search_49 bf_X12_key_102
  rw [if_neg (show ¬ (1 : Int32) < nI b from nI_nlt (a := 1) (by omega) (by decide)), if_neg (show ¬ (2 : Int32) ≤ nI b from nI_ge (b := 2) (by omega) (by decide)), nI_clamp (n := i) (by omega), if_neg (show ¬ (nI i < 0 ∨ 1024 ≤ i) from gin (by omega) (by omega)), i4, mv, bs, if_neg (show ¬ (nI i < 0 ∨ 1024 ≤ i) from gin (by omega) (by omega)), i5, ms, bs, show (2 : Int32) * nI (q i) + nI b = nI (2 * q i + b) by rw [show (2 : Int32) = nI 2 from rfl, pk_mul, nI_add]]
  by_cases hA1 : A = 1
  · rw [if_pos (show nI A = 1 by rw [hA1]; rfl), if_pos (show nI B = 1 by rw [c1.mp hA1]; rfl)]
    obtain ⟨n, w', key', n1, n2, n3, n4⟩ := keep_eq F (nI 0) ov w key hF hp hN hM h hi hb
    rw [n2, bs, if_neg (show ¬ (nI i < 0 ∨ 1024 ≤ i) from gin (by omega) (by omega)), n3, bs]
    exact Or.inl ⟨nI n, n, CX, QX, ov, w', nI M, bg, bl, leads, CM, CB, RM, key', n1, rfl, rfl, n4⟩
  · rw [if_neg (show ¬ nI A = 1 from fun z => hA1 ((nI_eq (b := 1) (by omega) (by decide)).mp z)), if_neg (show ¬ nI B = 1 from fun z => hA1 (c1.mpr ((nI_eq (b := 1) (by omega) (by decide)).mp z)))]
    refine Or.inr ?_
    by_cases hin : ∃ j, j < e ∧ q j = A
    · obtain ⟨j, jj, rfl⟩ := hin
      obtain ⟨k1, k2, k3, _⟩ := g6 j jj
      have rB : r j = B := (Rl.uniq hp k1 hA k2 hB k3 hR').mp rfl
      subst rB
      refine ⟨e, q, r, par, bb, dp, CX, QX, CM, CB, RM, Nat.le_refl _, h, ?_, ?_⟩
      · by_cases e0 : j = 0
        · subst e0
          rw [if_pos (by rw [g3]), e1]
        · obtain ⟨p1, p2, p3, p4, p5, p6⟩ := g8 j (by omega) jj
          have qj := p1024 hN (g6 (par j) (by omega)).1
          rw [if_neg (fun z => e0 (g7 j 0 jj (by omega) (by rw [g3]; exact (nI_eq (by omega) (by omega)).mp z))), if_neg (nI_in a1 (by decide)), nI_clamp (by omega), p4, if_neg (nI_nm1 (by omega)), e1]
      · have nm2 : ∀ x : Nat, x < 1024 → ¬ nI x = -2 := fun x hx z => by
          have z2 := congrArg Int32.toInt z
          rw [nI_toInt (by omega)] at z2
          have : (-2 : Int32).toInt = -2 := by decide
          omega
        by_cases e0 : j = 0
        · subst e0
          rw [if_neg (nI_in b1 (by decide)), nI_clamp (by omega), g9.2, if_neg (by decide), e1]
        · obtain ⟨p1, p2, p3, p4, p5, p6⟩ := g8 j (by omega) jj
          have rj := p1024 hM (g6 (par j) (by omega)).2.1
          rw [if_neg (nI_in b1 (by decide)), nI_clamp (by omega), p5, if_neg (nm2 _ rj), e1]
    · have hnew : ∀ j, j < e → q j ≠ A := fun j hj z => hin ⟨j, hj, z⟩
      have hnewr : ∀ j, j < e → r j ≠ B := fun j hj z => by
        obtain ⟨a1, a2, a3, _⟩ := h.2.1 j hj
        exact hnew j hj ((Rl.uniq hp a1 hA a2 hB a3 hR').mpr z)
      obtain ⟨n1, n2⟩ := h.new hp hN hM hi hb hA hB hR' hnew
      refine ⟨e + 1, _, _, _, _, _, _, _, _, _, _, by omega, n2, ?_, ?_⟩
      · rw [if_neg (fun z => hnew 0 (by omega) (by rw [g3]; exact ((nI_eq (by omega) (by omega)).mp z).symm)), if_neg (nI_in a1 (by decide)), nI_clamp (by omega), g10 A a1 hnew, if_pos rfl, if_neg (nI_ge n1 (by decide)), if_neg (gin a1 (by omega)), if_neg (nI_in n1 (by decide)), nI_clamp (by omega), e1, show nI e + (1 : Int32) = nI (e + 1) from nI_add e 1]
      · rw [if_neg (nI_in b1 (by decide)), nI_clamp (n := B) (by omega), g11 B b1 hnewr, if_pos rfl, if_neg (gin (by omega) (by omega)), if_neg (gin b1 (by omega)), if_neg (gin b1 (by omega)), if_neg (nI_in n1 (by decide)), nI_clamp (by omega), e1, show nI e + (1 : Int32) = nI (e + 1) from nI_add e 1]
theorem search_loop (F : Nat) {R N M : Nat} {ph : Nat → Nat} {T T' : Nat → Nat → Nat} {below leads w key bg bl lenM codesM : Nat → Int32} {ov sy ld : Int32} (hF : 5000 < F) (hS : KStp R N M ph T T' below leads) : ∀ (d i e k k' : Nat) (q r par bb dp : Nat → Nat) (CX QX CM CB RM : Nat → Int32), i + d = 1024 → i ≤ e → d < k → d < k' → Sr N M e ph q r par bb dp CX QX CM CB RM →
    KOut (lf_X2_search_40 F 1024 1024 (nI 1024) 32 (nI N) R below k (nI (2 ^ N - 1)) (nI e) (nI i) CX QX (nI 0) ov w) (lf_X12_key_93 F sy ld 96 lenM 96 codesM 16 16 32 1024 1024 1024 1024 k' (nI (2 ^ M - 1)) (nI e) (nI i) (nI M) (nI 0) bg bl leads CM CB RM key) := by
  intro d
  induction d with
  | zero =>
    intro i e k k' q r par bb dp CX QX CM CB RM hi hie hk hk' h
    obtain ⟨k, rfl⟩ : ∃ z, k = z + 1 := ⟨k - 1, by omega⟩
    obtain ⟨k', rfl⟩ : ∃ z, k' = z + 1 := ⟨k' - 1, by omega⟩
    have he := h.1.2.1
    refine ⟨0, 0, CX, QX, ov, w, nI M, bg, bl, leads, CM, CB, RM, key, by omega, ?_, ?_, fun m hm => by omega⟩
    · show bf_X2_search_40 F 1024 1024 (nI 1024) 32 (nI N) R below (fun a b c d e f g h => lf_X2_search_40 F 1024 1024 (nI 1024) 32 (nI N) R below k a b c d e f g h) (nI (2 ^ N - 1)) (nI e) (nI i) CX QX (nI 0) ov w = _
      unfold bf_X2_search_40
      rw [if_pos (nI_le (by omega) (by omega))]
    · show bf_X12_key_93 F sy ld 96 lenM 96 codesM 16 16 32 1024 1024 1024 1024 (fun a b c d e f g h i j l m => lf_X12_key_93 F sy ld 96 lenM 96 codesM 16 16 32 1024 1024 1024 1024 k' a b c d e f g h i j l m) (nI (2 ^ M - 1)) (nI e) (nI i) (nI M) (nI 0) bg bl leads CM CB RM key = _
      unfold bf_X12_key_93
      rw [if_pos (nI_le (by omega) (by omega))]
  | succ d ih =>
    intro i e k k' q r par bb dp CX QX CM CB RM hi hie hk hk' h
    obtain ⟨k, rfl⟩ : ∃ z, k = z + 1 := ⟨k - 1, by omega⟩
    obtain ⟨k', rfl⟩ : ∃ z, k' = z + 1 := ⟨k' - 1, by omega⟩
    have he := h.1.2.1
    have ux : lf_X2_search_40 F 1024 1024 (nI 1024) 32 (nI N) R below (k + 1) (nI (2 ^ N - 1)) (nI e) (nI i) CX QX (nI 0) ov w = bf_X2_search_40 F 1024 1024 (nI 1024) 32 (nI N) R below (fun a b c d e f g h => lf_X2_search_40 F 1024 1024 (nI 1024) 32 (nI N) R below k a b c d e f g h) (nI (2 ^ N - 1)) (nI e) (nI i) CX QX (nI 0) ov w := rfl
    have um : lf_X12_key_93 F sy ld 96 lenM 96 codesM 16 16 32 1024 1024 1024 1024 (k' + 1) (nI (2 ^ M - 1)) (nI e) (nI i) (nI M) (nI 0) bg bl leads CM CB RM key = bf_X12_key_93 F sy ld 96 lenM 96 codesM 16 16 32 1024 1024 1024 1024 (fun a b c d e f g h i j l m => lf_X12_key_93 F sy ld 96 lenM 96 codesM 16 16 32 1024 1024 1024 1024 k' a b c d e f g h i j l m) (nI (2 ^ M - 1)) (nI e) (nI i) (nI M) (nI 0) bg bl leads CM CB RM key := rfl
    rw [ux, um]
    unfold bf_X2_search_40 bf_X12_key_93
    by_cases hie2 : e ≤ i
    · rw [if_pos (nI_le hie2 (by omega)), if_pos (nI_le hie2 (by omega))]
      exact ⟨0, 0, CX, QX, ov, w, nI M, bg, bl, leads, CM, CB, RM, key, by omega, rfl, rfl, fun m hm => by omega⟩
    rw [if_neg (nI_ge (by omega) (by omega)), if_neg (nI_ge (by omega) (by omega))]
    obtain ⟨F1, rfl⟩ : ∃ z, F = z + 3 := ⟨F - 3, by omega⟩
    generalize hr40 : (fun a b c d e f g h => lf_X2_search_40 (F1 + 3) 1024 1024 (nI 1024) 32 (nI N) R below k a b c d e f g h) = rec40
    generalize hr93 : (fun a b c d e f g h i j l m => lf_X12_key_93 (F1 + 3) sy ld 96 lenM 96 codesM 16 16 32 1024 1024 1024 1024 k' a b c d e f g h i j l m) = rec93
    rcases search_step (F1 + 3) (k := F1 + 2) (k' := F1 + 2) (b := 0) (rec40 := rec40) (rec93 := rec93) (w := w) (key := key) (bg := bg) (bl := bl) (lenM := lenM) (codesM := codesM) (ov := ov) (sy := sy) (ld := ld) hF hS h (i := i) (by omega) (by decide) with s | ⟨e1, q1, r1, par1, bb1, dp1, CX1, QX1, CM1, CB1, RM1, l1, h1, x1, y1⟩
    · exact s
    rw [show lf_X2_search_49 (F1 + 3) 1024 1024 (nI 1024) 32 (nI N) R below rec40 (F1 + 3) (nI (2 ^ N - 1)) (nI e) (nI i) 0 CX QX (nI 0) ov w = _ from x1, show lf_X12_key_102 (F1 + 3) sy ld 96 lenM 96 codesM 16 16 32 1024 1024 1024 1024 rec93 (F1 + 3) (nI (2 ^ M - 1)) (nI e) (nI i) 0 (nI M) (nI 0) bg bl leads CM CB RM key = _ from y1]
    rcases search_step (F1 + 3) (k := F1 + 1) (k' := F1 + 1) (b := 1) (rec40 := rec40) (rec93 := rec93) (w := w) (key := key) (bg := bg) (bl := bl) (lenM := lenM) (codesM := codesM) (ov := ov) (sy := sy) (ld := ld) hF hS h1 (i := i) (by omega) (by decide) with s | ⟨e2, q2, r2, par2, bb2, dp2, CX2, QX2, CM2, CB2, RM2, l2, h2, x2, y2⟩
    · exact s
    rw [show lf_X2_search_49 (F1 + 3) 1024 1024 (nI 1024) 32 (nI N) R below rec40 (F1 + 2) (nI (2 ^ N - 1)) (nI e1) (nI i) (nI (0 + 1)) CX1 QX1 (nI 0) ov w = _ from x2, show lf_X12_key_102 (F1 + 3) sy ld 96 lenM 96 codesM 16 16 32 1024 1024 1024 1024 rec93 (F1 + 2) (nI (2 ^ M - 1)) (nI e1) (nI i) (nI (0 + 1)) (nI M) (nI 0) bg bl leads CM1 CB1 RM1 key = _ from y2]
    have x3 : lf_X2_search_49 (F1 + 3) 1024 1024 (nI 1024) 32 (nI N) R below rec40 (F1 + 1) (nI (2 ^ N - 1)) (nI e2) (nI i) (nI (1 + 1)) CX2 QX2 (nI 0) ov w = rec40 (nI (2 ^ N - 1)) (nI e2) (nI (i + 1)) CX2 QX2 (nI 0) ov w := by
      show bf_X2_search_49 (F1 + 3) 1024 1024 (nI 1024) 32 (nI N) R below rec40 (fun a b c d e f g h i => lf_X2_search_49 (F1 + 3) 1024 1024 (nI 1024) 32 (nI N) R below rec40 F1 a b c d e f g h i) (nI (2 ^ N - 1)) (nI e2) (nI i) (nI (1 + 1)) CX2 QX2 (nI 0) ov w = _
      unfold bf_X2_search_49
      rw [if_pos (by decide), show nI i + (1 : Int32) = nI (i + 1) from nI_add i 1]
    have y3 : lf_X12_key_102 (F1 + 3) sy ld 96 lenM 96 codesM 16 16 32 1024 1024 1024 1024 rec93 (F1 + 1) (nI (2 ^ M - 1)) (nI e2) (nI i) (nI (1 + 1)) (nI M) (nI 0) bg bl leads CM2 CB2 RM2 key = rec93 (nI (2 ^ M - 1)) (nI e2) (nI (i + 1)) (nI M) (nI 0) bg bl leads CM2 CB2 RM2 key := by
      show bf_X12_key_102 (F1 + 3) sy ld 96 lenM 96 codesM 16 16 32 1024 1024 1024 1024 rec93 (fun a b c d e f g h i j l m n => lf_X12_key_102 (F1 + 3) sy ld 96 lenM 96 codesM 16 16 32 1024 1024 1024 1024 rec93 F1 a b c d e f g h i j l m n) (nI (2 ^ M - 1)) (nI e2) (nI i) (nI (1 + 1)) (nI M) (nI 0) bg bl leads CM2 CB2 RM2 key = _
      unfold bf_X12_key_102
      rw [if_pos (by decide), show nI i + (1 : Int32) = nI (i + 1) from nI_add i 1]
    rw [x3, y3, ← hr40, ← hr93]
    exact ih (i + 1) e2 k k' q2 r2 par2 bb2 dp2 CX2 QX2 CM2 CB2 RM2 (by omega) (by omega) (by omega) (by omega) h2
