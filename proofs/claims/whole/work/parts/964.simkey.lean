/-! key. -/
theorem fill44_loop (F : Nat) {sy ld : Int32} {M : Nat} {lenM codesM be bl leads CB RM key : Nat → Int32} : ∀ (d i k : Nat) (CM : Nat → Int32), i + d = 1024 → d < k → (∀ x, x < i → CM x = -2) →
    ∃ CM' : Nat → Int32, (∀ x, x < 1024 → CM' x = -2) ∧ lf_X12_key_44 F sy ld 96 lenM 96 codesM 16 16 32 1024 1024 1024 1024 k (nI i) (nI M) (nI 0) be bl leads CM CB RM key = (if (0 : Int32) < 0 ∨ 1024 ≤ ((0 : Int32)).toNatClampNeg then none else (if (((1 : Int32) <<< (nI M &&& 31)) - (1 : Int32)) < 0 ∨ 1024 ≤ ((((1 : Int32) <<< (nI M &&& 31)) - (1 : Int32))).toNatClampNeg then none else lf_X12_key_93 F sy ld 96 lenM 96 codesM 16 16 32 1024 1024 1024 1024 F (((1 : Int32) <<< (nI M &&& 31)) - (1 : Int32)) (1 : Int32) (0 : Int32) (nI M) (nI 0) be bl leads (upd CM' ((((1 : Int32) <<< (nI M &&& 31)) - (1 : Int32))).toNatClampNeg (-1 : Int32)) CB (upd RM ((0 : Int32)).toNatClampNeg (((1 : Int32) <<< (nI M &&& 31)) - (1 : Int32))) key)) := by
  intro d
  induction d with
  | zero =>
    intro i k CM hi hk h
    obtain ⟨k, rfl⟩ : ∃ z, k = z + 1 := ⟨k - 1, by omega⟩
    refine ⟨CM, fun x hx => h x (by omega), ?_⟩
    show bf_X12_key_44 F sy ld 96 lenM 96 codesM 16 16 32 1024 1024 1024 1024 (fun a b c d e f g h i j => lf_X12_key_44 F sy ld 96 lenM 96 codesM 16 16 32 1024 1024 1024 1024 k a b c d e f g h i j) (nI i) (nI M) (nI 0) be bl leads CM CB RM key = _
    unfold bf_X12_key_44
    rw [if_pos (show (1024 : Int32) ≤ nI i from nI_le (a := 1024) (by omega) (by omega))]
  | succ d ih =>
    intro i k CM hi hk h
    obtain ⟨k, rfl⟩ : ∃ z, k = z + 1 := ⟨k - 1, by omega⟩
    obtain ⟨CM', r1, r2⟩ := ih (i + 1) k (upd CM i (-2)) (by omega) (by omega) (fun x hx => by
      by_cases e : x = i
      · subst e; exact pk_us
      · rw [pk_un e]; exact h x (by omega))
    refine ⟨CM', r1, ?_⟩
    rw [← r2]
    show bf_X12_key_44 F sy ld 96 lenM 96 codesM 16 16 32 1024 1024 1024 1024 (fun a b c d e f g h i j => lf_X12_key_44 F sy ld 96 lenM 96 codesM 16 16 32 1024 1024 1024 1024 k a b c d e f g h i j) (nI i) (nI M) (nI 0) be bl leads CM CB RM key = _
    unfold bf_X12_key_44
    rw [if_neg (show ¬ (1024 : Int32) ≤ nI i from nI_ge (b := 1024) (by omega) (by decide)), if_neg (nI_in (by omega) (by decide)), nI_clamp (by omega), show nI i + (1 : Int32) = nI (i + 1) from nI_add i 1]

theorem sim_key : Sim_key FU Inv := by
  intro ci cn ca mi mn ma hI
  obtain ⟨S, K, T, t, len, nb, no, nk, hC, hM, hT, hLn, hB, hO, hKy, hP⟩ := id hI
  obtain ⟨h1, ⟨h2, h3, h4, h5, h6⟩, h7⟩ := id hLn
  have c54 : cn 54 = 1024 := hC.2.2.2.2.2.2.2.1.1
  have c56 : cn 56 = 1024 := hC.2.2.2.2.2.2.2.1.2.1
  have c58 : ci 58 = nI 1024 := hC.2.2.2.2.2.2.2.1.2.2.1
  have c61 : cn 61 = 32 := hC.2.2.2.2.2.2.2.1.2.2.2
  have c63 : ci 63 = nI S := hC.2.2.2.2.2.2.2.2.1.1
  have c69 : cn 69 = S := hC.2.2.2.2.2.2.2.2.1.2.2.1
  have c73 : cn 73 = 2 * (S + K) := hC.2.2.2.2.2.2.2.2.1.2.2.2.2
  have hS : S ≤ 96 := hC.1.2.1
  have hK : K ≤ 24 := hC.1.2.2.2
  have m0 : mi 0 = nI S := hM.1.1
  have m15 : mn 15 = 96 := hM.2.1.2.1
  have m17 : mn 17 = 96 := hM.2.1.2.2.1
  obtain ⟨m51, m53, m55⟩ := hM.2.2.2.2.2.2.1
  obtain ⟨m57, m59, m61, m63⟩ := hM.2.2.2.2.2.2.2
  have hw : ∀ s, s < S → len s ≤ 24 ∧ ma 16 s = nI (len s) := fun s hs => ⟨by have := (h1 s hs).1; omega, (h1 s hs).2.2⟩
  have hwx : ∀ s, s < S → len s ≤ 24 ∧ ca 70 s = nI (len s) := fun s hs => ⟨by have := (h1 s hs).1; omega, (h1 s hs).2.1⟩
  have hncl := nc_le len S
  have ge := @rfl _ (gX_key FU ci cn ca)
  have gm := @rfl _ (gM_key FU mi mn ma)
  conv at ge => rhs; unfold gX_key fn_X11_key bf_X11_key_0
  conv at gm => rhs; unfold gM_key fn_X12_key bf_X12_key_0
  rw [show fn_X2_forget FU (ci 59) (ci 60) = some (nI 0, b01 false) from rfl, bs] at ge
  rw [m0, m15, codesThere_eq (F := FU) (S := S) (n := 96) (g := len) hS (by decide) (by unfold FU; omega) (fun s hs => ⟨by have := (hw s hs).1; omega, (hw s hs).2⟩), bs, ← h4] at gm
  have none_ : ∀ (w : Nat → Int32), IvK 0 (uXi_key (-1, ca 55, ca 57, nI 0, b01 false, ca 62) ci) (uXa_key (-1, ca 55, ca 57, nI 0, b01 false, ca 62) ca) (uMi_key (-1, mi 11, 0, ma 52, ma 54, ma 56, ma 58, ma 60, ma 62, ma 64) mi) (uMa_key (-1, mi 11, 0, ma 52, ma 54, ma 56, ma 58, ma 60, ma 62, ma 64) ma) := fun _ => ⟨⟨by omega, rfl, rfl⟩, fun i hi => by omega⟩
  rcases h5 with hl | hl
  · rw [if_pos hl] at ge gm
    exact ⟨_, _, ge, gm, rfl, S, K, T, t, len, nb, no, 0, hC, hM, hT, hLn, hB, hO, none_ (ca 62), hP⟩
  have hl0 : ¬ ci 67 = 0 := by rw [hl]; decide
  obtain ⟨io, l1, l2, l3, l4, l5, N, pre, l6, l7, ⟨l8, l9, l10⟩, l11⟩ := id (h7 hl)
  obtain ⟨x, x1, x2, x3, x4⟩ := sumOf_eq (F := FU) (S := S) (n := 96) (len := len) (w := ma 16) hS hS (by decide) (by unfold FU; omega) hw
  have hsm : sm len S ≤ 16777216 := by rw [← stA_all]; exact l3
  have hx : x = sm len S := x3 hsm
  rw [if_neg hl0, l4, stA_all] at ge
  rw [if_neg hl0, x1, bs, hx] at gm
  by_cases hf : ¬ sm len S = 16777216
  · have e1 : b01 (decide (sm len S = 16777216)) = 0 := by simp [hf, b01]
    rw [if_pos e1] at ge
    rw [if_neg (show ¬ nI (sm len S) = 16777216 from fun z => hf ((nI_eq (b := 16777216) (by omega) (by decide)).mp z))] at gm
    exact ⟨_, _, ge, gm, rfl, S, K, T, t, len, nb, no, 0, hC, hM, hT, hLn, hB, hO, none_ (ca 62), hP⟩
  obtain hf : sm len S = 16777216 := Classical.not_not.mp hf
  rw [if_neg (by simp [hf, b01]), c63, c69, codeNumber_eq (F := FU) (S := S) (n := S) (g := len) (Nat.le_refl _) (by omega) (by unfold FU; omega) (fun s hs => ⟨by have := (hwx s hs).1; omega, (hwx s hs).2⟩), bs] at ge
  rw [if_pos (by rw [hf]; rfl)] at gm
  have wi : fn_X12_within FU (nI (nc len S)) 2 11 = (if nI (nc len S) < (2 : Int32) then some (0 : Int32) else (if (11 : Int32) < nI (nc len S) then some (0 : Int32) else some (1 : Int32))) := rfl
  rw [wi] at gm
  by_cases hn2 : nc len S < 2
  · rw [if_pos (show nI (nc len S) < (2 : Int32) from nI_lt (b := 2) hn2 (by decide))] at ge gm
    rw [bs, if_pos rfl] at gm
    exact ⟨_, _, ge, gm, rfl, S, K, T, t, len, nb, no, 0, hC, hM, hT, hLn, hB, hO, none_ (ca 62), hP⟩
  rw [if_neg (show ¬ nI (nc len S) < (2 : Int32) from nI_nlt (b := 2) (by omega) (by omega))] at ge gm
  by_cases hn11 : 11 < nc len S
  · rw [if_neg (show ¬ nI (nc len S) ≤ (11 : Int32) from nI_ge (a := 11) hn11 (by omega))] at ge
    rw [if_pos (show (11 : Int32) < nI (nc len S) from nI_lt (a := 11) hn11 (by omega)), bs, if_pos rfl] at gm
    exact ⟨_, _, ge, gm, rfl, S, K, T, t, len, nb, no, 0, hC, hM, hT, hLn, hB, hO, none_ (ca 62), hP⟩
  rw [if_pos (show nI (nc len S) ≤ (11 : Int32) from nI_le (b := 11) (by omega) (by decide))] at ge
  rw [if_neg (show ¬ (11 : Int32) < nI (nc len S) from nI_nlt (a := 11) (by omega) (by decide)), bs, if_neg (by decide)] at gm
  have hNc := l9 (by rw [stA_all]; exact hf)
  rw [ncA_eq] at hNc
  have hN : N ≤ 10 := by omega
  have hRd : Rd io S K len N pre (ca 74) (ma 16) (ma 18) := ⟨⟨hS, hK, l7, l8, l2⟩, hw, fun s hs hp => ⟨Nat.le_trans (Nat.div_le_self _ _) (Nat.le_trans (stA_mono (fun _ _ => rfl) S) l3), (l5 s hs hp).2.2⟩, l11⟩
  have hst : ∀ s, s < S → 0 < len s → stO io S len s < 16777216 := fun s hs hp => by
    have hb : bef io len s s = false := by cases io <;> simp [bef]
    have := sum_ins (S := S) (len := len) (p := fun x => bef io len x s) hs hp hb
    have hpos : 0 < 2 ^ (24 - len s) := Nat.pow_pos (by decide)
    show stA len (fun x => bef io len x s) S < 16777216
    omega
  have hch : ∀ v n b, isPre io S len v n → b < 2 → (∃ s, isCod io S len (2 * v + b) (n + 1) s) ∨ isPre io S len (2 * v + b) (n + 1) := fun v n b hp hb =>
    child_ex hS (by omega) (fun s hs => (hw s hs).1) l11 (fun s hs hp => (l5 s hs hp).1) (fun y hy => l10 y (by rw [stA_all, hf]; exact hy)) hst hp hb
  -- the beginnings
  have pre00 : isPre io S len 0 0 := by have := l11.2.1 0 (by omega); rw [l11.1] at this; exact this
  have hB0 : BgI io S len 1 (fun _ => (0, 0)) (upd (ma 52) 0 0) (upd (ma 54) 0 0) := by
    refine ⟨⟨rfl, Nat.le_refl _⟩, fun k hk => ?_, fun k l hk hl _ => by omega⟩
    obtain rfl : k = 0 := by omega
    exact ⟨pre00, by decide, by decide, pk_us, pk_us⟩
  obtain ⟨M, bg, be, bl, r1, r2, r3⟩ := beg21_loop FU (leads := ma 56) hRd hN (by decide) S 0 FU 1 _ _ _ (by omega) (by unfold FU; omega) hB0 (fun x m hx => by omega)
  have hMN := r2.le l11
  have hcm : ∀ v n, isPre io S len v n → ∃ j, j < M ∧ bg j = (v, n) := fun v n hp => by
    obtain ⟨s, a1, a2, a3⟩ := hp
    rcases Nat.eq_zero_or_pos n with q | q
    · subst q
      have v0 : v = 0 := by
        rw [← a3, cd_div (by omega) (hw s a1).1]
        exact Nat.div_eq_of_lt (hst s a1 a2)
      subst v0
      exact ⟨0, r2.1.2, r2.1.1⟩
    · obtain ⟨j, j1, j2⟩ := r3 s n a1 q a2
      exact ⟨j, j1, by rw [j2, a3]⟩
  obtain ⟨leads, u1, u2⟩ := lead_loop FU hRd (by decide) (by omega) r2 hch hcm M 0 FU (ma 56) (by omega) (by unfold FU; omega) (fun x b hx => by omega)
  have fb : fn_X12_findBeginnings FU (nI S) 96 (ma 16) 96 (ma 18) 16 16 32 (mi 11) (ma 52) (ma 54) (ma 56) = some (nI M, be, bl, leads) := by
    unfold fn_X12_findBeginnings bf_X12_findBeginnings_0
    rw [if_neg (by decide), if_neg (by decide)]
    exact r1.trans u1
  rw [m17, m51, m53, m55, m57, m59, m61, m63, fb, bs] at gm
  -- both numberings
  have ex : ∀ k, ∃ w, k < M → w < N ∧ pre w = bg k := fun k => by
    by_cases hk : k < M
    · obtain ⟨w, w1, w2⟩ := l11.2.2.1 _ _ (r2.2.1 k hk).1
      exact ⟨w, fun _ => ⟨w1, w2⟩⟩
    · exact ⟨0, fun z => absurd z hk⟩
  obtain ⟨ph, hph⟩ : ∃ ph : Nat → Nat, ∀ k, k < M → ph k < N ∧ pre (ph k) = bg k := ⟨fun k => Classical.choose (ex k), fun k hk => Classical.choose_spec (ex k) hk⟩
  have exT : ∀ b v, ∃ y, b < 2 → v < N → y < N ∧ (if ca 74 (2 * v + b) < (0 : Int32) then (0 : Int32) else ca 74 (2 * v + b)) = nI y ∧ (((∃ s, isCod io S len (2 * (pre v).1 + b) ((pre v).2 + 1) s) ∧ y = 0) ∨ ((¬ ∃ s, isCod io S len (2 * (pre v).1 + b) ((pre v).2 + 1) s) ∧ pre y = (2 * (pre v).1 + b, (pre v).2 + 1))) := fun b v => by
    by_cases hbv : b < 2 ∧ v < N
    · obtain ⟨hb, hv⟩ := hbv
      obtain ⟨e1, e2, e3⟩ := l11.2.2.2.2 v b hv hb
      by_cases hcod : ∃ s, isCod io S len (2 * (pre v).1 + b) ((pre v).2 + 1) s
      · obtain ⟨s, hs⟩ := hcod
        have := m1s s (by have := hs.1; omega)
        exact ⟨0, fun _ _ => ⟨by omega, by rw [e1 s hs, if_pos (Int32.not_le.mp this.1)]; rfl, Or.inl ⟨⟨s, hs⟩, rfl⟩⟩⟩
      · have hp := (hch _ _ b (l11.2.1 v hv) hb).resolve_left hcod
        obtain ⟨w, w1, w2⟩ := l11.2.2.1 _ _ hp
        exact ⟨w, fun _ _ => ⟨w1, by rw [e2 w w1 w2, if_neg (nI_pos (by omega))], Or.inr ⟨hcod, w2⟩⟩⟩
    · exact ⟨0, fun z1 z2 => absurd ⟨z1, z2⟩ hbv⟩
  obtain ⟨TX, hTX⟩ : ∃ TX : Nat → Nat → Nat, ∀ b v, b < 2 → v < N → TX b v < N ∧ (if ca 74 (2 * v + b) < (0 : Int32) then (0 : Int32) else ca 74 (2 * v + b)) = nI (TX b v) ∧ (((∃ s, isCod io S len (2 * (pre v).1 + b) ((pre v).2 + 1) s) ∧ TX b v = 0) ∨ ((¬ ∃ s, isCod io S len (2 * (pre v).1 + b) ((pre v).2 + 1) s) ∧ pre (TX b v) = (2 * (pre v).1 + b, (pre v).2 + 1))) := ⟨fun b v => Classical.choose (exT b v), fun b v => Classical.choose_spec (exT b v)⟩
  have exM : ∀ b k, ∃ y, b < 2 → k < M → Ledg io S len M bg b k y ∧ leads (2 * k + b) = nI y := fun b k => by
    by_cases hbk : b < 2 ∧ k < M
    · obtain ⟨y, y1, y2⟩ := u2 k b hbk.2 hbk.1
      exact ⟨y, fun _ _ => ⟨y1, y2⟩⟩
    · exact ⟨0, fun z1 z2 => absurd ⟨z1, z2⟩ hbk⟩
  obtain ⟨TM, hTM⟩ : ∃ TM : Nat → Nat → Nat, ∀ b k, b < 2 → k < M → Ledg io S len M bg b k (TM b k) ∧ leads (2 * k + b) = nI (TM b k) := ⟨fun b k => Classical.choose (exM b k), fun b k => Classical.choose_spec (exM b k)⟩
  have inj := l11.2.2.2.1
  have ph0 : ph 0 = 0 := inj _ _ (hph 0 r2.1.2).1 (by omega) (by rw [(hph 0 r2.1.2).2, r2.1.1, l11.1])
  have hbij : Bij M N ph := ⟨fun k hk => (hph k hk).1, fun k l hk hl e => r2.2.2 k l hk hl (by rw [← (hph k hk).2, ← (hph l hl).2, e]), fun v hv => by
    obtain ⟨j, j1, j2⟩ := hcm _ _ (l11.2.1 v hv)
    exact ⟨j, j1, inj _ _ (hph j j1).1 hv (by rw [(hph j j1).2, j2])⟩⟩
  have hStp : KStp (2 * (S + K)) N M ph TX TM (ca 74) leads := by
    refine ⟨hN, by omega, r2.1.2, by omega, by omega, hbij, ph0, fun b hb v hv => ⟨(hTX b v hb hv).1, (hTX b v hb hv).2.1⟩, fun b hb k hk => ⟨(hTM b k hb hk).1.1, (hTM b k hb hk).2⟩, fun b hb k hk => ?_⟩
    obtain ⟨y1, _, y3⟩ := hTX b (ph k) hb (hph k hk).1
    obtain ⟨⟨z1, z2⟩, _⟩ := hTM b k hb hk
    rw [(hph k hk).2] at y3
    rcases z2 with ⟨z3, z4⟩ | ⟨z3, z4⟩
    · rcases y3 with ⟨_, y4⟩ | ⟨y4, _⟩
      · rw [z4, y4, ph0]
      · exact absurd z3 y4
    · rcases y3 with ⟨y4, _⟩ | ⟨_, y4⟩
      · exact absurd y4 z3
      · exact inj _ _ (hph _ z1).1 y1 (by rw [(hph _ z1).2, z4, y4])
  -- the search
  obtain ⟨CX, f1, f2⟩ := fill_eq (F := FU) (n := 1024) (by decide) (by decide) (ca 55) (-1)
  obtain ⟨CM, f3, f4⟩ := fill44_loop FU (sy := nI S) (ld := ci 67) (M := M) (lenM := ma 16) (codesM := ma 18) (be := be) (bl := bl) (leads := leads) (CB := ma 60) (RM := ma 62) (key := ma 64) 1024 0 FU (ma 58) (by omega) (by decide) (fun x hx => by omega)
  have pN : 0 < 2 ^ N := Nat.pow_pos (by decide)
  have pM : 0 < 2 ^ M := Nat.pow_pos (by decide)
  have lN : 2 ^ N ≤ 2 ^ 10 := Nat.pow_le_pow_right (by decide) hN
  have lM : 2 ^ M ≤ 2 ^ 10 := Nat.pow_le_pow_right (by decide) (by omega)
  have s2 : ∀ n, n ≤ 10 → ((1 : Int32) <<< (nI n &&& 31)) - 1 = nI (2 ^ n - 1) := fun n hn => by
    rw [shl_1 (by omega)]
    exact pk_sub (b := 1) (Nat.pow_pos (by decide))
  rw [s2 M (by omega), if_neg (by decide), if_neg (nI_in (by omega) (by decide)), nI_clamp (n := 2 ^ M - 1) (by omega)] at f4
  have hSr : Sr N M 1 ph (fun _ => 2 ^ N - 1) (fun _ => 2 ^ M - 1) (fun _ => 0) (fun _ => 0) (fun _ => 0) CX (upd (ca 57) 0 (nI (2 ^ N - 1))) (upd CM (2 ^ M - 1) (-1)) (ma 60) (upd (ma 62) 0 (nI (2 ^ M - 1))) := by
    refine ⟨⟨Nat.le_refl _, by decide, rfl, rfl, rfl⟩, fun i hi => ?_, fun i j hi hj _ => by omega, fun i h0 hi => by omega, ⟨f2 _ (show 2 ^ N - 1 < 1024 by omega), pk_us⟩, fun A hA _ => f2 A hA, fun B hB hne => ?_⟩
    · obtain rfl : i = 0 := by omega
      exact ⟨show 2 ^ N - 1 < 2 ^ N by omega, show 2 ^ M - 1 < 2 ^ M by omega, Rl.all hbij, pk_us, pk_us, Nat.le_refl _⟩
    · rw [pk_un (fun z => hne 0 (by omega) z.symm)]
      exact f3 B hB
  have ko := search_loop FU (w := ca 62) (key := ma 64) (bg := be) (bl := bl) (lenM := ma 16) (codesM := ma 18) (ov := b01 false) (sy := nI S) (ld := ci 67) (by decide) hStp 1024 0 1 FU FU _ _ _ _ _ _ _ _ _ _ (by omega) (by omega) (by decide) (by decide) hSr
  have sx : fn_X2_search FU 1024 1024 (nI 1024) 32 (nI N) (2 * (S + K)) (ca 74) (ca 55) (ca 57) (nI 0) (b01 false) (ca 62) = lf_X2_search_40 FU 1024 1024 (nI 1024) 32 (nI N) (2 * (S + K)) (ca 74) FU (nI (2 ^ N - 1)) (nI 1) (nI 0) CX (upd (ca 57) 0 (nI (2 ^ N - 1))) (nI 0) (b01 false) (ca 62) := by
    unfold fn_X2_search bf_X2_search_0
    rw [if_pos (show nI N ≤ 10 from nI_le (b := 10) hN (by decide)), f1, bs, if_neg (by decide), s2 N hN]
    rfl
  obtain ⟨a, n, z1, z2, ov, w, y1, y2, y3, y4, y5, y6, y7, key, k1, k2, k3, k4⟩ := ko
  rw [c54, c56, c58, c61, l6, c73, sx, k2, bs] at ge
  rw [show lf_X12_key_44 FU (nI S) (ci 67) 96 (ma 16) 96 (ma 18) 16 16 32 1024 1024 1024 1024 FU 0 (nI M) 0 be bl leads (ma 58) (ma 60) (ma 62) (ma 64) = _ from f4, show lf_X12_key_93 FU (nI S) (ci 67) 96 (ma 16) 96 (ma 18) 16 16 32 1024 1024 1024 1024 FU (nI (2 ^ M - 1)) 1 0 (nI M) (nI 0) be bl leads (upd CM (2 ^ M - 1) (-1)) (ma 60) (upd (ma 62) (0 : Int32).toNatClampNeg (nI (2 ^ M - 1))) (ma 64) = _ from k3] at gm
  exact ⟨_, _, ge, gm, rfl, S, K, T, t, len, nb, no, n, hC, hM, hT, hLn, hB, hO, ⟨⟨k1, rfl, rfl⟩, k4⟩, hP⟩
