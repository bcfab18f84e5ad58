section
/-! build: the reference's end and the class's. -/
theorem nc_in {g : Nat → Nat} {s : Nat} (hg : 0 < g s) : ∀ n, s < n → 0 < nc g n
  | 0, h => absurd h (Nat.not_lt_zero _)
  | n + 1, h => by
    show 0 < nc g n + (if 0 < g n then 1 else 0)
    by_cases e : s = n
    · subst e; rw [if_pos hg]; omega
    · have := nc_in hg n (by omega)
      omega
/-- the depths make a table -/
theorem gdT {io : Bool} {S K n : Nat} {g d us : Nat → Nat} (hK : K ≤ 24) (hn : nc g S = n) (hU : Us g S n us) (hm : Msr n d) (he : io = true → Evn n d) (hd : ∀ k, k < n → d k ≤ K) :
    (∀ s, s < S → lenU g d s ≤ K) ∧ 0 < ncA (lenU g d) S ∧ stA (lenU g d) (fun _ => true) S ≤ 16777216 ∧ ∀ s, s < S → 0 < lenU g d s → 2 ^ (24 - lenU g d s) ∣ stO io S (lenU g d) s := by
  have h24 : ∀ k, k < n → d k ≤ 24 := fun k hk => by have := hd k hk; omega
  have hin : ∀ s, s < S → 0 < g s → nc g s < n ∧ lenU g d s = d (nc g s) := fun s hs hg => by
    obtain ⟨k, k1, k2⟩ := hU.2.2.1 s hs hg
    have h4 := hU.2.2.2 k k1
    rw [k2] at h4
    exact ⟨by omega, by unfold lenU; rw [if_pos hg]⟩
  have hl : ∀ s, s < S → lenU g d s ≤ K := fun s hs => by
    by_cases hg : 0 < g s
    · obtain ⟨a, b⟩ := hin s hs hg
      rw [b]; exact hd _ a
    · unfold lenU; rw [if_neg hg]; omega
  obtain ⟨m1, k, m2, m3⟩ := hm.2 h24
  refine ⟨hl, ?_, ?_, ?_⟩
  · rw [ncA_eq]
    refine nc_in (s := us k) ?_ S (hU.1 k m2).1
    rw [(hin _ (hU.1 k m2).1 (hU.1 k m2).2).2, hU.2.2.2 k m2]
    exact m3
  · rw [stA_U, hn]; exact m1
  · intro s hs h0
    cases io with
    | false => exact even_canon (fun s hs => by have := hl s hs; omega) hs
    | true =>
      have hg : 0 < g s := by
        by_cases hg : 0 < g s
        · exact hg
        · unfold lenU at h0; rw [if_neg hg] at h0; omega
      obtain ⟨a, b⟩ := hin s hs hg
      rw [stO_ord, stA_cut S (by omega), stA_U, b]
      exact (he rfl).2 h24 _ a
theorem m166 (F : Nat) {S K T n : Nat} {wt g d us : Nat → Nat} {tM : Nat → Int32} {x1 io0 ld0 : Int32} {codes used counts found we ab od it il ls sm lf pi : Nat → Int32} (hS : S ≤ 96) (hnS : n ≤ S) (hU : Us g S n us) (hd : ∀ x, x < n → used x = nI (us x) ∧ counts x = nI (wt x) ∧ found x = nI (d x)) : ∀ (e j k : Nat) (x : Int64) (lens : Nat → Int32), j + e = n → e < k → Lu g d S j lens →
    ∃ lens', Lu g d S n lens' ∧ lf_X12_build_166 F (nI S) (nI K) (nI T) 600 tM 96 96 96 96 96 192 192 96 4800 4800 25 9409 9409 400 k x1 x (nI j) io0 ld0 (nI n) lens codes used counts found we ab od it il ls sm lf pi = (if x1 = (3 : Int32) then bf_X12_build_231 F (nI S) (nI K) (nI T) 600 tM 96 96 96 96 96 192 192 96 4800 4800 25 9409 9409 400 (cst wt d e j x) 1 io0 ld0 (nI n) lens' codes used counts found we ab od it il ls sm lf pi else bf_X12_build_231 F (nI S) (nI K) (nI T) 600 tM 96 96 96 96 96 192 192 96 4800 4800 25 9409 9409 400 (cst wt d e j x) 0 io0 ld0 (nI n) lens' codes used counts found we ab od it il ls sm lf pi) := by
  intro e
  induction e with
  | zero =>
    intro j k x lens hj hk h
    obtain ⟨k, rfl⟩ : ∃ z, k = z + 1 := ⟨k - 1, by omega⟩
    obtain rfl : j = n := by omega
    refine ⟨lens, h, ?_⟩
    show bf_X12_build_166 F (nI S) (nI K) (nI T) 600 tM 96 96 96 96 96 192 192 96 4800 4800 25 9409 9409 400 (fun q0 q1 q2 q3 q4 q5 q6 q7 q8 q9 q10 q11 q12 q13 q14 q15 q16 q17 q18 q19 => lf_X12_build_166 F (nI S) (nI K) (nI T) 600 tM 96 96 96 96 96 192 192 96 4800 4800 25 9409 9409 400 k q0 q1 q2 q3 q4 q5 q6 q7 q8 q9 q10 q11 q12 q13 q14 q15 q16 q17 q18 q19) x1 x (nI j) io0 ld0 (nI j) lens codes used counts found we ab od it il ls sm lf pi = _
    unfold bf_X12_build_166
    rw [if_pos (nI_le (Nat.le_refl _) (by omega))]
    rfl
  | succ e ih =>
    intro j k x lens hj hk h
    obtain ⟨k, rfl⟩ : ∃ z, k = z + 1 := ⟨k - 1, by omega⟩
    obtain ⟨lens', r1, r2⟩ := ih (j + 1) k (x + ((nI (wt j)).toInt64 * (nI (d j)).toInt64)) _ (by omega) (by omega) (h.step hU (show j < n by omega))
    refine ⟨lens', r1, ?_⟩
    have hu := (hU.1 j (by omega)).1
    show bf_X12_build_166 F (nI S) (nI K) (nI T) 600 tM 96 96 96 96 96 192 192 96 4800 4800 25 9409 9409 400 (fun q0 q1 q2 q3 q4 q5 q6 q7 q8 q9 q10 q11 q12 q13 q14 q15 q16 q17 q18 q19 => lf_X12_build_166 F (nI S) (nI K) (nI T) 600 tM 96 96 96 96 96 192 192 96 4800 4800 25 9409 9409 400 k q0 q1 q2 q3 q4 q5 q6 q7 q8 q9 q10 q11 q12 q13 q14 q15 q16 q17 q18 q19) x1 x (nI j) io0 ld0 (nI n) lens codes used counts found we ab od it il ls sm lf pi = _
    unfold bf_X12_build_166
    rw [if_neg (nI_ge (by omega) (by omega)), nI_clamp (n := j) (by omega), (hd j (by omega)).1, (hd j (by omega)).2.1, (hd j (by omega)).2.2, nI_clamp (n := us j) (by omega), if_neg (gin (by omega) (by omega)), if_neg (gin (by omega) (by omega)), if_neg (gin (by omega) (by omega)), if_neg (gin (by omega) (by omega)), if_neg (gin (by omega) (by omega)), show nI j + (1 : Int32) = nI (j + 1) from nI_add j 1]
    exact r2
theorem m140 (F : Nat) {S K T n : Nat} {tM : Nat → Int32} {x1 io0 ld0 : Int32} {codes used counts found we ab od it il ls sm lf pi : Nat → Int32} (hS : S ≤ 96) : ∀ (e j k : Nat) (lens : Nat → Int32), j + e = S → e < k → (∀ s, s < j → lens s = 0) →
    ∃ lens', (∀ s, s < S → lens' s = 0) ∧ lf_X12_build_140 F (nI S) (nI K) (nI T) 600 tM 96 96 96 96 96 192 192 96 4800 4800 25 9409 9409 400 k x1 (nI j) io0 ld0 (nI n) lens codes used counts found we ab od it il ls sm lf pi = lf_X12_build_166 F (nI S) (nI K) (nI T) 600 tM 96 96 96 96 96 192 192 96 4800 4800 25 9409 9409 400 F x1 0 (nI 0) io0 ld0 (nI n) lens' codes used counts found we ab od it il ls sm lf pi := by
  intro e
  induction e with
  | zero =>
    intro j k lens hj hk h
    obtain ⟨k, rfl⟩ : ∃ z, k = z + 1 := ⟨k - 1, by omega⟩
    obtain rfl : j = S := by omega
    refine ⟨lens, h, ?_⟩
    show bf_X12_build_140 F (nI j) (nI K) (nI T) 600 tM 96 96 96 96 96 192 192 96 4800 4800 25 9409 9409 400 (fun q0 q1 q2 q3 q4 q5 q6 q7 q8 q9 q10 q11 q12 q13 q14 q15 q16 q17 q18 => lf_X12_build_140 F (nI j) (nI K) (nI T) 600 tM 96 96 96 96 96 192 192 96 4800 4800 25 9409 9409 400 k q0 q1 q2 q3 q4 q5 q6 q7 q8 q9 q10 q11 q12 q13 q14 q15 q16 q17 q18) x1 (nI j) io0 ld0 (nI n) lens codes used counts found we ab od it il ls sm lf pi = _
    unfold bf_X12_build_140
    rw [if_pos (nI_le (Nat.le_refl _) (by omega))]
    rfl
  | succ e ih =>
    intro j k lens hj hk h
    obtain ⟨k, rfl⟩ : ∃ z, k = z + 1 := ⟨k - 1, by omega⟩
    obtain ⟨lens', r1, r2⟩ := ih (j + 1) k (upd lens j 0) (by omega) (by omega) (fun s hs => by
      by_cases e : s = j
      · subst e; exact pk_us
      · rw [pk_un e]; exact h s (by omega))
    refine ⟨lens', r1, ?_⟩
    show bf_X12_build_140 F (nI S) (nI K) (nI T) 600 tM 96 96 96 96 96 192 192 96 4800 4800 25 9409 9409 400 (fun q0 q1 q2 q3 q4 q5 q6 q7 q8 q9 q10 q11 q12 q13 q14 q15 q16 q17 q18 => lf_X12_build_140 F (nI S) (nI K) (nI T) 600 tM 96 96 96 96 96 192 192 96 4800 4800 25 9409 9409 400 k q0 q1 q2 q3 q4 q5 q6 q7 q8 q9 q10 q11 q12 q13 q14 q15 q16 q17 q18) x1 (nI j) io0 ld0 (nI n) lens codes used counts found we ab od it il ls sm lf pi = _
    unfold bf_X12_build_140
    rw [if_neg (nI_ge (by omega) (by omega)), nI_clamp (n := j) (by omega), if_neg (gin (by omega) (by omega)), show nI j + (1 : Int32) = nI (j + 1) from nI_add j 1]
    exact r2
theorem tailM (F : Nat) {io : Bool} {S K T n : Nat} {wt g d us : Nat → Nat} {tM : Nat → Int32} {x1 io0 ld0 : Int32} {lens codes used counts found we ab od it il ls sm lf pi : Nat → Int32} (hF : 1000 < F) (hS : S ≤ 96) (hnS : n ≤ S) (hK : K ≤ 24) (hio : x1 = 3 ∧ io = true ∨ ¬ x1 = 3 ∧ io = false) (hU : Us g S n us) (hd : ∀ x, x < n → used x = nI (us x) ∧ counts x = nI (wt x) ∧ found x = nI (d x))
    (hl : ∀ s, s < S → lenU g d s ≤ K) (hnc : 0 < ncA (lenU g d) S) (hsum : stA (lenU g d) (fun _ => true) S ≤ 16777216) :
    ∃ r', lf_X12_build_140 F (nI S) (nI K) (nI T) 600 tM 96 96 96 96 96 192 192 96 4800 4800 25 9409 9409 400 F x1 0 io0 ld0 (nI n) lens codes used counts found we ab od it il ls sm lf pi = some r' ∧ r'.1 = cst wt d n 0 0 ∧ r'.2.1 = b01 io ∧ r'.2.2.1 = 1 ∧ (∀ s, s < S → r'.2.2.2.2.1 s = nI (lenU g d s)) ∧ ∀ s, s < S → 0 < lenU g d s → r'.2.2.2.2.2.1 s = nI (cd io S (lenU g d) s) := by
  obtain ⟨l0, z1, z2⟩ := m140 F (S := S) (K := K) (T := T) (n := n) (tM := tM) (x1 := x1) (io0 := io0) (ld0 := ld0) (codes := codes) (used := used) (counts := counts) (found := found) (we := we) (ab := ab) (od := od) (it := it) (il := il) (ls := ls) (sm := sm) (lf := lf) (pi := pi) hS S 0 F lens (by omega) (by omega) (fun s hs => absurd hs (Nat.not_lt_zero _))
  obtain ⟨l1, y1, y2⟩ := m166 F (S := S) (K := K) (T := T) (tM := tM) (x1 := x1) (io0 := io0) (ld0 := ld0) (codes := codes) (we := we) (ab := ab) (od := od) (it := it) (il := il) (ls := ls) (sm := sm) (lf := lf) (pi := pi) hS hnS hU hd n 0 F 0 l0 (by omega) (by omega) (Lu.zero z1)
  have hall := y1.all hU
  obtain ⟨f, cm, u1, u2, u3⟩ := make_eq F (io := io) (S := S) (len := lenU g d) (w := l1) codes hS hF (fun s hs => ⟨by have := hl s hs; omega, hall s hs⟩) hnc hsum
  have e231 : bf_X12_build_231 F (nI S) (nI K) (nI T) 600 tM 96 96 96 96 96 192 192 96 4800 4800 25 9409 9409 400 (cst wt d n 0 0) (b01 io) io0 ld0 (nI n) l1 codes used counts found we ab od it il ls sm lf pi = some (cst wt d n 0 0, b01 io, 1, nI n, l1, cm, used, counts, found, we, ab, od, it, il, ls, sm, lf, pi) := by
    unfold bf_X12_build_231
    rw [if_neg (fun z => z (b01_cases io)), u1, bs]
  refine ⟨_, (z2.trans y2).trans (Eq.trans ?_ e231), rfl, rfl, rfl, hall, u3⟩
  rcases hio with ⟨a, rfl⟩ | ⟨a, rfl⟩
  · rw [if_pos a]; rfl
  · rw [if_neg a]; rfl
theorem tailX (F : Nat) {io : Bool} {S K T n nw n1 n2 : Nat} {wt g d us : Nat → Nat} {cX : Nat → Int32} {x1 o1 o2 o3 msz mov opa hpa n0 i0 l0 f0 : Int32} {sy w dX li mw ma md mo ws wb mk ops ope obe owb hps hpe lens codes below : Nat → Int32} (hF : 1000 < F) (hS1 : 1 ≤ S) (hS : S ≤ 96) (hnS : n ≤ S) (hK : K ≤ 24) (hio : x1 = 3 ∧ io = true ∨ ¬ x1 = 3 ∧ io = false) (hU : Us g S n us) (hd : ∀ x, x < n → sy x = nI (us x) ∧ w x = nI (wt x) ∧ dX x = nI (d x))
    (hl : ∀ s, s < S → lenU g d s ≤ K) (hnc : 0 < ncA (lenU g d) S) (hsum : stA (lenU g d) (fun _ => true) S ≤ 16777216) (hdv : ∀ s, s < S → 0 < lenU g d s → 2 ^ (24 - lenU g d s) ∣ stO io S (lenU g d) s) :
    ∃ (nodes full : Int32) (lens' codes' below' : Nat → Int32), bf_X11_build_102 F (nI K) (nI T) S cX S S S S (2 * S) (2 * S) (2 * S) S (nI K) (nI (2 * S)) (nI (K * (2 * S))) nw S S (tri S) (S + 1) S S (nI S) (nI K) S S (2 * (S + K)) x1 (nI n) sy w dX li o1 o2 o3 mw ma md mo n1 ws n2 wb msz mov mk opa ops ope obe owb hpa hps hpe n0 i0 l0 f0 lens codes below = some (cst wt d n 0 0, nI n, sy, w, dX, li, o1, o2, o3, mw, ma, md, mo, n1, ws, n2, wb, msz, mov, mk, opa, ops, ope, obe, owb, hpa, hps, hpe, nodes, b01 io, 1, full, lens', codes', below') ∧
      (∀ s, s < S → lens' s = nI (lenU g d s)) ∧ ∀ codesM : Nat → Int32, (∀ s, s < S → 0 < lenU g d s → codesM s = nI (cd io S (lenU g d) s)) → Ld S K (lenU g d) (b01 io) nodes full codes' below' codesM := by
  obtain ⟨l1, z1, z2⟩ := fill_eq (F := F) (n := S) (by omega) (by omega) lens 0
  obtain ⟨l2, y1, y2⟩ := takeL_loop F (S := S) (K := K) (nc' := 2 * (S + K)) (io := io) (sy := sy) (dX := dX) (n0 := n0) (i0 := i0) (l0 := l0) (f0 := f0) (codes := codes) (below := below) hS hnS hU (fun x hx => ⟨(hd x hx).1, (hd x hx).2.2⟩) n 0 F l1 (by omega) (by omega) (Lu.zero z2)
  have hall := y1.all hU
  obtain ⟨nodes, full, codes', below', r1, r2⟩ := forge_eq F (io := io) (S := S) (K := K) (len := lenU g d) (w := l2) n0 l0 f0 codes below hS1 hS hK hF (fun s hs => ⟨hl s hs, hall s hs⟩) hnc hsum hdv
  rw [r1, bs] at y2
  refine ⟨nodes, full, l2, codes', below', ?_, hall, r2⟩
  have hcost := cost_loop F (S := S) (n := n) (wt := wt) (d := d) (wX := w) (dX := dX) hS hnS (fun x hx => (hd x hx).2) n 0 F 0 (by omega) (by omega)
  have htk : fn_X10_takeLengths F (nI S) (nI K) S S (2 * (S + K)) (nI n) S sy S dX n0 i0 l0 f0 lens codes below (b01 io) = some (nodes, b01 io, 1, full, l2, codes', below') := by
    unfold fn_X10_takeLengths bf_X10_takeLengths_0
    rw [z1, bs]
    exact y2
  have e120 : bf_X11_build_120 F (nI K) (nI T) S cX S S S S (2 * S) (2 * S) (2 * S) S (nI K) (nI (2 * S)) (nI (K * (2 * S))) nw S S (tri S) (S + 1) S S (nI S) (nI K) S S (2 * (S + K)) (b01 io) (nI n) sy w dX li o1 o2 o3 mw ma md mo n1 ws n2 wb msz mov mk opa ops ope obe owb hpa hps hpe n0 i0 l0 f0 lens codes below = some (cst wt d n 0 0, nI n, sy, w, dX, li, o1, o2, o3, mw, ma, md, mo, n1, ws, n2, wb, msz, mov, mk, opa, ops, ope, obe, owb, hpa, hps, hpe, nodes, b01 io, 1, full, l2, codes', below') := by
    unfold bf_X11_build_120
    rw [htk, bs, show fn_X3_cost F (nI n) S w S dX = some (cst wt d n 0 0) from hcost, bs]
  refine Eq.trans ?_ e120
  unfold bf_X11_build_102
  rcases hio with ⟨a, rfl⟩ | ⟨a, rfl⟩
  · rw [if_pos a]; rfl
  · rw [if_neg a]; rfl
end
