/-! One code: the road from node 0 to its end. -/
theorem nodeBelow_old (F : Nat) {S K N v b w : Nat} {below : Nat → Int32} (hS : S ≤ 96) (hK : K ≤ 24) (hv : v < S + K) (hb : b < 2) (h : below (2 * v + b) = nI w) (hw : 0 < w) (hw2 : w < 2 ^ 31) :
    fn_X10_nodeBelow F (nI S) (nI K) (2 * (S + K)) (nI N) below (nI v) (nI b) = some (nI w, nI N, below) := by
  have e : (2 : Int32) * nI v + nI b = nI (2 * v + b) := by
    rw [show (2 : Int32) = nI 2 from rfl, pk_mul, nI_add]
  unfold fn_X10_nodeBelow bf_X10_nodeBelow_0 bf_X10_nodeBelow_51
  rw [e, if_neg (nI_in (by omega) (by omega)), nI_clamp (by omega), h, if_pos (show (0 : Int32) < nI w from nI_lt (a := 0) hw hw2), if_neg (gin (by omega) (by omega)), if_neg (nI_pos hw2)]
theorem nodeBelow_new (F : Nat) {S K N v b : Nat} {below : Nat → Int32} (hS : S ≤ 96) (hK : K ≤ 24) (hv : v < S + K) (hb : b < 2) (h : below (2 * v + b) = 0) (hN : N < S + K) :
    fn_X10_nodeBelow F (nI S) (nI K) (2 * (S + K)) (nI N) below (nI v) (nI b) = some (nI N, nI (N + 1), upd below (2 * v + b) (nI N)) := by
  have e : (2 : Int32) * nI v + nI b = nI (2 * v + b) := by
    rw [show (2 : Int32) = nI 2 from rfl, pk_mul, nI_add]
  unfold fn_X10_nodeBelow bf_X10_nodeBelow_0 bf_X10_nodeBelow_51
  rw [e, if_neg (nI_in (by omega) (by omega)), nI_clamp (by omega), h, if_neg (by decide), show nI S + nI K = nI (S + K) from nI_add S K, if_neg (nI_ge hN (by omega)), if_neg (gin (by omega) (by omega)), if_neg (gin (by omega) (by omega)), pk_us, if_neg (nI_pos (by omega)), show nI N + (1 : Int32) = nI (N + 1) from nI_add N 1]
theorem bit_eq {e k : Nat} (he : e < 2 ^ 31) (hk : k < 32) : (nI e >>> (nI k &&& 31)) &&& (1 : Int32) = nI (e / 2 ^ k % 2) := by
  rw [pk_shrN he _ k (s_l k hk), pk_andN (Nat.lt_of_le_of_lt (Nat.div_le_self _ _) (by omega)) 1 (by decide)]
theorem tzc_le (e : Nat) (k : Nat) : tzc e k ≤ tzc e (k + 1) := by
  show tzc e k ≤ tzc e k + _
  omega
def PreQ (Pre0 : Nat → Nat → Prop) (e L m0 a m : Nat) : Prop := Pre0 a m ∨ (m ≤ m0 ∧ a = e / 2 ^ (L - m))
theorem path_loop (F : Nat) {S K s E L e : Nat} {w codes : Nat → Int32} {Pre0 : Nat → Nat → Prop} {Cod : Nat → Nat → Nat → Prop} (hS : S ≤ 96) (hK : K ≤ 24) (hL : L ≤ 24) (he : e < 2 ^ 31)
    (hA : ∀ k, 1 ≤ k → k < L → ¬ 2 ^ k ∣ e → Pre0 (e / 2 ^ k) (L - k)) (hB : ∀ k s', k < L → ¬ Cod (e / 2 ^ k) (L - k) s') (hC : ¬ Pre0 e L) : ∀ (kk k v N : Nat) (pre : Nat → Nat × Nat) (below : Nat → Int32), kk < L → kk < k → v < N → pre v = (e / 2 ^ (kk + 1), L - 1 - kk) → TreeG (2 * (S + K)) (PreQ Pre0 e L (L - 1 - kk)) Cod N pre below → N + tzc e kk ≤ S + K →
    ∃ (N' : Nat) (pre' : Nat → Nat × Nat) (below' : Nat → Int32), lf_X10_forgeOne_31 F (nI S) (nI K) S w S (2 * (S + K)) k (nI s) (nI E) (nI L) (nI e) (nI v) (nI kk) (nI N) codes below = some (nI (E + 2 ^ (24 - L)), nI N', codes, below') ∧ N' ≤ N + tzc e kk ∧
      TreeG (2 * (S + K)) (PreQ Pre0 e L (L - 1)) (fun a m s' => Cod a m s' ∨ (a = e ∧ m = L ∧ s' = s)) N' pre' below' := by
  intro kk
  induction kk with
  | zero =>
    intro k v N pre below hk0 hk hv hp hT hN
    obtain ⟨k, rfl⟩ : ∃ q, k = q + 1 := ⟨k - 1, by omega⟩
    have e2 : 2 * (e / 2 ^ (0 + 1)) + e % 2 = e := by rw [Nat.zero_add, Nat.pow_one]; omega
    have eL : L - 1 - 0 + 1 = L := by omega
    refine ⟨N, pre, upd below (2 * v + e % 2) ((-1 : Int32) - nI s), ?_, Nat.le_add_right _ _, ?_⟩
    · show bf_X10_forgeOne_31 F (nI S) (nI K) S w S (2 * (S + K)) (fun a b c d e f g h i => lf_X10_forgeOne_31 F (nI S) (nI K) S w S (2 * (S + K)) k a b c d e f g h i) (nI s) (nI E) (nI L) (nI e) (nI v) (nI 0) (nI N) codes below = _
      unfold bf_X10_forgeOne_31
      rw [if_pos (show nI 0 ≤ 0 by decide), pk_andN (n := e) (m := 1) (by omega) 1 (by decide), show (2 : Int32) = nI 2 from rfl, pk_mul, nI_add, Nat.pow_one, if_neg (nI_in (by omega) (by omega)), (share_eq F hL).1, bs, nI_clamp (by omega), nI_add]
    · have h1 := hT.code (s := s) hv hp (b := e % 2) (by omega) (by
        rw [e2, eL]
        rintro (z | ⟨z, _⟩)
        · exact hC z
        · omega) (fun s' z => by
        rw [e2, eL] at z
        have := hB 0 s' (by omega)
        rw [Nat.pow_zero, Nat.div_one, Nat.sub_zero] at this
        exact this z)
      rw [e2, eL] at h1
      exact h1
  | succ kk ih =>
    intro k v N pre below hk0 hk hv hp hT hN
    obtain ⟨k, rfl⟩ : ∃ q, k = q + 1 := ⟨k - 1, by omega⟩
    have hb2 : e / 2 ^ (kk + 1) % 2 < 2 := Nat.mod_lt _ (by decide)
    have e2 : 2 * (e / 2 ^ (kk + 1 + 1)) + e / 2 ^ (kk + 1) % 2 = e / 2 ^ (kk + 1) := by
      rw [Nat.pow_succ 2 (kk + 1), ← Nat.div_div_eq_div_mul]; omega
    have eL : L - 1 - (kk + 1) + 1 = L - 1 - kk := by omega
    have eL2 : L - 1 - kk = L - (kk + 1) := by omega
    have step : ∀ {w' : Nat} {N' : Nat} {below' : Nat → Int32}, fn_X10_nodeBelow F (nI S) (nI K) (2 * (S + K)) (nI N) below (nI v) (nI (e / 2 ^ (kk + 1) % 2)) = some (nI w', nI N', below') → lf_X10_forgeOne_31 F (nI S) (nI K) S w S (2 * (S + K)) (k + 1) (nI s) (nI E) (nI L) (nI e) (nI v) (nI (kk + 1)) (nI N) codes below = lf_X10_forgeOne_31 F (nI S) (nI K) S w S (2 * (S + K)) k (nI s) (nI E) (nI L) (nI e) (nI w') (nI kk) (nI N') codes below' := fun hn => by
      show bf_X10_forgeOne_31 F (nI S) (nI K) S w S (2 * (S + K)) (fun a b c d e f g h i => lf_X10_forgeOne_31 F (nI S) (nI K) S w S (2 * (S + K)) k a b c d e f g h i) (nI s) (nI E) (nI L) (nI e) (nI v) (nI (kk + 1)) (nI N) codes below = _
      unfold bf_X10_forgeOne_31
      rw [if_neg (nI_nle (by omega) (by omega)), bit_eq he (by omega), hn, bs, pk_m1]
    have hcl := hT.2.2.2.2.1 v (e / 2 ^ (kk + 1) % 2) hv hb2
    rw [hp] at hcl
    simp only [e2, eL] at hcl
    obtain ⟨c1, c2, c3⟩ := hcl
    have cg : ∀ a m, PreQ Pre0 e L (L - 1 - (kk + 1)) a m ∨ (a = e / 2 ^ (kk + 1) ∧ m = L - 1 - kk) ↔ PreQ Pre0 e L (L - 1 - kk) a m := fun a m => by
      constructor
      · rintro ((z | ⟨z1, z2⟩) | ⟨z1, z2⟩)
        · exact Or.inl z
        · exact Or.inr ⟨by omega, z2⟩
        · exact Or.inr ⟨by omega, by rw [z1, z2, show L - (L - 1 - kk) = kk + 1 by omega]⟩
      · rintro (z | ⟨z1, z2⟩)
        · exact Or.inl (Or.inl z)
        · by_cases q : m = L - 1 - kk
          · exact Or.inr ⟨by rw [z2, q, show L - (L - 1 - kk) = kk + 1 by omega], q⟩
          · exact Or.inl (Or.inr ⟨by omega, z2⟩)
    by_cases hPre : Pre0 (e / 2 ^ (kk + 1)) (L - 1 - kk)
    · obtain ⟨x, x1, x2⟩ := hT.2.2.1 _ _ (Or.inl hPre)
      have xb := c2 x x1 x2
      have x0 : 0 < x := by
        rcases Nat.eq_zero_or_pos x with q | q
        · subst q
          rw [hT.1.1] at x2
          have := congrArg Prod.snd x2
          simp only at this
          omega
        · exact q
      have tl := tzc_le e kk
      obtain ⟨N', pre', below', r1, r2, r3⟩ := ih k x N pre below (by omega) (by omega) x1 x2 (hT.congr (fun a m => ⟨fun z => (cg a m).mp (Or.inl z), fun z => by
        rcases (cg a m).mpr z with q | ⟨rfl, rfl⟩
        · exact q
        · exact Or.inl hPre⟩) (fun _ _ _ => Iff.rfl)) (by omega)
      exact ⟨N', pre', below', (step (nodeBelow_old F hS hK (by omega) hb2 xb x0 (by omega))).trans r1, by omega, r3⟩
    · have dv : 2 ^ (kk + 1) ∣ e := Classical.byContradiction fun z => hPre (by rw [eL2]; exact hA (kk + 1) (by omega) (by omega) z)
      have tz : tzc e (kk + 1) = tzc e kk + 1 := by
        show tzc e kk + _ = _
        rw [if_pos dv]
      have nq : ¬ PreQ Pre0 e L (L - 1 - (kk + 1)) (e / 2 ^ (kk + 1)) (L - 1 - kk) := by
        rintro (z | ⟨z, _⟩)
        · exact hPre z
        · omega
      have nc' : ∀ s', ¬ Cod (e / 2 ^ (kk + 1)) (L - 1 - kk) s' := fun s' => by rw [eL2]; exact hB (kk + 1) s' (by omega)
      have h1 := hT.node hv hp hb2 (by rw [e2, eL]; exact nq) (by rw [e2, eL]; exact nc') (by omega)
      rw [e2, eL] at h1
      obtain ⟨N', pre', below', r1, r2, r3⟩ := ih k N (N + 1) _ _ (by omega) (by omega) (by omega) (if_pos rfl) (h1.congr cg (fun _ _ _ => Iff.rfl)) (by omega)
      exact ⟨N', pre', below', (step (nodeBelow_new F hS hK (by omega) hb2 (c3 (fun ⟨s', z⟩ => nc' s' z) nq) (by omega))).trans r1, by omega, r3⟩
theorem cnB.le {N N' j E : Nat} (h : cnB N j E) (hE : 0 < E) (hN : N' ≤ N) : cnB N' j E := by
  rcases h with ⟨h, _⟩ | ⟨h1, h2⟩
  · omega
  · exact Or.inr ⟨h1, by omega⟩
theorem forgeOne_eq (F : Nat) {io : Bool} {S K s E N : Nat} {len : Nat → Nat} {p : Nat → Bool} {pre : Nat → Nat × Nat} {below codes w : Nat → Int32} (hS : S ≤ 96) (hK : K ≤ 24) (hF : 24 < F) (h : Fg io S K len p E N pre below codes) (hs : s < S) (hw : w s = nI (len s)) (hl : 0 < len s) (hlK : len s ≤ K) (hp : p s = false) (hst : stO io S len s = E) (hd : 2 ^ (24 - len s) ∣ E) (hE : E + 2 ^ (24 - len s) ≤ 16777216) :
    ∃ (N' : Nat) (pre' : Nat → Nat × Nat) (below' codes' : Nat → Int32), fn_X10_forgeOne F (nI S) (nI K) S w S (2 * (S + K)) (nI N) codes below (nI s) (nI E) = some (nI (E + 2 ^ (24 - len s)), nI N', codes', below') ∧ Fg io S K len (ins p s) (E + 2 ^ (24 - len s)) N' pre' below' codes' ∧ N' ≤ S + K := by
  obtain ⟨h1, h2, h3, h4, h5⟩ := h
  have hpw : 0 < 2 ^ (24 - len s) := Nat.pow_pos (by decide)
  have e1 : 2 ^ (24 - len s) * (E / 2 ^ (24 - len s)) = E := Nat.mul_div_cancel' hd
  have ed : E / 2 ^ (24 - len s) ≤ E := Nat.div_le_self _ _
  have ecd : cd io S len s = E / 2 ^ (24 - len s) := by unfold cd; rw [hst]
  have hj : ncP len (ins p s) S = ncP len p S + 1 := by rw [ncP_ins hl hp, if_pos hs]
  have hjS := ncP_le len (ins p s) S
  obtain ⟨k1, k2⟩ := cnB_step (N := N) (j := ncP len p S) (e := E / 2 ^ (24 - len s)) (L := len s) (by omega) hl (by rw [e1]; exact h3)
  rw [e1] at k1
  have e24 : E / 2 ^ (24 - len s) / 2 ^ (len s - 1 + 1) = 0 := by
    rw [show len s - 1 + 1 = len s by omega, e_div (by omega) (Nat.le_refl _), show 24 - (len s - len s) = 24 by omega]
    exact Nat.div_eq_of_lt (by have : (2 : Nat) ^ 24 = 16777216 := by decide
                               omega)
  obtain ⟨N', pre', below', r1, r2, r3⟩ := path_loop F (S := S) (K := K) (s := s) (E := E) (L := len s) (e := E / 2 ^ (24 - len s)) (w := w) (codes := upd codes s (nI (E / 2 ^ (24 - len s)))) (Pre0 := PreP io S len p) (Cod := CodP io S len p) hS hK (by omega) (by omega)
    (fun k _ hk hn => til_A h2 (by omega) hd hk hn) (fun k s' hk => til_B h2 (by omega) hk) (til_C h2 (by omega) hl hd) (len s - 1) F 0 N pre below (by omega) (by omega) (by have := h4.1.2; omega) (by rw [h4.1.1, e24, show len s - 1 - (len s - 1) = 0 by omega]) (h4.congr (fun a m => ⟨fun z => Or.inl z, fun z => by
      rcases z with z | ⟨z1, z2⟩
      · exact z
      · have m0 : m = 0 := by omega
        subst m0
        rw [show len s - 0 = len s - 1 + 1 by omega, e24] at z2
        exact Or.inl ⟨z2, rfl⟩⟩) (fun _ _ _ => Iff.rfl)) (by omega)
  refine ⟨N', pre', below', upd codes s (nI (E / 2 ^ (24 - len s))), ?_, ⟨?_, ⟨fun x hx hxp hxl => ?_, fun _ => ⟨s, hs, ins_s p s, hl, by rw [hst]⟩, fun x hx => ?_⟩, ?_, r3.congr (fun a m => ?_) (fun a m x => ?_), fun x hx hxp hxl => ?_⟩, by omega⟩
  · unfold fn_X10_forgeOne bf_X10_forgeOne_0
    rw [if_neg (nI_in hs (by omega)), if_neg (nI_in hs (by omega)), nI_clamp (by omega), hw, show (24 : Int32) - nI (len s) = nI (24 - len s) from pk_sub (a := 24) (by omega), pk_shrN (by omega) _ (24 - len s) (s_l _ (by omega)), show nI (len s) - (1 : Int32) = nI (len s - 1) from pk_sub (b := 1) (by omega)]
    exact r1
  · rw [stA_ins hl hp, if_pos hs, ← h1]
  · by_cases e : x = s
    · subst e
      exact ⟨by omega, by rw [hst]; exact hd, by rw [hst]; exact Nat.le_refl _⟩
    · rw [ins_o e] at hxp
      obtain ⟨q1, q2, q3⟩ := h2.1 x hx hxp hxl
      exact ⟨q1, q2, by omega⟩
  · by_cases e : x < E
    · obtain ⟨s1, a1, a2, a3, a4⟩ := h2.2.2 x e
      exact ⟨s1, a1, by simp [ins, a2], a3, a4⟩
    · exact ⟨s, hs, ins_s p s, hl, by rw [hst]; omega, by rw [hst]; exact hx⟩
  · rw [hj]
    exact k1.le (by omega) r2
  · constructor
    · rintro ((z | ⟨x, z1, z2, z3, z4⟩) | ⟨z1, z2⟩)
      · exact Or.inl z
      · exact Or.inr ⟨x, z1, by simp [ins, z2], z3, z4⟩
      · exact Or.inr ⟨s, hs, ins_s p s, by omega, by rw [ecd]; exact z2.symm⟩
    · rintro (z | ⟨x, z1, z2, z3, z4⟩)
      · exact Or.inl (Or.inl z)
      · by_cases e : x = s
        · subst e
          exact Or.inr ⟨by omega, by rw [← ecd]; exact z4.symm⟩
        · rw [ins_o e] at z2
          exact Or.inl (Or.inr ⟨x, z1, z2, z3, z4⟩)
  · constructor
    · rintro (⟨z1, z2⟩ | ⟨z1, z2, rfl⟩)
      · exact ⟨by simp [ins, z1], z2⟩
      · exact ⟨ins_s p x, hs, hl, z2.symm, by rw [ecd]; exact z1.symm⟩
    · rintro ⟨z1, z2⟩
      by_cases e : x = s
      · subst e
        exact Or.inr ⟨by rw [← ecd]; exact z2.2.2.2.symm, z2.2.2.1.symm, rfl⟩
      · rw [ins_o e] at z1
        exact Or.inl ⟨z1, z2⟩
  · by_cases e : x = s
    · subst e
      rw [pk_us, ecd]
    · rw [pk_un e]
      rw [ins_o e] at hxp
      exact h5 x hx hxp hxl
