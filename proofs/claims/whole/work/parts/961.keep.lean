/-! key: going back from the last step. -/
section
variable {N M e : Nat} {ph q r par bb dp : Nat → Nat} {CX QX CM CB RM : Nat → Int32}
theorem Sr.rinj (hp : Bij M N ph) (h : Sr N M e ph q r par bb dp CX QX CM CB RM) {i j : Nat} (hi : i < e) (hj : j < e) (e1 : r i = r j) : i = j := by
  obtain ⟨a1, a2, a3, a4, _⟩ := h.2.1 i hi
  obtain ⟨b1, b2, b3, b4, _⟩ := h.2.1 j hj
  exact h.2.2.1 i j hi hj ((Rl.uniq hp a1 b1 a2 b2 a3 b3).mpr e1)
theorem p1024 {n x : Nat} (hn : n ≤ 10) (h : x < 2 ^ n) : x < 1024 := Nat.lt_of_lt_of_le h (Nat.pow_le_pow_right (by decide) hn : 2 ^ n ≤ 2 ^ 10)
theorem half {x b : Nat} (hx : x < 1024) (hb : b < 2) : nI (2 * x + b) >>> ((1 : Int32) &&& 31) = nI x := by
  rw [pk_shrN (by omega) _ 1 (by decide), show (2 * x + b) / 2 ^ 1 = x by omega]
theorem keep1_loop (F : Nat) (x1 : Int32) (hN : N ≤ 10) (h : Sr N M e ph q r par bb dp CX QX CM CB RM) : ∀ (i c k b : Nat) (ov : Int32) (w : Nat → Int32), i < e → b < 2 → c + dp i + 1 ≤ 1024 → dp i + 1 < k →
    ∃ w', lf_X2_keep_4 F 1024 CX (nI 1024) 32 k x1 (nI (2 * q i + b)) (nI c) (nI c) ov w = bf_X2_keep_43 F 1024 CX (nI 1024) 32 x1 (nI (c + dp i + 1)) ov w' := by
  intro i
  induction i using Nat.strongRecOn with
  | _ i ih =>
    intro c k b ov w hi hb hc hk
    obtain ⟨k, rfl⟩ : ∃ z, k = z + 1 := ⟨k - 1, by omega⟩
    have hq := p1024 hN (h.2.1 i hi).1
    obtain ⟨w1, a1, _⟩ := add_eq F w (N := 1024) (n := c) (nw := 32) ov false (by decide) (by omega) (by decide) (by decide)
    have st : lf_X2_keep_4 F 1024 CX (nI 1024) 32 (k + 1) x1 (nI (2 * q i + b)) (nI c) (nI c) ov w = lf_X2_keep_4 F 1024 CX (nI 1024) 32 k x1 (CX (q i)) (nI (c + 1)) (nI (c + 1)) ov w1 := by
      show bf_X2_keep_4 F 1024 CX (nI 1024) 32 (fun a b c d e f => lf_X2_keep_4 F 1024 CX (nI 1024) 32 k a b c d e f) x1 (nI (2 * q i + b)) (nI c) (nI c) ov w = _
      unfold bf_X2_keep_4
      rw [if_neg (nI_ge (by omega) (by decide)), if_neg (nI_nm1 (by omega)), show fn_X0_add F (nI 1024) 32 (nI c) ov w 0 = _ from a1, bs, half hq hb, if_neg (nI_in hq (by decide)), nI_clamp (by omega), show nI c + (1 : Int32) = nI (c + 1) from nI_add c 1]
    by_cases e0 : i = 0
    · subst e0
      rw [st, h.2.2.2.2.1.1]
      refine ⟨w1, ?_⟩
      obtain ⟨k, rfl⟩ : ∃ z, k = z + 1 := ⟨k - 1, by omega⟩
      show bf_X2_keep_4 F 1024 CX (nI 1024) 32 (fun a b c d e f => lf_X2_keep_4 F 1024 CX (nI 1024) 32 k a b c d e f) x1 (-1) (nI (c + 1)) (nI (c + 1)) ov w1 = _
      unfold bf_X2_keep_4
      rw [if_pos rfl, h.1.2.2.2.2]
      by_cases z : (nI 1024 ≤ nI (c + 1))
      · rw [if_pos z]
      · rw [if_neg z]
    · obtain ⟨p1, p2, p3, p4, _⟩ := h.2.2.2.1 i (by omega) hi
      rw [st, p4]
      obtain ⟨w2, r1⟩ := ih (par i) p1 (c + 1) k (bb i) ov w1 (by omega) p2 (by omega) (by omega)
      exact ⟨w2, r1.trans (by rw [show c + 1 + dp (par i) + 1 = c + dp i + 1 by omega])⟩
theorem tell1_loop (F : Nat) (x1 x2 kl : Int32) (hp : Bij M N ph) (hN : N ≤ 10) (hM : M ≤ 10) (key : Nat → Int32) (h : Sr N M e ph q r par bb dp CX QX CM CB RM) : ∀ (i c k : Nat), i < e → c + dp i ≤ 1024 → 1 ≤ c → dp i < k →
    lf_X12_tellKey_6 F 1024 CM 1024 CB 1024 k x1 x2 (nI (2 ^ M - 1)) (nI c) (nI (r i)) kl key = lf_X12_tellKey_52 F 1024 CM 1024 CB 1024 F (nI (2 ^ M - 1)) (nI (c + dp i) - 2) x1 (nI (c + dp i)) (upd key (c + dp i - 1) x2) := by
  intro i
  induction i using Nat.strongRecOn with
  | _ i ih =>
    intro c k hi hc hc1 hk
    obtain ⟨k, rfl⟩ : ∃ z, k = z + 1 := ⟨k - 1, by omega⟩
    have hr := p1024 hM (h.2.1 i hi).2.1
    have h0 := p1024 hM (h.2.1 0 (by omega)).2.1
    rw [h.1.2.2.2.1] at h0
    show bf_X12_tellKey_6 F 1024 CM 1024 CB 1024 (fun a b c d e f g => lf_X12_tellKey_6 F 1024 CM 1024 CB 1024 k a b c d e f g) x1 x2 (nI (2 ^ M - 1)) (nI c) (nI (r i)) kl key = _
    unfold bf_X12_tellKey_6
    by_cases e0 : i = 0
    · subst e0
      rw [if_pos (by rw [h.1.2.2.2.1]), show nI c - (1 : Int32) = nI (c - 1) from pk_sub (b := 1) hc1, if_neg (nI_in (by have := h.1.2.2.2.2; omega) (by decide)), nI_clamp (by omega), h.1.2.2.2.2]
      rfl
    · obtain ⟨p1, p2, p3, p4, p5, p6⟩ := h.2.2.2.1 i (by omega) hi
      rw [if_neg (fun z => e0 (h.rinj hp hi (by omega) (by rw [h.1.2.2.2.1]; exact (nI_eq (by omega) (by omega)).mp z))), if_neg (nI_in hr (by decide)), nI_clamp (by omega), p5, show nI c + (1 : Int32) = nI (c + 1) from nI_add c 1]
      refine (ih (par i) p1 (c + 1) k (by omega) (by omega) (by omega) (by omega)).trans ?_
      rw [show c + 1 + dp (par i) = c + dp i by omega]
theorem back_loop (F : Nat) (kl : Int32) {n : Nat} (hp : Bij M N ph) (hN : N ≤ 10) (hM : M ≤ 10) (hn : n ≤ 1024) (h : Sr N M e ph q r par bb dp CX QX CM CB RM) : ∀ (i k k' b : Nat) (ov : Int32) (w key : Nat → Int32), i < e → b < 2 → dp i < n → dp i + 1 < k → dp i < k' → key (dp i) = nI b →
    ∃ w' key', lf_X2_keep_55 F 1024 CX (nI 1024) 32 k (nI (2 * q i + b)) (nI (dp i)) (nI n) ov w = some (nI n, nI n, ov, w') ∧ lf_X12_tellKey_52 F 1024 CM 1024 CB 1024 k' (nI (2 ^ M - 1)) (xm (dp i)) (nI (r i)) kl key = some (kl, key') ∧ (∀ m, m ≤ dp i → key' m = b01 (wbit w' m)) ∧ ∀ m, dp i < m → wbit w' m = wbit w m ∧ key' m = key m := by
  intro i
  induction i using Nat.strongRecOn with
  | _ i ih =>
    intro k k' b ov w key hi hb hd hk hk' hkey
    obtain ⟨k, rfl⟩ : ∃ z, k = z + 1 := ⟨k - 1, by omega⟩
    obtain ⟨k', rfl⟩ : ∃ z, k' = z + 1 := ⟨k' - 1, by omega⟩
    have hq := p1024 hN (h.2.1 i hi).1
    have hr := p1024 hM (h.2.1 i hi).2.1
    have h0 := p1024 hM (h.2.1 0 (by omega)).2.1
    rw [h.1.2.2.2.1] at h0
    obtain ⟨bl, hbl⟩ : ∃ bl : Bool, nI b = b01 bl := by
      have : b = 0 ∨ b = 1 := by omega
      rcases this with rfl | rfl
      · exact ⟨false, rfl⟩
      · exact ⟨true, rfl⟩
    obtain ⟨w1, s1, s2⟩ := set_eq F w (n := n) (nw := 32) (j := dp i) bl (by omega) hd (by omega) (by decide)
    have st : lf_X2_keep_55 F 1024 CX (nI 1024) 32 (k + 1) (nI (2 * q i + b)) (nI (dp i)) (nI n) ov w = lf_X2_keep_55 F 1024 CX (nI 1024) 32 k (CX (q i)) (xm (dp i)) (nI n) ov w1 := by
      show bf_X2_keep_55 F 1024 CX (nI 1024) 32 (fun a b c d e => lf_X2_keep_55 F 1024 CX (nI 1024) 32 k a b c d e) (nI (2 * q i + b)) (nI (dp i)) (nI n) ov w = _
      unfold bf_X2_keep_55
      rw [if_neg (nI_pos (by omega)), pk_andN (n := 2 * q i + b) (m := 1) (by omega) 1 (by decide), show (2 * q i + b) % 2 ^ 1 = b by omega, hbl, s1, bs, half hq hb, if_neg (nI_in hq (by decide)), nI_clamp (by omega), xm_m]
    rw [st]
    have um : lf_X12_tellKey_52 F 1024 CM 1024 CB 1024 (k' + 1) (nI (2 ^ M - 1)) (xm (dp i)) (nI (r i)) kl key = bf_X12_tellKey_52 F 1024 CM 1024 CB 1024 (fun a b c d e => lf_X12_tellKey_52 F 1024 CM 1024 CB 1024 k' a b c d e) (nI (2 ^ M - 1)) (xm (dp i)) (nI (r i)) kl key := rfl
    by_cases e0 : i = 0
    · subst e0
      have d0 : dp 0 = 0 := h.1.2.2.2.2
      refine ⟨w1, key, ?_, ?_, fun m hm => ?_, fun m hm => ⟨?_, rfl⟩⟩
      · obtain ⟨k, rfl⟩ : ∃ z, k = z + 1 := ⟨k - 1, by omega⟩
        show bf_X2_keep_55 F 1024 CX (nI 1024) 32 (fun a b c d e => lf_X2_keep_55 F 1024 CX (nI 1024) 32 k a b c d e) (CX (q 0)) (xm (dp 0)) (nI n) ov w1 = _
        unfold bf_X2_keep_55
        rw [d0, if_pos xm_0]
      · rw [um]
        unfold bf_X12_tellKey_52
        rw [if_pos (by rw [h.1.2.2.2.1])]
      · obtain rfl : m = dp 0 := by omega
        rw [hkey, s2, if_pos rfl, hbl]
      · rw [s2, if_neg (by omega)]
    · obtain ⟨p1, p2, p3, p4, p5, p6⟩ := h.2.2.2.1 i (by omega) hi
      obtain ⟨w', key', r1, r2, r3, r4⟩ := ih (par i) p1 k k' (bb i) ov w1 (upd key (dp (par i)) (nI (bb i))) (by omega) p2 (by omega) (by omega) (by omega) pk_us
      refine ⟨w', key', ?_, ?_, fun m hm => ?_, fun m hm => ?_⟩
      · rw [p4, p3, xm_s]
        exact r1
      · rw [um]
        unfold bf_X12_tellKey_52
        rw [if_neg (fun z => e0 (h.rinj hp hi (by omega) (by rw [h.1.2.2.2.1]; exact (nI_eq (by omega) (by omega)).mp z))), p3, xm_s, if_neg (nI_in hr (by decide)), if_neg (nI_in (by omega) (by decide)), if_neg (nI_in hr (by decide)), nI_clamp (by omega), nI_clamp (by omega), p5, p6, xm_m]
        exact r2
      · by_cases q1 : m ≤ dp (par i)
        · exact r3 m q1
        · obtain rfl : m = dp i := by omega
          obtain ⟨y1, y2⟩ := r4 (dp i) (by omega)
          rw [y2, y1, pk_un (by omega), hkey, s2, if_pos rfl, hbl]
      · obtain ⟨y1, y2⟩ := r4 m (by omega)
        rw [y1, y2, pk_un (by omega), s2, if_neg (by omega)]
        exact ⟨rfl, rfl⟩
theorem xm_2 (d : Nat) : nI (d + 1) - 2 = xm d := by
  unfold xm
  rw [← nI_succ d |>.symm]
  show nI d + 1 - 2 = nI d - 1
  grind
/-- both tell the same key -/
theorem keep_eq (F : Nat) {i b : Nat} (kl ov : Int32) (w key : Nat → Int32) (hF : 5000 < F) (hp : Bij M N ph) (hN : N ≤ 10) (hM : M ≤ 10) (h : Sr N M e ph q r par bb dp CX QX CM CB RM) (hi : i < e) (hb : b < 2) :
    ∃ (n : Nat) (w' key' : Nat → Int32), n ≤ 1024 ∧ fn_X2_keep F 1024 CX (nI 1024) 32 (nI 0) ov w (nI (2 * q i + b)) = some (nI n, nI n, ov, w') ∧ fn_X12_tellKey F 1024 CM 1024 CB 1024 kl key (nI (r i)) (nI b) (nI (2 ^ M - 1)) = some (nI n, key') ∧ ∀ m, m < n → key' m = b01 (wbit w' m) := by
  have hdi := (h.2.1 i hi).2.2.2.2.2
  have he := h.1.2.1
  obtain ⟨w1, a1⟩ := keep1_loop F (nI (2 * q i + b)) hN h i 0 F b ov w hi hb (by omega) (by omega)
  have a2 := tell1_loop F (nI (r i)) (nI b) kl hp hN hM key h i 1 F hi (by omega) (by omega) (by omega)
  obtain ⟨w', key', r1, r2, r3, r4⟩ := back_loop F (nI (dp i + 1)) (n := dp i + 1) hp hN hM (by omega) h i F F b ov w1 (upd key (dp i) (nI b)) hi hb (by omega) (by omega) (by omega) pk_us
  refine ⟨dp i + 1, w', key', by omega, ?_, ?_, fun m hm => r3 m (by omega)⟩
  · refine Eq.trans (show fn_X2_keep F 1024 CX (nI 1024) 32 (nI 0) ov w (nI (2 * q i + b)) = _ from a1) ?_
    unfold bf_X2_keep_43
    rw [Nat.zero_add, show nI (dp i + 1) - (1 : Int32) = nI (dp i) from nI_pred (dp i)]
    exact r1
  · refine Eq.trans (show fn_X12_tellKey F 1024 CM 1024 CB 1024 kl key (nI (r i)) (nI b) (nI (2 ^ M - 1)) = _ from a2) ?_
    rw [Nat.add_comm 1 (dp i), xm_2, Nat.add_sub_cancel]
    exact r2
end
