section
/-! build. -/
theorem measB {ci : Nat → Int32} {ca : Nat → Nat → Int32} {mi : Nat → Int32} {ma : Nat → Nat → Int32} {S K T n : Nat} {wt : Nat → Nat} {x1 : Int32} {w used counts : Nat → Int32} (hS2 : 2 ≤ S) (hS : S ≤ 96) (hK1 : 1 ≤ K) (hK : K ≤ 24) (hn1 : 1 ≤ n) (hnS : n ≤ S) (hnK : n ≤ 2 ^ K) (hw : ∀ k, k < n → wt k ≤ 600 ∧ w k = nI (wt k) ∧ counts k = nI (wt k)) (hw0 : ∀ k, k < n → 0 < wt k) (hx : x1 = 0 ∨ x1 = 1 ∨ x1 = 2 ∨ x1 = 3 ∨ x1 = 4) :
    ∃ (v : (Nat → Int32) × (Nat → Int32) × Int32 × Int32 × Int32 × (Nat → Int32) × (Nat → Int32) × (Nat → Int32) × (Nat → Int32) × Nat × (Nat → Int32) × Nat × (Nat → Int32) × Int32 × Int32 × (Nat → Int32) × Int32 × (Nat → Int32) × (Nat → Int32) × (Nat → Int32) × (Nat → Int32) × Int32 × (Nat → Int32) × (Nat → Int32)) (d : Nat → Nat) (found we ab od it il ls sm lf pi : Nat → Int32), (fn_X11_measure FU (nI n) S w S S (2 * S) (2 * S) (2 * S) S (nI K) (nI (2 * S)) (nI (K * (2 * S))) ((K * (2 * S) + 31) / 32) S S (tri S) (S + 1) S S (ca 13) (ca 15) (ci 16) (ci 17) (ci 18) (ca 20) (ca 22) (ca 24) (ca 26) (2 * S) (ca 30) (2 * S) (ca 32) (ci 34) (ci 35) (ca 37) (ci 38) (ca 40) (ca 42) (ca 44) (ca 46) (ci 47) (ca 49) (ca 51) x1) = some v ∧ (if (nI n) = (1 : Int32) then (if (0 : Int32) < 0 ∨ 96 ≤ ((0 : Int32)).toNatClampNeg then none else bf_X12_build_114 FU (nI S) (nI K) (nI T) 600 (ma 14) 96 96 96 96 96 192 192 96 4800 4800 25 9409 9409 400 x1 (mi 3) (mi 4) (nI n) (ma 16) (ma 18) used counts (upd (ma 28) ((0 : Int32)).toNatClampNeg (1 : Int32)) (ma 30) (ma 32) (ma 34) (ma 36) (ma 38) (ma 40) (ma 42) (ma 44) (ma 46)) else (if x1 = 0 then ((fn_X12_byHeap FU (nI n) 96 counts 96 192 192 (ma 28) (ma 30) (ma 32)).bind fun v68 => bf_X12_build_114 FU (nI S) (nI K) (nI T) 600 (ma 14) 96 96 96 96 96 192 192 96 4800 4800 25 9409 9409 400 x1 (mi 3) (mi 4) (nI n) (ma 16) (ma 18) used counts v68.1 v68.2.1 v68.2.2 (ma 34) (ma 36) (ma 38) (ma 40) (ma 42) (ma 44) (ma 46)) else (if x1 = (1 : Int32) then ((fn_X12_byQueues FU (nI n) 96 counts 96 192 192 96 (ma 28) (ma 30) (ma 32) (ma 34)).bind fun v80 => bf_X12_build_114 FU (nI S) (nI K) (nI T) 600 (ma 14) 96 96 96 96 96 192 192 96 4800 4800 25 9409 9409 400 x1 (mi 3) (mi 4) (nI n) (ma 16) (ma 18) used counts v80.1 v80.2.1 v80.2.2.1 v80.2.2.2 (ma 36) (ma 38) (ma 40) (ma 42) (ma 44) (ma 46)) else (if x1 = (2 : Int32) then ((fn_X12_byPackages FU (nI K) (nI n) 96 counts 96 96 4800 4800 25 (ma 28) (ma 34) (ma 36) (ma 38) (ma 40)).bind fun v92 => bf_X12_build_114 FU (nI S) (nI K) (nI T) 600 (ma 14) 96 96 96 96 96 192 192 96 4800 4800 25 9409 9409 400 x1 (mi 3) (mi 4) (nI n) (ma 16) (ma 18) used counts v92.1 (ma 30) (ma 32) v92.2.1 v92.2.2.1 v92.2.2.2.1 v92.2.2.2.2 (ma 42) (ma 44) (ma 46)) else (if x1 = (3 : Int32) then ((fn_X12_inOrders FU (nI n) 96 counts 96 9409 9409 400 (ma 28) (ma 42) (ma 44) (ma 46)).bind fun v104 => bf_X12_build_114 FU (nI S) (nI K) (nI T) 600 (ma 14) 96 96 96 96 96 192 192 96 4800 4800 25 9409 9409 400 x1 (mi 3) (mi 4) (nI n) (ma 16) (ma 18) used counts v104.1 (ma 30) (ma 32) (ma 34) (ma 36) (ma 38) (ma 40) v104.2.1 v104.2.2.1 v104.2.2.2) else ((fn_X12_byHalves FU (nI n) 96 counts 96 96 400 (ma 28) (ma 34) (ma 46)).bind fun v111 => bf_X12_build_114 FU (nI S) (nI K) (nI T) 600 (ma 14) 96 96 96 96 96 192 192 96 4800 4800 25 9409 9409 400 x1 (mi 3) (mi 4) (nI n) (ma 16) (ma 18) used counts v111.1 (ma 30) (ma 32) v111.2.1 (ma 36) (ma 38) (ma 40) (ma 42) (ma 44) v111.2.2)))))) = bf_X12_build_114 FU (nI S) (nI K) (nI T) 600 (ma 14) 96 96 96 96 96 192 192 96 4800 4800 25 9409 9409 400 x1 (mi 3) (mi 4) (nI n) (ma 16) (ma 18) used counts found we ab od it il ls sm lf pi ∧
      Msr n d ∧ (x1 = 3 → Evn n d) ∧ (n = 1 → d 0 = 1) ∧ (∀ x, x < n → v.1 x = nI (d x) ∧ found x = nI (d x)) ∧ v.2.2.2.2.2.2.2.2.2.1 = 2 * S ∧ v.2.2.2.2.2.2.2.2.2.2.2.1 = 2 * S := by
  have hF : 1000 < FU := by unfold FU; omega
  unfold fn_X11_measure bf_X11_measure_0
  by_cases e1 : n = 1
  · subst e1
    have e11 : nI 1 = (1 : Int32) := rfl
    rw [if_pos e11, if_neg (show ¬ ((0 : Int32) < 0 ∨ S ≤ (0 : Int32).toNatClampNeg) from gin (i := 0) (by omega) (by omega)), if_pos e11, if_neg (show ¬ ((0 : Int32) < 0 ∨ 96 ≤ (0 : Int32).toNatClampNeg) from gin (i := 0) (by omega) (by omega))]
    refine ⟨_, fun _ => 1, _, _, _, _, _, _, _, _, _, _, rfl, rfl, ⟨fun k _ => (by decide : 1 ≤ 200), fun _ => ⟨by decide, 0, by omega, (by decide : 0 < 1)⟩⟩, fun _ => ⟨fun k _ => (by decide : 0 < 1), fun _ k hk => ?_⟩, fun _ => rfl, fun x hx => ?_, rfl, rfl⟩
    · obtain rfl : k = 0 := by omega
      exact ⟨0, rfl⟩
    · obtain rfl : x = 0 := by omega
      have e0 : (0 : Int32).toNatClampNeg = 0 := rfl
      show upd (ca 13) (0 : Int32).toNatClampNeg 1 0 = 1 ∧ upd (ma 28) (0 : Int32).toNatClampNeg 1 0 = 1
      rw [e0]
      exact ⟨pk_us, pk_us⟩
  have e2 : ¬ nI n = (1 : Int32) := fun z => e1 ((nI_eq (a := n) (b := 1) (by omega) (by decide)).mp z)
  have hn : 2 ≤ n := by omega
  rw [if_neg e2, if_neg e2]
  rcases hx with rfl | rfl | rfl | rfl | rfl
  · obtain ⟨d, x1, x2, x3, x4, x5, dB', f', y1, y2, a1, a2, a3, a4⟩ := heap_eq FU (w0 := w) (cM := counts) (ci 16) (ca 20) (ca 22) (ca 24) (ca 26) (ca 13) (ma 30) (ma 32) (ma 28) hF hS hn hnS (fun x hx => (hw x hx).2.1.trans (hw x hx).2.2.symm)
    rw [if_pos rfl, a2, bs, if_pos rfl, a3, bs]
    exact ⟨_, d, _, _, _, _, _, _, _, _, _, _, rfl, rfl, a1, fun z => absurd z (by decide), fun z => absurd z e1, a4, rfl, rfl⟩
  · obtain ⟨d, x1, x2, x3, x4, x5, dB', x6, f', y1, y2, y3, a1, a2, a3, a4⟩ := queues_eq FU (w0 := w) (cM := counts) (wt := wt) (ci 17) (ci 18) (ca 20) (ca 22) (ca 24) (ca 13) (ca 15) (ma 30) (ma 32) (ma 28) (ma 34) hF hS hn hnS hw
    rw [if_neg (by decide), if_pos rfl, a2, bs, if_neg (by decide), if_pos rfl, a3, bs]
    exact ⟨_, d, _, _, _, _, _, _, _, _, _, _, rfl, rfl, a1, fun z => absurd z (by decide), fun z => absurd z e1, a4, rfl, rfl⟩
  · obtain ⟨d, ws', wb', mk', dB', liX', f', o', it', il', ls', msz', mov', a1, a5, a2, a3, a4⟩ := packages_eq FU (S := S) (n := n) (K := K) (nw := (K * (2 * S) + 31) / 32) (wt := wt) (w0 := w) (cM := counts) (ca 30) (ca 32) (ca 37) (ca 13) (ca 15) (ma 28) (ma 34) (ma 36) (ma 38) (ma 40) (ci 34) (ci 35) hF hS hn hnS hK hK1 hnK (by omega) (by have : K * (2 * S) ≤ 24 * (2 * 96) := Nat.mul_le_mul hK (by omega); omega) hw hw0
    rw [if_neg (by decide), if_neg (by decide), if_pos rfl, a2, bs, if_neg (by decide), if_neg (by decide), if_pos rfl, a3, bs]
    exact ⟨_, d, _, _, _, _, _, _, _, _, _, _, rfl, rfl, a1, fun z => absurd z (by decide), fun z => absurd z e1, a4, rfl, rfl⟩
  · obtain ⟨d, x1, x2, x3, x4, x5, dB', x6, f', y1, y2, y3, a1, a5, a2, a3, a4⟩ := orders_eq FU (w0 := w) (cM := counts) (wt := wt) (ci 38) (ca 40) (ca 42) (ca 44) (ca 46) (ca 13) (ca 15) (ma 28) (ma 42) (ma 44) (ma 46) hF hS hn hnS hw
    rw [if_neg (by decide), if_neg (by decide), if_neg (by decide), if_pos rfl, a2, bs, if_neg (by decide), if_neg (by decide), if_neg (by decide), if_pos rfl, a3, bs]
    exact ⟨_, d, _, _, _, _, _, _, _, _, _, _, rfl, rfl, a1, fun _ => a5, fun z => absurd z e1, a4, rfl, rfl⟩
  · obtain ⟨d, x1, x2, x3, dB', x4, f', y1, y2, a1, a2, a3, a4⟩ := halves_eq FU (w0 := w) (cM := counts) (wt := wt) (ci 47) (ca 49) (ca 51) (ca 13) (ca 15) (ma 28) (ma 34) (ma 46) hF hS hn hnS hw
    rw [if_neg (by decide), if_neg (by decide), if_neg (by decide), if_neg (by decide), a2, bs, if_neg (by decide), if_neg (by decide), if_neg (by decide), if_neg (by decide), a3, bs]
    exact ⟨_, d, _, _, _, _, _, _, _, _, _, _, rfl, rfl, a1, fun z => absurd z (by decide), fun z => absurd z e1, a4, rfl, rfl⟩
theorem tri_h (S : Nat) : S * (S + 1) / 2 = tri S := by
  rw [tri_2]; omega
theorem sim_build : Sim_build FU Inv := by
  intro ci cn ca mi mn ma x1 hI
  obtain ⟨S, K, T, t, len, nb, no, nk, hC, hM, hT, hLn, hB, hO, hKy, hP⟩ := id hI
  have hS2 : 2 ≤ S := hC.1.1
  have hS : S ≤ 96 := hC.1.2.1
  have hK1 : 1 ≤ K := hC.1.2.2.1
  have hK : K ≤ 24 := hC.1.2.2.2
  have hF : 1000 < FU := by unfold FU; omega
  obtain ⟨⟨hT6, c2, m2⟩, hT2, hT3⟩ := id hT
  have ge : gX_build FU ci cn ca x1 = fn_X11_build FU (nI K) (nI T) S (ca 6) S S S S (2 * S) (2 * S) (2 * S) S (nI K) (nI (2 * S)) (nI (K * (2 * S))) ((K * (2 * S) + 31) / 32) S S (tri S) (S + 1) S S (nI S) (nI K) S S (2 * (S + K)) (ci 7) (ca 9) (ca 11) (ca 13) (ca 15) (ci 16) (ci 17) (ci 18) (ca 20) (ca 22) (ca 24) (ca 26) (2 * S) (ca 30) (2 * S) (ca 32) (ci 34) (ci 35) (ca 37) (ci 38) (ca 40) (ca 42) (ca 44) (ca 46) (ci 47) (ca 49) (ca 51) (ci 65) (ci 66) (ci 67) (ci 68) (ca 70) (ca 72) (ca 74) x1 := by
    have a4 := hC.2.2.2.1
    have a5 := hC.2.2.2.2.1
    have a6 := hC.2.2.2.2.2.1
    have a7 := hC.2.2.2.2.2.2.1
    have a9 := hC.2.2.2.2.2.2.2.2.1
    unfold gX_build
    rw [hC.2.1.2, c2, hC.2.2.1.2, a4.1, a4.2.1, a4.2.2.1, a4.2.2.2, a5.1, a5.2.1, a5.2.2.1, a5.2.2.2, a6.1, a6.2.1, a6.2.2.1, a6.2.2.2.1, a6.2.2.2.2.1, a6.2.2.2.2.2, a7.1, a7.2.1, a7.2.2.1, a7.2.2.2.1, a7.2.2.2.2.1, a7.2.2.2.2.2, a9.1, a9.2.1, a9.2.2.1, a9.2.2.2.1, a9.2.2.2.2, tri_h]
  have gm : gM_build FU mi mn ma x1 = fn_X12_build FU (nI S) (nI K) (nI T) 600 (ma 14) 96 96 96 96 96 192 192 96 4800 4800 25 9409 9409 400 (mi 3) (mi 4) (mi 8) (ma 16) (ma 18) (ma 24) (ma 26) (ma 28) (ma 30) (ma 32) (ma 34) (ma 36) (ma 38) (ma 40) (ma 42) (ma 44) (ma 46) x1 := by
    have b2 := hM.2.1
    have b3 := hM.2.2.1
    have b4 := hM.2.2.2.1
    have b5 := hM.2.2.2.2.1
    unfold gM_build
    rw [hM.1.1, hM.1.2, m2, b2.1, b2.2.1, b2.2.2.1, b3.1, b3.2.1, b3.2.2.1, b3.2.2.2.1, b3.2.2.2.2.1, b3.2.2.2.2.2, b4.1, b4.2.1, b4.2.2, b5.1, b5.2.1, b5.2.2]
  have h29 : cn 29 = 2 * S := hC.2.2.2.2.2.1.2.2.1
  have h31 : cn 31 = 2 * S := hC.2.2.2.2.2.1.2.2.2.1
  unfold fn_X11_build bf_X11_build_0 at ge
  unfold fn_X12_build bf_X12_build_0 at gm
  have out : (x1 < 0 ∨ nI 5 ≤ x1) → ∃ r r', gX_build FU ci cn ca x1 = some r ∧ gM_build FU mi mn ma x1 = some r' ∧ r.1 = r'.1 ∧ Inv (uXi_build r ci) (uXn_build r cn) (uXa_build r ca) (uMi_build r' mi) (uMn_build r' mn) (uMa_build r' ma) := fun h => by
    rw [show fn_X12_within FU x1 0 4 = some 0 from wi_out FU (n := 5) (by decide) h, bs, if_pos rfl] at gm
    by_cases h0 : x1 < 0
    · rw [if_pos h0] at ge
      exact ⟨_, _, ge, gm, rfl, bfin _ _ hC hM hT hB hO hKy hP rfl rfl (len := len) hLn⟩
    · have h5 : ¬ x1 ≤ 4 := fun z => by
        rcases h with h | h
        · exact h0 h
        · exact absurd (Int32.le_trans h z) (by decide)
      rw [if_neg h0, if_neg h5] at ge
      exact ⟨_, _, ge, gm, rfl, bfin _ _ hC hM hT hB hO hKy hP rfl rfl (len := len) hLn⟩
  rcases pk_ix x1 (n := 5) (by decide) with h | h | ⟨j, hj, rfl⟩
  · exact out (Or.inl h)
  · exact out (Or.inr h)
  rw [if_neg (nI_pos (n := j) (by omega)), if_pos (show nI j ≤ 4 from nI_le (b := 4) (by omega) (by decide))] at ge
  rw [show fn_X12_within FU (nI j) 0 4 = some 1 from wi_in FU (n := 5) (by decide) hj, bs, if_neg (show ¬ (1 : Int32) = 0 by decide)] at gm
  by_cases hT0 : T = 0
  · have z : nI T = 0 := by rw [hT0]; rfl
    rw [if_pos z] at ge gm
    exact ⟨_, _, ge, gm, rfl, bfin _ _ hC hM hT hB hO hKy hP rfl rfl (len := len) hLn⟩
  have z : ¬ nI T = 0 := fun z => hT0 ((nI_e0 (by omega)).mp z)
  rw [if_neg z] at ge gm
  obtain ⟨us, sy, w, used, counts, u1, u2, hU, u4⟩ := used_loop FU (S := S) (T := T) (t := t) (cX := ca 6) (tM := ma 14) hF hS hT6 hT3 (fun k hk => ⟨(hT2 k hk).1, (hT2 k hk).2.2⟩) S 0 FU FU (fun _ => 0) (ca 9) (ca 11) (ma 24) (ma 26) (by omega) (by omega) (by omega) ⟨fun k hk => absurd hk (Nat.not_lt_zero _), fun k l _ hl => absurd hl (Nat.not_lt_zero _), fun x hx => absurd hx (Nat.not_lt_zero _), fun k hk => absurd hk (Nat.not_lt_zero _)⟩ (fun j hj => absurd hj (Nat.not_lt_zero _))
  rw [show fn_X3_gather FU S S S (ca 6) (ci 7) (ca 9) (ca 11) = _ from u1, bs] at ge
  rw [show fn_X12_findUsed FU (nI S) (nI T) 600 (ma 14) 96 96 (mi 8) (ma 24) (ma 26) = _ from u2, bs] at gm
  have hn1 : 1 ≤ nc (cnt t T) S := by
    refine nc_in (s := t (T - 1)) ?_ S (hT2 (T - 1) (by omega)).1
    obtain ⟨T', rfl⟩ : ∃ T', T = T' + 1 := ⟨T - 1, by omega⟩
    show 0 < cnt t T' _ + (if t T' = t (T' + 1 - 1) then 1 else 0)
    rw [Nat.add_sub_cancel, if_pos rfl]; omega
  have hnS := nc_le (cnt t T) S
  generalize hn : nc (cnt t T) S = n at *
  have h2K : 2 ^ K ≤ 2 ^ 24 := Nat.pow_le_pow_right (by decide) hK
  rw [shl_1 (show K < 31 by omega)] at ge gm
  by_cases hnK : n ≤ 2 ^ K
  · rw [if_pos (show nI n ≤ nI (2 ^ K) from nI_le hnK (by omega))] at ge gm
    have hx : nI j = 0 ∨ nI j = 1 ∨ nI j = 2 ∨ nI j = 3 ∨ nI j = 4 := by
      have : j = 0 ∨ j = 1 ∨ j = 2 ∨ j = 3 ∨ j = 4 := by omega
      rcases this with rfl | rfl | rfl | rfl | rfl
      · exact Or.inl rfl
      · exact Or.inr (Or.inl rfl)
      · exact Or.inr (Or.inr (Or.inl rfl))
      · exact Or.inr (Or.inr (Or.inr (Or.inl rfl)))
      · exact Or.inr (Or.inr (Or.inr (Or.inr rfl)))
    have hwt : ∀ k, k < n → cnt t T (us k) ≤ 600 ∧ 0 < cnt t T (us k) := fun k hk => ⟨by have := cnt_le t (us k) T; omega, (hU.1 k hk).2⟩
    obtain ⟨v, d, found, we, ab, od, it, il, ls, sm, lf, pi, p1, p2, p3, p4, p5, p6, p7, p8⟩ := measB (ci := ci) (ca := ca) (mi := mi) (ma := ma) (S := S) (K := K) (T := T) (n := n) (wt := fun k => cnt t T (us k)) (x1 := nI j) (w := w) (used := used) (counts := counts) hS2 hS hK1 hK hn1 hnS hnK (fun k hk => ⟨(hwt k hk).1, (u4 k hk).2.2.1, (u4 k hk).2.2.2⟩) (fun k hk => (hwt k hk).2) hx
    rw [p1, bs] at ge
    rw [p2] at gm
    obtain ⟨r, r', q1, q2, q3, q4⟩ := restB (S := S) (K := K) (T := T) (n := n) (g := cnt t T) (d := d) (wt := fun k => cnt t T (us k)) (x1 := nI j) (sy := sy) (w := w) (used := used) (counts := counts) (found := found) (we := we) (ab := ab) (od := od) (it := it) (il := il) (ls := ls) (sm := sm) (lf := lf) (pi := pi) v hC hM hT hB hO hKy hP hLn hn1 hn hnK hU (fun x hx => ⟨(u4 x hx).1, (u4 x hx).2.2.1, (p6 x hx).1⟩) (fun x hx => ⟨(u4 x hx).2.1, (u4 x hx).2.2.2, (p6 x hx).2⟩) hwt p7 p8 p3 p4 p5 hx
    exact ⟨r, r', ge.trans q1, gm.trans q2, q3, q4⟩
  · rw [if_neg (show ¬ nI n ≤ nI (2 ^ K) from nI_ge (by omega) (by omega))] at ge gm
    exact ⟨_, _, ge, gm, rfl, bfin _ _ hC hM hT hB hO hKy hP rfl rfl (len := len) hLn⟩
end
