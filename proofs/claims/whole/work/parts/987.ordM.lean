/-! build: IN ORDER, the class's rounds. -/
theorem parts_X5 (F : Nat) {S n : Nat} {mid : Nat → Nat → Nat} {li : Nat → Nat} {nb : Nat} {best line : Nat → Int32} (hF : 1000 < F) (hS : S ≤ 96) (hn : n ≤ S) (hP : Prm n li) (hl : ∀ i, i < n → line i = nI (li i)) (hm : Mid n mid) (hmid : ∀ s e, s + 2 ≤ e → e ≤ n → fn_X5_middle F nb best (nI s) (nI e) = some (nI (mid s e))) : ∀ (sz s e h k r : Nat) (pS pE dX : Nat → Int32), e - s = sz → s < e → e ≤ n → h ≤ s → pS h = nI s → pE h = nI e → r + (2 * (e - s) - 1) ≤ 2 * n - 1 →
    ∃ (pS' pE' dX' : Nat → Int32), lf_X7_partAll_X5_24 F S S nb best (nI n) S S line (k + (2 * (e - s) - 1)) (nI r) (nI (h + 1)) pS pE dX = lf_X7_partAll_X5_24 F S S nb best (nI n) S S line k (nI (r + (2 * (e - s) - 1))) (nI h) pS' pE' dX' ∧ (∀ j, j < h → pS' j = pS j ∧ pE' j = pE j) ∧ (∀ j, s ≤ j → j < e → ∃ x : Nat, x = dep n mid s e j ∧ dX' (li j) = dX (li j) + nI x) ∧ ∀ j, j < n → (j < s ∨ e ≤ j) → dX' (li j) = dX (li j) := by
  intro sz
  induction sz using Nat.strongRecOn with
  | _ sz ih =>
    intro s e h k r pS pE dX hsz hse he hh hpS hpE hr
    have hN2 : (2 : Int32) * nI n = nI (2 * n) := by rw [show (2 : Int32) = nI 2 from rfl, pk_mul]
    have hm1 : nI (h + 1) - (1 : Int32) = nI h := nI_pred h
    by_cases q : e - s ≤ 1
    · refine ⟨pS, pE, dX, ?_, fun _ _ => ⟨rfl, rfl⟩, fun j h1 h2 => ⟨0, (dep_1 hm he q).symm, by rw [show nI 0 = 0 from rfl, Int32.add_zero]⟩, fun _ _ _ => rfl⟩
      rw [show 2 * (e - s) - 1 = 1 by omega]
      show bf_X7_partAll_X5_24 F S S nb best (nI n) S S line (fun a b c d f => lf_X7_partAll_X5_24 F S S nb best (nI n) S S line k a b c d f) (nI r) (nI (h + 1)) pS pE dX = _
      unfold bf_X7_partAll_X5_24
      rw [hN2, if_neg (nI_ge (by omega) (by omega)), if_neg (nI_nle (by omega) (by omega)), hm1, nI_clamp (n := h) (by omega), if_neg (gin (by omega) (by omega)), if_neg (gin (by omega) (by omega)), hpS, hpE, pk_sub (by omega), if_pos (show nI (e - s) ≤ 1 from nI_le (b := 1) q (by decide)), show nI r + (1 : Int32) = nI (r + 1) from nI_add r 1]
    · obtain ⟨m1, m2⟩ := hm s e (by omega) he
      obtain ⟨d1, u1, u2, u3⟩ := deepen_loop F hS hn he hP hl (e - s) s F dX (by omega) (by omega)
      have st : lf_X7_partAll_X5_24 F S S nb best (nI n) S S line (k + (2 * (e - s) - 1)) (nI r) (nI (h + 1)) pS pE dX = lf_X7_partAll_X5_24 F S S nb best (nI n) S S line (k + (2 * (mid s e - s) - 1) + (2 * (e - mid s e) - 1)) (nI (r + 1)) (nI (h + 1 + 1)) (upd (upd pS h (nI s)) (h + 1) (nI (mid s e))) (upd (upd pE h (nI (mid s e))) (h + 1) (nI e)) d1 := by
        rw [show k + (2 * (e - s) - 1) = (k + (2 * (mid s e - s) - 1) + (2 * (e - mid s e) - 1)) + 1 by omega]
        show bf_X7_partAll_X5_24 F S S nb best (nI n) S S line (fun a b c d f => lf_X7_partAll_X5_24 F S S nb best (nI n) S S line (k + (2 * (mid s e - s) - 1) + (2 * (e - mid s e) - 1)) a b c d f) (nI r) (nI (h + 1)) pS pE dX = _
        unfold bf_X7_partAll_X5_24
        rw [hN2, if_neg (nI_ge (by omega) (by omega)), if_neg (nI_nle (by omega) (by omega)), hm1, nI_clamp (n := h) (by omega), if_neg (gin (by omega) (by omega)), if_neg (gin (by omega) (by omega)), hpS, hpE, pk_sub (by omega), if_neg (show ¬ nI (e - s) ≤ 1 from nI_ge (a := 1) (by omega) (by omega)), show fn_X7_deepen F S S line dX (nI s) (nI e) = some d1 from u1, bs, hmid s e (by omega) he, bs, (addPart_eq F pS pE (nI s) (nI (mid s e)) hS (by omega)).2, bs, (addPart_eq F _ _ (nI (mid s e)) (nI e) hS (by omega)).2, bs, show nI r + (1 : Int32) = nI (r + 1) from nI_add r 1]
      obtain ⟨pS1, pE1, dX1, a1, a2, a3, a4⟩ := ih (e - mid s e) (by omega) (mid s e) e (h + 1) (k + (2 * (mid s e - s) - 1)) (r + 1) (upd (upd pS h (nI s)) (h + 1) (nI (mid s e))) (upd (upd pE h (nI (mid s e))) (h + 1) (nI e)) d1 rfl m2 he (by omega) pk_us pk_us (by omega)
      obtain ⟨b0, b0'⟩ := a2 h (by omega)
      rw [pk_un (by omega), pk_us] at b0 b0'
      obtain ⟨pS2, pE2, dX2, c1, c2, c3, c4⟩ := ih (mid s e - s) (by omega) s (mid s e) h k (r + 1 + (2 * (e - mid s e) - 1)) pS1 pE1 dX1 rfl m1 (by omega) hh b0 b0' (by omega)
      refine ⟨pS2, pE2, dX2, ?_, fun j hj => ?_, fun j h1 h2 => ?_, fun j h1 h2 => ?_⟩
      · rw [st, a1, c1, show r + 1 + (2 * (e - mid s e) - 1) + (2 * (mid s e - s) - 1) = r + (2 * (e - s) - 1) by omega]
      · obtain ⟨x1, x2⟩ := c2 j hj
        obtain ⟨y1, y2⟩ := a2 j (by omega)
        rw [x1, x2, y1, y2, pk_un (by omega), pk_un (by omega), pk_un (by omega), pk_un (by omega)]
        exact ⟨rfl, rfl⟩
      · refine ⟨_, rfl, ?_⟩
        rw [dep_2 hm he (by omega)]
        by_cases c : j < mid s e
        · obtain ⟨x, x1, x2⟩ := c3 j h1 c
          rw [if_pos c, x2, a4 j (by omega) (Or.inl c), u2 j h1 h2, ← x1, ← nI_add, show nI 1 = 1 from rfl, Int32.add_assoc]
        · obtain ⟨x, x1, x2⟩ := a3 j (by omega) h2
          rw [if_neg c, c4 j (by omega) (Or.inr (by omega)), x2, u2 j h1 h2, ← x1, ← nI_add, show nI 1 = 1 from rfl, Int32.add_assoc]
      · rw [c4 j h1 (by omega), a4 j h1 (by omega), u3 j h1 h2]

/-! build: IN ORDER, the reference. -/
section
variable {n : Nat} {wt : Nat → Nat}
theorem i97 {a k : Nat} : (97 : Int32) * nI a + nI k = nI (97 * a + k) := by rw [show (97 : Int32) = nI 97 from rfl, pk_mul, nI_add]
/-- the reference's tables, of all rows shorter than c, and those of c leaves that begin before a -/
def OT (wt : Nat → Nat) (n c a : Nat) (sm lf : Nat → Int32) : Prop := ∀ x k, 1 ≤ k → x + k ≤ n → (k < c ∨ (k = c ∧ x < a)) → sm (97 * x + k) = nI (Co wt x (x + k)) ∧ (2 ≤ k → lf (97 * x + k) = nI (Ro wt x (x + k) - x))
theorem scanM (F : Nat) {c a : Nat} {cM found sm lf pile : Nat → Int32} {rec2 : Int32 → (Nat → Int32) → (Nat → Int32) → (Nat → Int32) → (Nat → Int32) → Option ((Nat → Int32) × (Nat → Int32) × (Nat → Int32) × (Nat → Int32))} {rec12 : Int32 → Int32 → (Nat → Int32) → (Nat → Int32) → (Nat → Int32) → (Nat → Int32) → Option ((Nat → Int32) × (Nat → Int32) × (Nat → Int32) × (Nat → Int32))} (hn : n ≤ 96) (hw : ∀ k, k < n → wt k ≤ 600) (hc : 1 ≤ c) (hac : a + c ≤ n) (hO : OT wt n c a sm lf) : ∀ (d q k : Nat) (bst lft : Int32), q + d = c → 1 ≤ q → d < k → (q = 1 → bst = 0 ∧ lft = 0) → (2 ≤ q → bst = nI ((pf wt (a + c) - pf wt a) + (Co wt a (amin (fun m => Co wt a m + Co wt m (a + c)) (a + 1) (q - 2)) + Co wt (amin (fun m => Co wt a m + Co wt m (a + c)) (a + 1) (q - 2)) (a + c))) ∧ lft = nI (amin (fun m => Co wt a m + Co wt m (a + c)) (a + 1) (q - 2) - a)) →
    lf_X12_inOrders_60 F (nI n) 96 cM 96 9409 9409 400 rec2 rec12 k (nI c) (nI a) (nI (pf wt (a + c) - pf wt a)) bst lft (nI q) found sm lf pile = rec12 (nI c) (nI (a + 1)) found (upd sm (97 * a + c) (nI (Co wt a (a + c)))) (upd lf (97 * a + c) (if c = 1 then 0 else nI (Ro wt a (a + c) - a))) pile := by
  intro d
  induction d with
  | zero =>
    intro q k bst lft hq hq1 hk h1 h2
    obtain ⟨k, rfl⟩ : ∃ z, k = z + 1 := ⟨k - 1, by omega⟩
    obtain rfl : q = c := by omega
    show bf_X12_inOrders_60 F (nI n) 96 cM 96 9409 9409 400 rec2 rec12 (fun a b c d e f g h i j => lf_X12_inOrders_60 F (nI n) 96 cM 96 9409 9409 400 rec2 rec12 k a b c d e f g h i j) (nI q) (nI a) (nI (pf wt (a + q) - pf wt a)) bst lft (nI q) found sm lf pile = _
    unfold bf_X12_inOrders_60
    rw [if_pos (nI_le (Nat.le_refl _) (by omega)), i97, nI_clamp (by omega), if_neg (gin (by omega) (by omega)), if_neg (gin (by omega) (by omega)), show nI a + (1 : Int32) = nI (a + 1) from nI_add a 1]
    by_cases e : q = 1
    · obtain ⟨z1, z2⟩ := h1 e
      rw [if_pos e, z1, z2, Co_1 (by omega)]
      rfl
    · obtain ⟨z1, z2⟩ := h2 (by omega)
      have er : amin (fun m => Co wt a m + Co wt m (a + q)) (a + 1) (q - 2) = Ro wt a (a + q) := by
        unfold Ro
        rw [show a + q - a - 2 = q - 2 by omega]
      rw [if_neg e, z1, z2, er, ← Co_2 (by omega)]
  | succ d ih =>
    intro q k bst lft hq hq1 hk h1 h2
    obtain ⟨k, rfl⟩ : ∃ z, k = z + 1 := ⟨k - 1, by omega⟩
    have s1 := (hO a q hq1 (by omega) (Or.inl (by omega))).1
    have s2 := (hO (a + q) (c - q) (by omega) (by omega) (Or.inl (by omega))).1
    rw [show a + q + (c - q) = a + c by omega] at s2
    have e2 : (97 : Int32) * (nI a + nI q) + nI c - nI q = nI (97 * (a + q) + (c - q)) := by
      rw [nI_add, i97, pk_sub (by omega), show 97 * (a + q) + c - q = 97 * (a + q) + (c - q) by omega]
    have hpos : 97 * (a + q) + (c - q) < 9409 := by omega
    have cm1 := (Co_max hn hw (show a ≤ a + q by omega) (show a + q ≤ n by omega)).1
    have cm2 := (Co_max hn hw (show a + q ≤ a + c by omega) (show a + c ≤ n by omega)).1
    have cm3 := (Co_max hn hw (show a + q ≤ a + c by omega) (show a + c ≤ n by omega)).2
    have cb : Co wt a (a + q) + Co wt (a + q) (a + c) ≤ 57600 * 96 := by
      have : 57600 * (a + q - a) + 57600 * (a + c - (a + q)) ≤ 57600 * 96 := by
        rw [← Nat.mul_add]
        exact Nat.mul_le_mul_left _ (by omega)
      omega
    have ev : nI (Co wt a (a + q)) + nI (Co wt (a + q) (a + c)) + nI (pf wt (a + c) - pf wt a) = nI ((pf wt (a + c) - pf wt a) + (Co wt a (a + q) + Co wt (a + q) (a + c))) := by
      rw [nI_add, nI_add, Nat.add_comm]
    have um : lf_X12_inOrders_60 F (nI n) 96 cM 96 9409 9409 400 rec2 rec12 (k + 1) (nI c) (nI a) (nI (pf wt (a + c) - pf wt a)) bst lft (nI q) found sm lf pile = bf_X12_inOrders_60 F (nI n) 96 cM 96 9409 9409 400 rec2 rec12 (fun a b c d e f g h i j => lf_X12_inOrders_60 F (nI n) 96 cM 96 9409 9409 400 rec2 rec12 k a b c d e f g h i j) (nI c) (nI a) (nI (pf wt (a + c) - pf wt a)) bst lft (nI q) found sm lf pile := rfl
    rw [um]
    unfold bf_X12_inOrders_60
    rw [if_neg (nI_ge (by omega) (by omega)), i97, e2, nI_clamp (n := 97 * a + q) (by omega), nI_clamp (n := 97 * (a + q) + (c - q)) (by omega), if_neg (gin (by omega) (by omega)), if_neg (gin hpos (by omega)), s1, s2, ev, show nI q + (1 : Int32) = nI (q + 1) from nI_add q 1]
    by_cases e : q = 1
    · obtain ⟨z1, z2⟩ := h1 e
      rw [if_pos z2]
      refine ih (q + 1) k _ _ (by omega) (by omega) (by omega) (fun z => by omega) (fun _ => ?_)
      subst e
      show _ = nI ((pf wt (a + c) - pf wt a) + (Co wt a (a + 1) + Co wt (a + 1) (a + c))) ∧ nI 1 = nI (a + 1 - a)
      rw [show a + 1 - a = 1 by omega]
      exact ⟨rfl, rfl⟩
    · obtain ⟨z1, z2⟩ := h2 (by omega)
      have hi := amin_in (fun m => Co wt a m + Co wt m (a + c)) (a + 1) (q - 2)
      have as : amin (fun m => Co wt a m + Co wt m (a + c)) (a + 1) (q + 1 - 2) = (if Co wt a (a + q) + Co wt (a + q) (a + c) < Co wt a (amin (fun m => Co wt a m + Co wt m (a + c)) (a + 1) (q - 2)) + Co wt (amin (fun m => Co wt a m + Co wt m (a + c)) (a + 1) (q - 2)) (a + c) then a + q else amin (fun m => Co wt a m + Co wt m (a + c)) (a + 1) (q - 2)) := by
        rw [show q + 1 - 2 = q - 2 + 1 by omega]
        show (if Co wt a (a + 1 + (q - 2 + 1)) + Co wt (a + 1 + (q - 2 + 1)) (a + c) < _ then a + 1 + (q - 2 + 1) else _) = _
        rw [show a + 1 + (q - 2 + 1) = a + q by omega]
      generalize hA : amin (fun m => Co wt a m + Co wt m (a + c)) (a + 1) (q - 2) = A at z1 z2 hi as
      have dm1 := (Co_max hn hw (show a ≤ A by omega) (show A ≤ n by omega)).1
      have dm2 := (Co_max hn hw (show A ≤ a + c by omega) (show a + c ≤ n by omega)).1
      have db : Co wt a A + Co wt A (a + c) ≤ 57600 * 96 := by
        have : 57600 * (A - a) + 57600 * (a + c - A) ≤ 57600 * 96 := by
          rw [← Nat.mul_add]
          exact Nat.mul_le_mul_left _ (by omega)
        omega
      rw [if_neg (show ¬ lft = 0 from fun z => by rw [z2] at z; have := (nI_e0 (by omega)).mp z; omega), z1, z2]
      by_cases g : Co wt a A + Co wt A (a + c) ≤ Co wt a (a + q) + Co wt (a + q) (a + c)
      · rw [if_pos (nI_le (by omega) (by omega))]
        refine ih (q + 1) k _ _ (by omega) (by omega) (by omega) (fun z => by omega) (fun _ => ?_)
        rw [as, if_neg (by omega)]
        exact ⟨rfl, rfl⟩
      · rw [if_neg (nI_ge (by omega) (by omega))]
        refine ih (q + 1) k _ _ (by omega) (by omega) (by omega) (fun z => by omega) (fun _ => ?_)
        rw [as, if_pos (by omega), show a + q - a = q by omega]
        exact ⟨rfl, rfl⟩
theorem allM (F : Nat) {c a : Nat} {cM found sm lf pile : Nat → Int32} {rec2 : Int32 → (Nat → Int32) → (Nat → Int32) → (Nat → Int32) → (Nat → Int32) → Option ((Nat → Int32) × (Nat → Int32) × (Nat → Int32) × (Nat → Int32))} {rec12 : Int32 → Int32 → (Nat → Int32) → (Nat → Int32) → (Nat → Int32) → (Nat → Int32) → Option ((Nat → Int32) × (Nat → Int32) × (Nat → Int32) × (Nat → Int32))} (hn : n ≤ 96) (hac : a + c ≤ n) (hw : ∀ k, k < n → cM k = nI (wt k)) : ∀ (d x k : Nat), a + x + d = a + c → d < k →
    lf_X12_inOrders_27 F (nI n) 96 cM 96 9409 9409 400 rec2 rec12 k (nI c) (nI a) (nI (pf wt (a + x) - pf wt a)) (nI (a + x)) found sm lf pile = lf_X12_inOrders_60 F (nI n) 96 cM 96 9409 9409 400 rec2 rec12 F (nI c) (nI a) (nI (pf wt (a + c) - pf wt a)) 0 0 1 found sm lf pile := by
  intro d
  induction d with
  | zero =>
    intro x k hx hk
    obtain ⟨k, rfl⟩ : ∃ z, k = z + 1 := ⟨k - 1, by omega⟩
    show bf_X12_inOrders_27 F (nI n) 96 cM 96 9409 9409 400 rec2 rec12 (fun a b c d e f g h => lf_X12_inOrders_27 F (nI n) 96 cM 96 9409 9409 400 rec2 rec12 k a b c d e f g h) (nI c) (nI a) (nI (pf wt (a + x) - pf wt a)) (nI (a + x)) found sm lf pile = _
    unfold bf_X12_inOrders_27
    rw [nI_add, if_pos (nI_le (by omega) (by omega)), show a + x = a + c by omega]
  | succ d ih =>
    intro x k hx hk
    obtain ⟨k, rfl⟩ : ∃ z, k = z + 1 := ⟨k - 1, by omega⟩
    have p := pf_mono (wt := wt) (show a ≤ a + x by omega)
    have e : pf wt (a + (x + 1)) = pf wt (a + x) + wt (a + x) := rfl
    show bf_X12_inOrders_27 F (nI n) 96 cM 96 9409 9409 400 rec2 rec12 (fun a b c d e f g h => lf_X12_inOrders_27 F (nI n) 96 cM 96 9409 9409 400 rec2 rec12 k a b c d e f g h) (nI c) (nI a) (nI (pf wt (a + x) - pf wt a)) (nI (a + x)) found sm lf pile = _
    unfold bf_X12_inOrders_27
    rw [nI_add, if_neg (nI_ge (by omega) (by omega)), nI_clamp (n := a + x) (by omega), if_neg (gin (by omega) (by omega)), hw (a + x) (by omega), show nI (pf wt (a + x) - pf wt a) + nI (wt (a + x)) = nI (pf wt (a + (x + 1)) - pf wt a) by rw [nI_add, show pf wt (a + x) - pf wt a + wt (a + x) = pf wt (a + (x + 1)) - pf wt a by omega], show nI (a + x) + (1 : Int32) = nI (a + (x + 1)) from nI_add _ 1]
    exact ih (x + 1) k (by omega) (by omega)
theorem rowM (F : Nat) {c : Nat} {cM found pile : Nat → Int32} {rec2 : Int32 → (Nat → Int32) → (Nat → Int32) → (Nat → Int32) → (Nat → Int32) → Option ((Nat → Int32) × (Nat → Int32) × (Nat → Int32) × (Nat → Int32))} (hF : 1000 < F) (hn : n ≤ 96) (hc : 1 ≤ c) (hcn : c ≤ n) (hw : ∀ k, k < n → wt k ≤ 600 ∧ cM k = nI (wt k)) : ∀ (d a k : Nat) (sm lf : Nat → Int32), a + d = n - c + 1 → d < k → OT wt n c a sm lf →
    ∃ sm' lf', lf_X12_inOrders_12 F (nI n) 96 cM 96 9409 9409 400 rec2 k (nI c) (nI a) found sm lf pile = rec2 (nI (c + 1)) found sm' lf' pile ∧ OT wt n (c + 1) 0 sm' lf' := by
  intro d
  induction d with
  | zero =>
    intro a k sm lf ha hk hO
    obtain ⟨k, rfl⟩ : ∃ z, k = z + 1 := ⟨k - 1, by omega⟩
    refine ⟨sm, lf, ?_, fun x q h1 h2 h3 => hO x q h1 h2 (by omega)⟩
    show bf_X12_inOrders_12 F (nI n) 96 cM 96 9409 9409 400 rec2 (fun a b c d e f => lf_X12_inOrders_12 F (nI n) 96 cM 96 9409 9409 400 rec2 k a b c d e f) (nI c) (nI a) found sm lf pile = _
    unfold bf_X12_inOrders_12
    rw [nI_add, if_pos (nI_lt (by omega) (by omega)), show nI c + (1 : Int32) = nI (c + 1) from nI_add c 1]
  | succ d ih =>
    intro a k sm lf ha hk hO
    obtain ⟨k, rfl⟩ : ∃ z, k = z + 1 := ⟨k - 1, by omega⟩
    have r1 := allM F (wt := wt) (c := c) (a := a) (cM := cM) (found := found) (sm := sm) (lf := lf) (pile := pile) (rec2 := rec2) (rec12 := fun a b c d e f => lf_X12_inOrders_12 F (nI n) 96 cM 96 9409 9409 400 rec2 k a b c d e f) hn (by omega) (fun k hk => (hw k hk).2) c 0 F (by omega) (by omega)
    have r2 := scanM F (wt := wt) (c := c) (a := a) (cM := cM) (found := found) (sm := sm) (lf := lf) (pile := pile) (rec2 := rec2) (rec12 := fun a b c d e f => lf_X12_inOrders_12 F (nI n) 96 cM 96 9409 9409 400 rec2 k a b c d e f) hn (fun k hk => (hw k hk).1) hc (by omega) hO (c - 1) 1 F 0 0 (by omega) (Nat.le_refl _) (by omega) (fun _ => ⟨rfl, rfl⟩) (fun z => by omega)
    obtain ⟨sm', lf', u1, u2⟩ := ih (a + 1) k (upd sm (97 * a + c) (nI (Co wt a (a + c)))) (upd lf (97 * a + c) (if c = 1 then 0 else nI (Ro wt a (a + c) - a))) (by omega) (by omega) (fun x q h1 h2 h3 => by
      by_cases e : 97 * x + q = 97 * a + c
      · have e1 : x = a := by omega
        have e2 : q = c := by omega
        subst e1; subst e2
        rw [pk_us, pk_us]
        exact ⟨rfl, fun z => by rw [if_neg (by omega)]⟩
      · rw [pk_un e, pk_un e]
        exact hO x q h1 h2 (by omega))
    refine ⟨sm', lf', ?_, u2⟩
    show bf_X12_inOrders_12 F (nI n) 96 cM 96 9409 9409 400 rec2 (fun a b c d e f => lf_X12_inOrders_12 F (nI n) 96 cM 96 9409 9409 400 rec2 k a b c d e f) (nI c) (nI a) found sm lf pile = _
    unfold bf_X12_inOrders_12
    rw [nI_add, if_neg (nI_nlt (by omega) (by omega))]
    rw [Nat.add_zero, Nat.sub_self] at r1
    exact Eq.trans r1 (Eq.trans r2 u1)
theorem tabM (F : Nat) {cM found pile : Nat → Int32} (hF : 1000 < F) (hn2 : 1 ≤ n) (hn : n ≤ 96) (hw : ∀ k, k < n → wt k ≤ 600 ∧ cM k = nI (wt k)) : ∀ (d c k : Nat) (sm lf : Nat → Int32), c + d = n + 1 → 1 ≤ c → d < k → OT wt n c 0 sm lf →
    ∃ sm' lf', lf_X12_inOrders_2 F (nI n) 96 cM 96 9409 9409 400 k (nI c) found sm lf pile = lf_X12_inOrders_190 F (nI n) 96 cM 96 9409 9409 400 F 3 found sm' lf' (upd (upd (upd pile 0 0) 1 (nI n)) 2 0) ∧ ∀ x q, 2 ≤ q → x + q ≤ n → lf' (97 * x + q) = nI (Ro wt x (x + q) - x) := by
  intro d
  induction d with
  | zero =>
    intro c k sm lf hc hc1 hk hO
    obtain ⟨k, rfl⟩ : ∃ z, k = z + 1 := ⟨k - 1, by omega⟩
    refine ⟨sm, lf, ?_, fun x q h1 h2 => (hO x q (by omega) h2 (Or.inl (by omega))).2 h1⟩
    show bf_X12_inOrders_2 F (nI n) 96 cM 96 9409 9409 400 (fun a b c d e => lf_X12_inOrders_2 F (nI n) 96 cM 96 9409 9409 400 k a b c d e) (nI c) found sm lf pile = _
    unfold bf_X12_inOrders_2
    rw [if_pos (nI_lt (by omega) (by omega)), if_neg (by decide), if_neg (by decide), if_neg (by decide)]
    rfl
  | succ d ih =>
    intro c k sm lf hc hc1 hk hO
    obtain ⟨k, rfl⟩ : ∃ z, k = z + 1 := ⟨k - 1, by omega⟩
    obtain ⟨sm1, lf1, r1, r2⟩ := rowM F (wt := wt) (c := c) (cM := cM) (found := found) (pile := pile) (rec2 := fun a b c d e => lf_X12_inOrders_2 F (nI n) 96 cM 96 9409 9409 400 k a b c d e) hF hn hc1 (by omega) hw (n - c + 1) 0 F sm lf (by omega) (by omega) hO
    obtain ⟨sm2, lf2, u1, u2⟩ := ih (c + 1) k sm1 lf1 (by omega) (by omega) (by omega) r2
    refine ⟨sm2, lf2, ?_, u2⟩
    show bf_X12_inOrders_2 F (nI n) 96 cM 96 9409 9409 400 (fun a b c d e => lf_X12_inOrders_2 F (nI n) 96 cM 96 9409 9409 400 k a b c d e) (nI c) found sm lf pile = _
    unfold bf_X12_inOrders_2
    rw [if_neg (nI_nlt (by omega) (by omega))]
    exact Eq.trans r1 u1
end
