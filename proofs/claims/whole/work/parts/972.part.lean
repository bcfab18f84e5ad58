/-! build: parting into two, again and again. -/
/-- how deep leaf i lies below the part from s to before e -/
def rel (mid : Nat → Nat → Nat) : Nat → Nat → Nat → Nat → Nat
  | 0, _, _, _ => 0
  | k + 1, s, e, i => if e - s ≤ 1 then 0 else 1 + (if i < mid s e then rel mid k s (mid s e) i else rel mid k (mid s e) e i)
/-- the middle lies between -/
def Mid (n : Nat) (mid : Nat → Nat → Nat) : Prop := ∀ s e, s + 2 ≤ e → e ≤ n → s < mid s e ∧ mid s e < e
theorem rel_k {n : Nat} {mid : Nat → Nat → Nat} (hm : Mid n mid) : ∀ (k s e i : Nat), e - s ≤ k → e ≤ n → rel mid (k + 1) s e i = rel mid k s e i := by
  intro k
  induction k with
  | zero =>
    intro s e i h he
    show (if e - s ≤ 1 then 0 else _) = 0
    rw [if_pos (by omega)]
  | succ k ih =>
    intro s e i h he
    show (if e - s ≤ 1 then 0 else 1 + (if i < mid s e then rel mid (k + 1) s (mid s e) i else rel mid (k + 1) (mid s e) e i)) = (if e - s ≤ 1 then 0 else 1 + (if i < mid s e then rel mid k s (mid s e) i else rel mid k (mid s e) e i))
    by_cases q : e - s ≤ 1
    · rw [if_pos q, if_pos q]
    · obtain ⟨m1, m2⟩ := hm s e (by omega) he
      rw [if_neg q, if_neg q, ih s (mid s e) i (by omega) (by omega), ih (mid s e) e i (by omega) he]
/-- depths below a part, whatever the rounds -/
def dep (n : Nat) (mid : Nat → Nat → Nat) (s e i : Nat) : Nat := rel mid n s e i
theorem rel_n {n : Nat} {mid : Nat → Nat → Nat} (hm : Mid n mid) {s e i : Nat} (he : e ≤ n) : ∀ d k, e - s ≤ k → rel mid (k + d) s e i = rel mid k s e i
  | 0, _, _ => rfl
  | d + 1, k, h => by
    rw [← Nat.add_assoc, rel_k hm (k + d) s e i (by omega) he, rel_n hm he d k h]
theorem dep_1 {n : Nat} {mid : Nat → Nat → Nat} (hm : Mid n mid) {s e i : Nat} (he : e ≤ n) (h : e - s ≤ 1) : dep n mid s e i = 0 := by
  unfold dep
  cases n with
  | zero => rfl
  | succ n => show (if e - s ≤ 1 then 0 else _) = 0; rw [if_pos h]
theorem dep_2 {n : Nat} {mid : Nat → Nat → Nat} (hm : Mid n mid) {s e i : Nat} (he : e ≤ n) (h : s + 2 ≤ e) : dep n mid s e i = 1 + (if i < mid s e then dep n mid s (mid s e) i else dep n mid (mid s e) e i) := by
  obtain ⟨m1, m2⟩ := hm s e h he
  unfold dep
  obtain ⟨k, rfl⟩ : ∃ k, n = k + 1 := ⟨n - 1, by omega⟩
  have a1 := rel_n hm (s := s) (e := mid s e) (i := i) (by omega) 1 k (by omega)
  have a2 := rel_n hm (s := mid s e) (e := e) (i := i) he 1 k (by omega)
  rw [a1, a2]
  show (if e - s ≤ 1 then 0 else _) = _
  rw [if_neg (by omega)]
theorem dep_lt {n : Nat} {mid : Nat → Nat → Nat} (hm : Mid n mid) : ∀ (k s e i : Nat), e - s ≤ k → e ≤ n → s < e → dep n mid s e i + 1 ≤ e - s := by
  intro k
  induction k with
  | zero => intro s e i h1 h2 h3; omega
  | succ k ih =>
    intro s e i h1 h2 h3
    by_cases q : e - s ≤ 1
    · rw [dep_1 hm h2 q]; omega
    · obtain ⟨m1, m2⟩ := hm s e (by omega) h2
      rw [dep_2 hm h2 (by omega)]
      by_cases c : i < mid s e
      · rw [if_pos c]; have := ih s (mid s e) i (by omega) (by omega) (by omega); omega
      · rw [if_neg c]; have := ih (mid s e) e i (by omega) h2 (by omega); omega
/-- the shares of leaves from s on, d of them -/
def shs (B : Nat) (f : Nat → Nat) (s : Nat) : Nat → Nat
  | 0 => 0
  | d + 1 => shs B f s d + 2 ^ (B - f (s + d))
theorem shs_add (B : Nat) (f : Nat → Nat) (s a : Nat) : ∀ b, shs B f s (a + b) = shs B f s a + shs B f (s + a) b
  | 0 => rfl
  | b + 1 => by
    show shs B f s (a + b) + 2 ^ (B - f (s + (a + b))) = shs B f s a + (shs B f (s + a) b + 2 ^ (B - f (s + a + b)))
    rw [shs_add B f s a b, show s + (a + b) = s + a + b by omega]
    omega
theorem shs_congr {B : Nat} {f g : Nat → Nat} {s : Nat} : ∀ d, (∀ i, s ≤ i → i < s + d → f i = g i) → shs B f s d = shs B g s d
  | 0, _ => rfl
  | d + 1, h => by
    show shs B f s d + _ = shs B g s d + _
    rw [shs_congr d (fun i h1 h2 => h i h1 (by omega)), h (s + d) (by omega) (by omega)]
/-- the leaves of a part fill its share, each from a multiple of its own on -/
theorem part_kraft {n : Nat} {mid : Nat → Nat → Nat} (hm : Mid n mid) (B : Nat) : ∀ (k s e d : Nat), e - s ≤ k → e ≤ n → s < e → d + (e - s) ≤ B → shs B (fun i => d + dep n mid s e i) s (e - s) = 2 ^ (B - d) ∧ ∀ i, s ≤ i → i < e → 2 ^ (B - (d + dep n mid s e i)) ∣ shs B (fun i => d + dep n mid s e i) s (i - s) := by
  intro k
  induction k with
  | zero => intro s e d h1 h2 h3; omega
  | succ k ih =>
    intro s e d h1 h2 h3 hB
    by_cases q : e - s ≤ 1
    · rw [show e - s = 1 by omega]
      refine ⟨?_, fun i i1 i2 => ?_⟩
      · show 0 + 2 ^ (B - (d + dep n mid s e (s + 0))) = _
        rw [dep_1 hm h2 q]; simp
      · rw [show i - s = 0 by omega]; exact Nat.dvd_zero _
    · obtain ⟨m1, m2⟩ := hm s e (by omega) h2
      have hd : ∀ i, d + dep n mid s e i = (if i < mid s e then d + 1 + dep n mid s (mid s e) i else d + 1 + dep n mid (mid s e) e i) := fun i => by
        rw [dep_2 hm h2 (by omega)]
        split <;> omega
      obtain ⟨a1, a2⟩ := ih s (mid s e) (d + 1) (by omega) (by omega) m1 (by omega)
      obtain ⟨b1, b2⟩ := ih (mid s e) e (d + 1) (by omega) h2 m2 (by omega)
      have c1 : ∀ x, x ≤ mid s e - s → shs B (fun i => d + dep n mid s e i) s x = shs B (fun i => d + 1 + dep n mid s (mid s e) i) s x := fun x hx => shs_congr x (fun i i1 i2 => by
        show d + dep n mid s e i = _
        rw [hd i, if_pos (by omega)])
      have c2 : ∀ x, shs B (fun i => d + dep n mid s e i) (mid s e) x = shs B (fun i => d + 1 + dep n mid (mid s e) e i) (mid s e) x := fun x => shs_congr x (fun i i1 i2 => by
        show d + dep n mid s e i = _
        rw [hd i, if_neg (by omega)])
      have p2 : 2 ^ (B - d) = 2 ^ (B - (d + 1)) + 2 ^ (B - (d + 1)) := by
        rw [show B - d = B - (d + 1) + 1 by omega, Nat.pow_succ]; omega
      refine ⟨?_, fun i i1 i2 => ?_⟩
      · rw [show e - s = (mid s e - s) + (e - mid s e) by omega, shs_add, c1 _ (Nat.le_refl _), a1, show s + (mid s e - s) = mid s e by omega, c2, b1, p2]
      · rw [hd i]
        by_cases c : i < mid s e
        · rw [if_pos c, c1 _ (by omega)]
          exact a2 i i1 c
        · rw [if_neg c, show i - s = (mid s e - s) + (i - mid s e) by omega, shs_add, c1 _ (Nat.le_refl _), a1, show s + (mid s e - s) = mid s e by omega, c2]
          exact Nat.dvd_add (Nat.pow_dvd_pow 2 (by omega)) (b2 i (by omega) i2)
theorem deepen_loop (F : Nat) {S n e : Nat} {li : Nat → Nat} {line : Nat → Int32} (hS : S ≤ 96) (hn : n ≤ S) (he : e ≤ n) (hP : Prm n li) (hl : ∀ i, i < n → line i = nI (li i)) : ∀ (d i k : Nat) (dX : Nat → Int32), i + d = e → d < k → ∃ dX', lf_X7_deepen_2 F S S line k (nI e) (nI i) dX = some dX' ∧ (∀ j, i ≤ j → j < e → dX' (li j) = dX (li j) + 1) ∧ ∀ j, j < n → (j < i ∨ e ≤ j) → dX' (li j) = dX (li j) := by
  intro d
  induction d with
  | zero =>
    intro i k dX hi hk
    obtain ⟨k, rfl⟩ : ∃ z, k = z + 1 := ⟨k - 1, by omega⟩
    refine ⟨dX, ?_, fun j h1 h2 => by omega, fun _ _ _ => rfl⟩
    show bf_X7_deepen_2 F S S line (fun a b c => lf_X7_deepen_2 F S S line k a b c) (nI e) (nI i) dX = _
    unfold bf_X7_deepen_2
    rw [if_pos (nI_le (by omega) (by omega))]
  | succ d ih =>
    intro i k dX hi hk
    obtain ⟨k, rfl⟩ : ∃ z, k = z + 1 := ⟨k - 1, by omega⟩
    have l1 := hP.1 i (by omega)
    obtain ⟨dX', r1, r2, r3⟩ := ih (i + 1) k (upd dX (li i) (dX (li i) + 1)) (by omega) (by omega)
    refine ⟨dX', ?_, fun j h1 h2 => ?_, fun j h1 h2 => ?_⟩
    · show bf_X7_deepen_2 F S S line (fun a b c => lf_X7_deepen_2 F S S line k a b c) (nI e) (nI i) dX = _
      unfold bf_X7_deepen_2
      rw [if_neg (nI_ge (by omega) (by omega)), nI_clamp (n := i) (by omega), if_neg (gin (by omega) (by omega)), hl i (by omega), nI_clamp (n := li i) (by omega), if_neg (gin (by omega) (by omega)), if_neg (gin (by omega) (by omega)), show nI i + (1 : Int32) = nI (i + 1) from nI_add i 1]
      exact r1
    · by_cases q : j = i
      · subst q; rw [r3 j (by omega) (by omega), pk_us]
      · rw [r2 j (by omega) h2, pk_un (fun z => q (hP.2 j i (by omega) (by omega) z))]
    · rw [r3 j h1 (by omega), pk_un (fun z => by have := hP.2 j i h1 (by omega) z; omega)]
theorem addPart_eq (F : Nat) {S h : Nat} (pS pE : Nat → Int32) (a b : Int32) (hS : S ≤ 96) (hh : h < S) : fn_X7_addPart_X1 F S S (nI h) pS pE a b = some (nI (h + 1), upd pS h a, upd pE h b) ∧ fn_X7_addPart_X5 F S S (nI h) pS pE a b = some (nI (h + 1), upd pS h a, upd pE h b) := by
  constructor
  · unfold fn_X7_addPart_X1 bf_X7_addPart_X1_0
    rw [if_neg (nI_ge hh (by omega)), nI_clamp (by omega), if_neg (gin hh (by omega)), if_neg (gin hh (by omega)), show nI h + (1 : Int32) = nI (h + 1) from nI_add h 1]
  · unfold fn_X7_addPart_X5 bf_X7_addPart_X5_0
    rw [if_neg (nI_ge hh (by omega)), nI_clamp (by omega), if_neg (gin hh (by omega)), if_neg (gin hh (by omega)), show nI h + (1 : Int32) = nI (h + 1) from nI_add h 1]
/-- the class's rounds, of HALVES and of IN ORDER: a part is done, all below it on the pile stays -/
theorem parts_X1 (F : Nat) {S n : Nat} {mid : Nat → Nat → Nat} {li : Nat → Nat} {w line : Nat → Int32} (hF : 1000 < F) (hS : S ≤ 96) (hn : n ≤ S) (hP : Prm n li) (hl : ∀ i, i < n → line i = nI (li i)) (hm : Mid n mid) (hmid : ∀ s e, s + 2 ≤ e → e ≤ n → fn_X1_middle F S w S line (nI s) (nI e) = some (nI (mid s e))) : ∀ (sz s e h k r : Nat) (pS pE dX : Nat → Int32), e - s = sz → s < e → e ≤ n → h ≤ s → pS h = nI s → pE h = nI e → r + (2 * (e - s) - 1) ≤ 2 * n - 1 →
    ∃ (pS' pE' dX' : Nat → Int32), lf_X7_partAll_X1_24 F S S (nI n) S w S S line (k + (2 * (e - s) - 1)) (nI r) (nI (h + 1)) pS pE dX = lf_X7_partAll_X1_24 F S S (nI n) S w S S line k (nI (r + (2 * (e - s) - 1))) (nI h) pS' pE' dX' ∧ (∀ j, j < h → pS' j = pS j ∧ pE' j = pE j) ∧ (∀ j, s ≤ j → j < e → ∃ x : Nat, x = dep n mid s e j ∧ dX' (li j) = dX (li j) + nI x) ∧ ∀ j, j < n → (j < s ∨ e ≤ j) → dX' (li j) = dX (li j) := by
  intro sz
  induction sz using Nat.strongRecOn with
  | _ sz ih =>
    intro s e h k r pS pE dX hsz hse he hh hpS hpE hr
    have hN2 : (2 : Int32) * nI n = nI (2 * n) := by rw [show (2 : Int32) = nI 2 from rfl, pk_mul]
    have hm1 : nI (h + 1) - (1 : Int32) = nI h := nI_pred h
    by_cases q : e - s ≤ 1
    · refine ⟨pS, pE, dX, ?_, fun _ _ => ⟨rfl, rfl⟩, fun j h1 h2 => ⟨0, (dep_1 hm he q).symm, by rw [show nI 0 = 0 from rfl, Int32.add_zero]⟩, fun _ _ _ => rfl⟩
      rw [show 2 * (e - s) - 1 = 1 by omega]
      show bf_X7_partAll_X1_24 F S S (nI n) S w S S line (fun a b c d f => lf_X7_partAll_X1_24 F S S (nI n) S w S S line k a b c d f) (nI r) (nI (h + 1)) pS pE dX = _
      unfold bf_X7_partAll_X1_24
      rw [hN2, if_neg (nI_ge (by omega) (by omega)), if_neg (nI_nle (by omega) (by omega)), hm1, nI_clamp (n := h) (by omega), if_neg (gin (by omega) (by omega)), if_neg (gin (by omega) (by omega)), hpS, hpE, pk_sub (by omega), if_pos (show nI (e - s) ≤ 1 from nI_le (b := 1) q (by decide)), show nI r + (1 : Int32) = nI (r + 1) from nI_add r 1]
    · obtain ⟨m1, m2⟩ := hm s e (by omega) he
      obtain ⟨d1, u1, u2, u3⟩ := deepen_loop F hS hn he hP hl (e - s) s F dX (by omega) (by omega)
      have st : lf_X7_partAll_X1_24 F S S (nI n) S w S S line (k + (2 * (e - s) - 1)) (nI r) (nI (h + 1)) pS pE dX = lf_X7_partAll_X1_24 F S S (nI n) S w S S line (k + (2 * (mid s e - s) - 1) + (2 * (e - mid s e) - 1)) (nI (r + 1)) (nI (h + 1 + 1)) (upd (upd pS h (nI s)) (h + 1) (nI (mid s e))) (upd (upd pE h (nI (mid s e))) (h + 1) (nI e)) d1 := by
        rw [show k + (2 * (e - s) - 1) = (k + (2 * (mid s e - s) - 1) + (2 * (e - mid s e) - 1)) + 1 by omega]
        show bf_X7_partAll_X1_24 F S S (nI n) S w S S line (fun a b c d f => lf_X7_partAll_X1_24 F S S (nI n) S w S S line (k + (2 * (mid s e - s) - 1) + (2 * (e - mid s e) - 1)) a b c d f) (nI r) (nI (h + 1)) pS pE dX = _
        unfold bf_X7_partAll_X1_24
        rw [hN2, if_neg (nI_ge (by omega) (by omega)), if_neg (nI_nle (by omega) (by omega)), hm1, nI_clamp (n := h) (by omega), if_neg (gin (by omega) (by omega)), if_neg (gin (by omega) (by omega)), hpS, hpE, pk_sub (by omega), if_neg (show ¬ nI (e - s) ≤ 1 from nI_ge (a := 1) (by omega) (by omega)), show fn_X7_deepen F S S line dX (nI s) (nI e) = some d1 from u1, bs, hmid s e (by omega) he, bs, (addPart_eq F pS pE (nI s) (nI (mid s e)) hS (by omega)).1, bs, (addPart_eq F _ _ (nI (mid s e)) (nI e) hS (by omega)).1, bs, show nI r + (1 : Int32) = nI (r + 1) from nI_add r 1]
      obtain ⟨pS1, pE1, dX1, a1, a2, a3, a4⟩ := ih (e - mid s e) (by omega) (mid s e) e (h + 1) (k + (2 * (mid s e - s) - 1)) (r + 1) (upd (upd pS h (nI s)) (h + 1) (nI (mid s e))) (upd (upd pE h (nI (mid s e))) (h + 1) (nI e)) d1 rfl m2 he (by omega) pk_us pk_us (by omega)
      obtain ⟨b0, b0'⟩ := a2 h (by omega)
      rw [pk_un (by omega), pk_us] at b0 b0'
      obtain ⟨pS2, pE2, dX2, c1, c2, c3, c4⟩ := ih (mid s e - s) (by omega) s (mid s e) h k (r + 1 + (2 * (e - mid s e) - 1)) pS1 pE1 dX1 rfl m1 (by omega) hh b0 b0' (by omega)
      refine ⟨pS2, pE2, dX2, ?_, fun j hj => ?_, fun j h1 h2 => ?_, fun j h1 h2 => ?_⟩
      · rw [st, a1, c1, show r + 1 + (2 * (e - mid s e) - 1) + (2 * (mid s e - s) - 1) = r + (2 * (e - s) - 1) by omega]
      · obtain ⟨x1, x2⟩ := c2 j hj
        obtain ⟨y1, y2⟩ := a2 j (by omega)
        rw [x1, x2, y1, y2, pk_un (by omega), pk_un (by omega), pk_un (by omega), pk_un (by omega)]
        exact ⟨rfl, rfl⟩
      · refine ⟨_, rfl, ?_⟩
        rw [dep_2 hm he (by omega)]
        by_cases c : j < mid s e
        · obtain ⟨x, x1, x2⟩ := c3 j h1 c
          rw [if_pos c, x2, a4 j (by omega) (Or.inl c), u2 j h1 h2, ← x1, ← nI_add, show nI 1 = 1 from rfl, Int32.add_assoc]
        · obtain ⟨x, x1, x2⟩ := a3 j (by omega) h2
          rw [if_neg c, c4 j (by omega) (Or.inr (by omega)), x2, u2 j h1 h2, ← x1, ← nI_add, show nI 1 = 1 from rfl, Int32.add_assoc]
      · rw [c4 j h1 (by omega), a4 j h1 (by omega), u3 j h1 h2]
