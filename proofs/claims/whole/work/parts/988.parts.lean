/-! build: IN ORDER and HALVES, both. -/
theorem parts_MO (F : Nat) {n : Nat} {wt : Nat → Nat} {cM sm lf : Nat → Int32} {users : Int32} (hn : n ≤ 96) (hlf : ∀ x q, 2 ≤ q → x + q ≤ n → lf (97 * x + q) = nI (Ro wt x (x + q) - x)) (hm : Mid n (Ro wt)) : ∀ (sz s e h k d : Nat) (found pile : Nat → Int32), e - s = sz → s < e → e ≤ n → h ≤ s → pile (3 * h) = nI s → pile (3 * h + 1) = nI (e - s) → pile (3 * h + 2) = nI d →
    ∃ (found' pile' : Nat → Int32), lf_X12_inOrders_190 F users 96 cM 96 9409 9409 400 (k + (2 * (e - s) - 1)) (nI (3 * (h + 1))) found sm lf pile = lf_X12_inOrders_190 F users 96 cM 96 9409 9409 400 k (nI (3 * h)) found' sm lf pile' ∧ (∀ j, j < 3 * h → pile' j = pile j) ∧ (∀ j, s ≤ j → j < e → found' j = nI (d + dep n (Ro wt) s e j)) ∧ ∀ j, j < n → (j < s ∨ e ≤ j) → found' j = found j := by
  intro sz
  induction sz using Nat.strongRecOn with
  | _ sz ih =>
    intro s e h k d found pile hsz hse he hh p0 p1 p2
    by_cases q : e - s ≤ 1
    · refine ⟨upd found s (nI d), pile, ?_, fun _ _ => rfl, fun j h1 h2 => ?_, fun j h1 h2 => ?_⟩
      · rw [show 2 * (e - s) - 1 = 1 by omega]
        show bf_X12_inOrders_190 F users 96 cM 96 9409 9409 400 (fun a b c d e => lf_X12_inOrders_190 F users 96 cM 96 9409 9409 400 k a b c d e) (nI (3 * (h + 1))) found sm lf pile = _
        unfold bf_X12_inOrders_190
        rw [if_neg (nI_nle (by omega) (by omega)), show nI (3 * (h + 1)) + (-3 : Int32) = nI (3 * h) from m3 (3 * h), show nI (3 * h) + (1 : Int32) = nI (3 * h + 1) from nI_add _ 1, show nI (3 * h) + (2 : Int32) = nI (3 * h + 2) from nI_add _ 2, nI_clamp (n := 3 * h) (by omega), nI_clamp (n := 3 * h + 1) (by omega), nI_clamp (n := 3 * h + 2) (by omega), if_neg (gin (by omega) (by omega)), if_neg (gin (by omega) (by omega)), if_neg (gin (by omega) (by omega)), p0, p1, p2, if_pos (show nI (e - s) = 1 by rw [show e - s = 1 by omega]; rfl), nI_clamp (n := s) (by omega), if_neg (gin (by omega) (by omega))]
      · obtain rfl : j = s := by omega
        rw [pk_us, dep_1 hm he q]
        rfl
      · rw [pk_un (by omega)]
    · obtain ⟨m1, m2⟩ := hm s e (by omega) he
      have hl := hlf s (e - s) (by omega) (by omega)
      rw [show s + (e - s) = e by omega] at hl
      generalize hmd : Ro wt s e = m at m1 m2 hl
      have st : lf_X12_inOrders_190 F users 96 cM 96 9409 9409 400 (k + (2 * (e - s) - 1)) (nI (3 * (h + 1))) found sm lf pile = lf_X12_inOrders_190 F users 96 cM 96 9409 9409 400 (k + (2 * (m - s) - 1) + (2 * (e - m) - 1)) (nI (3 * (h + 1 + 1))) found sm lf (upd (upd (upd (upd (upd (upd pile (3 * h) (nI s)) (3 * h + 1) (nI (m - s))) (3 * h + 2) (nI (d + 1))) (3 * h + 3) (nI m)) (3 * h + 4) (nI (e - m))) (3 * h + 5) (nI (d + 1))) := by
        rw [show k + (2 * (e - s) - 1) = (k + (2 * (m - s) - 1) + (2 * (e - m) - 1)) + 1 by omega]
        show bf_X12_inOrders_190 F users 96 cM 96 9409 9409 400 (fun a b c u v => lf_X12_inOrders_190 F users 96 cM 96 9409 9409 400 (k + (2 * (m - s) - 1) + (2 * (e - m) - 1)) a b c u v) (nI (3 * (h + 1))) found sm lf pile = _
        unfold bf_X12_inOrders_190
        rw [if_neg (nI_nle (by omega) (by omega)), show nI (3 * (h + 1)) + (-3 : Int32) = nI (3 * h) from m3 (3 * h), show nI (3 * h) + (1 : Int32) = nI (3 * h + 1) from nI_add _ 1, show nI (3 * h) + (2 : Int32) = nI (3 * h + 2) from nI_add _ 2, show nI (3 * h) + (3 : Int32) = nI (3 * h + 3) from nI_add _ 3, show nI (3 * h) + (4 : Int32) = nI (3 * h + 4) from nI_add _ 4, show nI (3 * h) + (5 : Int32) = nI (3 * h + 5) from nI_add _ 5, show nI (3 * h) + (6 : Int32) = nI (3 * (h + 1 + 1)) from nI_add _ 6, nI_clamp (n := 3 * h) (by omega), nI_clamp (n := 3 * h + 1) (by omega), nI_clamp (n := 3 * h + 2) (by omega), nI_clamp (n := 3 * h + 3) (by omega), nI_clamp (n := 3 * h + 4) (by omega), nI_clamp (n := 3 * h + 5) (by omega), p0, p1, p2, i97, nI_clamp (n := 97 * s + (e - s)) (by omega), hl, if_neg (gin (by omega) (by omega)), if_neg (gin (by omega) (by omega)), if_neg (gin (by omega) (by omega)), if_neg (show ¬ nI (e - s) = 1 from fun z => by have := (nI_eq (b := 1) (by omega) (by decide)).mp z; omega), if_neg (gin (by omega) (by omega)), if_neg (gin (by omega) (by omega)), if_neg (gin (by omega) (by omega)), if_neg (gin (by omega) (by omega)), if_neg (gin (by omega) (by omega)), if_neg (gin (by omega) (by omega)), if_neg (gin (by omega) (by omega)), show nI d + (1 : Int32) = nI (d + 1) from nI_add d 1, show nI s + nI (m - s) = nI m by rw [nI_add, show s + (m - s) = m by omega], show nI (e - s) - nI (m - s) = nI (e - m) by rw [pk_sub (by omega), show e - s - (m - s) = e - m by omega]]
      generalize hpl : upd (upd (upd (upd (upd (upd pile (3 * h) (nI s)) (3 * h + 1) (nI (m - s))) (3 * h + 2) (nI (d + 1))) (3 * h + 3) (nI m)) (3 * h + 4) (nI (e - m))) (3 * h + 5) (nI (d + 1)) = pl at st
      obtain ⟨f1, g1, a1, a2, a3, a4⟩ := ih (e - m) (by omega) m e (h + 1) (k + (2 * (m - s) - 1)) (d + 1) found pl rfl m2 he (by omega) (by rw [← hpl, show 3 * (h + 1) = 3 * h + 3 by omega, pk_un (by omega), pk_un (by omega), pk_us]) (by rw [← hpl, show 3 * (h + 1) + 1 = 3 * h + 4 by omega, pk_un (by omega), pk_us]) (by rw [← hpl, show 3 * (h + 1) + 2 = 3 * h + 5 by omega, pk_us])
      obtain ⟨f2, g2, c1, c2, c3, c4⟩ := ih (m - s) (by omega) s m h k (d + 1) f1 g1 rfl m1 (by omega) hh (by rw [a2 (3 * h) (by omega), ← hpl, pk_un (by omega), pk_un (by omega), pk_un (by omega), pk_un (by omega), pk_un (by omega), pk_us]) (by rw [a2 (3 * h + 1) (by omega), ← hpl, pk_un (by omega), pk_un (by omega), pk_un (by omega), pk_un (by omega), pk_us]) (by rw [a2 (3 * h + 2) (by omega), ← hpl, pk_un (by omega), pk_un (by omega), pk_un (by omega), pk_us])
      refine ⟨f2, g2, ?_, fun j hj => ?_, fun j h1 h2 => ?_, fun j h1 h2 => ?_⟩
      · rw [st, a1, c1]
      · rw [c2 j hj, a2 j (by omega), ← hpl, pk_un (by omega), pk_un (by omega), pk_un (by omega), pk_un (by omega), pk_un (by omega), pk_un (by omega)]
      · rw [dep_2 hm he (by omega), hmd]
        by_cases c : j < m
        · rw [if_pos c, c3 j h1 c, Nat.add_assoc]
        · rw [if_neg c, c4 j (by omega) (Or.inr (by omega)), a3 j (by omega) h2, Nat.add_assoc]
      · rw [c4 j h1 (by omega), a4 j h1 (by omega)]
theorem dep_pos {n : Nat} {mid : Nat → Nat → Nat} (hm : Mid n mid) (hn : 2 ≤ n) (k : Nat) : 0 < dep n mid 0 n k := by rw [dep_2 hm (Nat.le_refl _) (by omega)]; omega
theorem dep_sum {n : Nat} {mid : Nat → Nat → Nat} (hm : Mid n mid) (hn : 2 ≤ n) (hn96 : n ≤ 96) : shs 200 (dep n mid 0 n) 0 n = 2 ^ 200 ∧ ∀ i, i < n → 2 ^ (200 - dep n mid 0 n i) ∣ shs 200 (dep n mid 0 n) 0 i := by
  obtain ⟨p1, p2⟩ := part_kraft hm 200 n 0 n 0 (by omega) (Nat.le_refl _) (by omega) (by omega)
  have e : (fun i => 0 + dep n mid 0 n i) = dep n mid 0 n := funext fun i => Nat.zero_add _
  rw [e] at p1 p2
  refine ⟨by rw [Nat.sub_zero, Nat.sub_zero] at p1; exact p1, fun i hi => ?_⟩
  have := p2 i (by omega) hi
  rw [Nat.sub_zero, Nat.zero_add] at this
  exact this
theorem dep_msr {n : Nat} {mid : Nat → Nat → Nat} (hm : Mid n mid) (hn : 2 ≤ n) (hn96 : n ≤ 96) : Msr n (dep n mid 0 n) := by
  refine ⟨fun k hk => by have := dep_lt hm n 0 n k (by omega) (Nat.le_refl _) (by omega); omega, fun h24 => ⟨?_, 0, by omega, dep_pos hm hn 0⟩⟩
  have := kraft24 (d := dep n mid 0 n) (n := n) (B := 200) (by decide) (fun k _ => dep_pos hm hn k) h24 (dep_sum hm hn hn96).1
  omega
theorem Msr.perm {n : Nat} {d D li : Nat → Nat} (hP : Prm n li) (hd : ∀ i, i < n → d (li i) = D i) (h : Msr n D) : Msr n d := by
  have e : ∀ k, k < n → ∃ i, i < n ∧ d k = D i := fun k hk => by
    obtain ⟨i, i1, i2⟩ := hP.sur hk
    exact ⟨i, i1, by rw [← i2]; exact hd i i1⟩
  refine ⟨fun k hk => ?_, fun h24 => ?_⟩
  · obtain ⟨i, i1, i2⟩ := e k hk
    rw [i2]; exact h.1 i i1
  · obtain ⟨a1, i, a2, a3⟩ := h.2 (fun i hi => by rw [← hd i hi]; exact h24 _ (hP.1 i hi))
    refine ⟨?_, li i, hP.1 i a2, by rw [hd i a2]; exact a3⟩
    rw [shP_sN, ← sN_perm _ n li hP, sN_congr (g := fun k => if 0 < D k then 2 ^ (24 - D k) else 0) n (fun i hi => by show (if 0 < d (li i) then 2 ^ (24 - d (li i)) else 0) = _; rw [hd i hi]), ← shP_sN]
    exact a1
/-- the starts are even -/
def Evn (n : Nat) (d : Nat → Nat) : Prop := (∀ k, k < n → 0 < d k) ∧ ((∀ k, k < n → d k ≤ 24) → ∀ k, k < n → 2 ^ (24 - d k) ∣ shP d k)
theorem dep_evn {n : Nat} {mid : Nat → Nat → Nat} (hm : Mid n mid) (hn : 2 ≤ n) (hn96 : n ≤ 96) : Evn n (dep n mid 0 n) :=
  ⟨fun k _ => dep_pos hm hn k, fun h24 k hk => even24 (B := 200) (by decide) (fun k _ => dep_pos hm hn k) h24 hk ((dep_sum hm hn hn96).2 k hk)⟩
/-- HALVES: both find the same depths -/
theorem halves_eq (F : Nat) {S n : Nat} {wt : Nat → Nat} {w0 cM : Nat → Int32} (pa : Int32) (pS pE dB liX found orM pile : Nat → Int32) (hF : 1000 < F) (hS : S ≤ 96) (hn : 2 ≤ n) (hnS : n ≤ S) (hw : ∀ k, k < n → wt k ≤ 600 ∧ w0 k = nI (wt k) ∧ cM k = nI (wt k)) :
    ∃ (d : Nat → Nat) (x1 : Int32) (x2 x3 dB' x4 f' y1 y2 : Nat → Int32), Msr n d ∧ fn_X1_measure F S S (nI n) S w0 S S pa pS pE dB liX = some (x1, x2, x3, dB', x4) ∧ fn_X12_byHalves F (nI n) 96 cM 96 96 400 found orM pile = some (f', y1, y2) ∧ ∀ x, x < n → dB' x = nI (d x) ∧ f' x = nI (d x) := by
  obtain ⟨li, AX, AM, s1, s2, s3, s4, s5⟩ := sort_eq F (ri := false) liX orM hF hS hnS hw
  obtain ⟨inv, hinv⟩ := s4.inv
  obtain ⟨dX0, f1, f2⟩ := fill_eq (F := F) (n := S) (by omega) (by omega) dB 0
  have hm := mHalf_mid n (fun i => w0 (li i))
  have eW : (fun i => w0 (li i)) = (fun i => w0 (li i)) := rfl
  obtain ⟨k, hk⟩ : ∃ k, F = k + 1 + (2 * (n - 0) - 1) := ⟨F - 1 - (2 * (n - 0) - 1), by omega⟩
  obtain ⟨pS', pE', dX', r1, r2, r3, r4⟩ := parts_X1 F (S := S) (n := n) (mid := mHalf (fun i => w0 (li i))) (li := li) (w := w0) (line := AX) hF hS hnS s4 (fun i hi => (s3 i hi).1) hm (fun s e h1 h2 => midX_eq F hS hnS h2 h1 (by omega) s4 (fun i hi => (s3 i hi).1)) n 0 n 0 (k + 1) 0 (upd pS 0 (nI 0)) (upd pE 0 (nI n)) dX0 (by omega) (by omega) (Nat.le_refl _) (Nat.le_refl _) pk_us pk_us (by omega)
  obtain ⟨f', pile', u1, u2, u3, u4⟩ := parts_MH F (n := n) (li := li) (wM := cM) (ord := AM) (users := nI n) hF (by omega) s4 (fun i hi => (s3 i hi).2) n 0 n 0 (k + 1) 0 found (upd (upd (upd pile 0 0) 1 (nI n)) 2 0) (by omega) (by omega) (Nat.le_refl _) (Nat.le_refl _) (by rw [pk_un (by omega), pk_un (by omega), pk_us]; rfl) (by rw [pk_un (by omega), pk_us, Nat.sub_zero]) (by rw [pk_us]; rfl)
  have hagree : ∀ i, i < n → (fun i => w0 (li i)) i = (fun i => cM (li i)) i := fun i hi => by
    show w0 (li i) = cM (li i)
    rw [(hw _ (s4.1 i hi)).2.1, (hw _ (s4.1 i hi)).2.2]
  -- the middles of both are the same
  have hmd : ∀ s e, s + 2 ≤ e → e ≤ n → mHalf (fun i => w0 (li i)) s e = mHalf (fun i => cM (li i)) s e := fun s e h1 h2 => by
    have sw : ∀ d, s + d ≤ n → sumW (fun i => w0 (li i)) s d = sumW (fun i => cM (li i)) s d := fun d => by
      induction d with
      | zero => intro _; rfl
      | succ d ih =>
        intro hd
        show sumW (fun i => w0 (li i)) s d + (fun i => w0 (li i)) (s + d) = sumW (fun i => cM (li i)) s d + (fun i => cM (li i)) (s + d)
        rw [ih (by omega), hagree (s + d) (by omega)]
    have hh : ∀ (tot : Int32) j m f, m < e → hmid (fun i => w0 (li i)) tot e j m f = hmid (fun i => cM (li i)) tot e j m f := fun tot j => by
      induction j with
      | zero => intro m f _; rfl
      | succ j ih =>
        intro m f hm
        unfold hmid
        by_cases q : tot ≤ 2 * f ∨ e - 1 ≤ m
        · rw [if_pos q, if_pos q]
        · rw [if_neg q, if_neg q, show w0 (li m) = cM (li m) from hagree m (by omega)]
          exact ih (m + 1) _ (by have : ¬ e - 1 ≤ m := fun z => q (Or.inr z)
                                 omega)
    unfold mHalf
    rw [sw (e - s) (by omega), hh _ _ _ _ (by omega)]
    show hmid _ _ e (e - s) (s + 1) (w0 (li s)) = hmid _ _ e (e - s) (s + 1) (cM (li s))
    rw [show w0 (li s) = cM (li s) from hagree s (by omega)]
  have hmM := mHalf_mid n (fun i => cM (li i))
  have hdp : ∀ q s e i, e - s ≤ q → e ≤ n → dep n (mHalf (fun i => w0 (li i))) s e i = dep n (mHalf (fun i => cM (li i))) s e i := fun q => by
    induction q with
    | zero => intro s e i h1 h2; rw [dep_1 hm h2 (by omega), dep_1 hmM h2 (by omega)]
    | succ q ih =>
      intro s e i h1 h2
      by_cases c : e - s ≤ 1
      · rw [dep_1 hm h2 c, dep_1 hmM h2 c]
      · have hin := hmM s e (by omega) h2
        rw [dep_2 hm h2 (by omega), dep_2 hmM h2 (by omega), hmd s e (by omega) h2, ih s _ i (by omega) (by omega), ih _ e i (by omega) h2]
  refine ⟨fun x => dep n (mHalf (fun i => w0 (li i))) 0 n (inv x), nI 0, pS', pE', dX', AX, f', AM, pile', Msr.perm s4 (fun i hi => by show dep n _ 0 n (inv (li i)) = _; rw [hinv i hi]) (dep_msr hm hn (by omega)), ?_, ?_, fun x hx => ?_⟩
  · unfold fn_X1_measure bf_X1_measure_0
    rw [show fn_X3_lineUpFalling F (nI n) S w0 S liX = some AX by
      unfold fn_X3_lineUpFalling bf_X3_lineUpFalling_0
      rw [show fn_X3_lineUp F (nI n) S w0 S liX (-1) = _ from s1, bs], bs]
    have pe : fn_X7_partAll_X1 F S S (nI n) S w0 S S AX pa pS pE dB = some (nI 0, pS', pE', dX') := by
      unfold fn_X7_partAll_X1 bf_X7_partAll_X1_0
      rw [f1, bs, show fn_X7_addPart_X1 F S S 0 pS pE 0 (nI n) = _ from (addPart_eq F pS pE (nI 0) (nI n) hS (show 0 < S by omega)).1, bs]
      rw [← hk] at r1
      refine Eq.trans (show lf_X7_partAll_X1_24 F S S (nI n) S w0 S S AX F 0 (nI (0 + 1)) (upd pS 0 (nI 0)) (upd pE 0 (nI n)) dX0 = _ from r1) ?_
      show bf_X7_partAll_X1_24 F S S (nI n) S w0 S S AX (fun a b c d f => lf_X7_partAll_X1_24 F S S (nI n) S w0 S S AX k a b c d f) (nI (0 + (2 * (n - 0) - 1))) (nI 0) pS' pE' dX' = _
      unfold bf_X7_partAll_X1_24
      rw [show (2 : Int32) * nI n = nI (2 * n) by rw [show (2 : Int32) = nI 2 from rfl, pk_mul], if_neg (nI_ge (by omega) (by omega)), if_pos (by decide)]
    rw [pe, bs]
  · unfold fn_X12_byHalves bf_X12_byHalves_0
    rw [show fn_X12_sort F (nI n) 96 cM 96 orM 0 = _ from s2, bs, if_neg (by decide), if_neg (by decide), if_neg (by decide)]
    rw [← hk] at u1
    refine Eq.trans (show lf_X12_byHalves_31 F (nI n) 96 cM 96 96 400 F 3 found AM (upd (upd (upd pile 0 0) 1 (nI n)) 2 0) = _ from u1) ?_
    show bf_X12_byHalves_31 F (nI n) 96 cM 96 96 400 (fun a b c d => lf_X12_byHalves_31 F (nI n) 96 cM 96 96 400 k a b c d) (nI (3 * 0)) f' AM pile' = _
    unfold bf_X12_byHalves_31
    rw [if_pos (by decide)]
  · obtain ⟨i, i1, i2⟩ := s4.sur hx
    subst i2
    show dX' (li i) = nI (dep n _ 0 n (inv (li i))) ∧ f' (li i) = nI (dep n _ 0 n (inv (li i)))
    rw [hinv i i1]
    obtain ⟨y, y1, y2⟩ := r3 i (by omega) i1
    refine ⟨by rw [y2, f2 _ (by have := s4.1 i i1; omega), y1, Int32.zero_add], ?_⟩
    rw [u3 i (by omega) i1, Nat.zero_add, hdp n 0 n i (by omega) (Nat.le_refl _)]
theorem line_loop (F : Nat) {S n : Nat} (hS : S ≤ 96) (hnS : n ≤ S) : ∀ (d i k : Nat) (li : Nat → Int32), i + d = n → d < k → (∀ x, x < i → li x = nI x) → ∃ li', lf_X3_lineUpBySymbols_2 F (nI n) S k (nI i) li = some li' ∧ ∀ x, x < n → li' x = nI x := by
  intro d
  induction d with
  | zero =>
    intro i k li hi hk h
    obtain ⟨k, rfl⟩ : ∃ z, k = z + 1 := ⟨k - 1, by omega⟩
    refine ⟨li, ?_, fun x hx => h x (by omega)⟩
    show bf_X3_lineUpBySymbols_2 F (nI n) S (fun a b => lf_X3_lineUpBySymbols_2 F (nI n) S k a b) (nI i) li = _
    unfold bf_X3_lineUpBySymbols_2
    rw [if_pos (nI_le (by omega) (by omega))]
  | succ d ih =>
    intro i k li hi hk h
    obtain ⟨k, rfl⟩ : ∃ z, k = z + 1 := ⟨k - 1, by omega⟩
    obtain ⟨li', r1, r2⟩ := ih (i + 1) k (upd li i (nI i)) (by omega) (by omega) (fun x hx => by
      by_cases e : x = i
      · subst e; exact pk_us
      · rw [pk_un e]; exact h x (by omega))
    refine ⟨li', ?_, r2⟩
    show bf_X3_lineUpBySymbols_2 F (nI n) S (fun a b => lf_X3_lineUpBySymbols_2 F (nI n) S k a b) (nI i) li = _
    unfold bf_X3_lineUpBySymbols_2
    rw [if_neg (nI_ge (by omega) (by omega)), nI_clamp (by omega), if_neg (gin (by omega) (by omega)), show nI i + (1 : Int32) = nI (i + 1) from nI_add i 1]
    exact r1
/-- IN ORDER: both find the same depths -/
theorem orders_eq (F : Nat) {S n : Nat} {wt : Nat → Nat} {w0 cM : Nat → Int32} (pa : Int32) (pS pE best wB dB liX found sm lf pile : Nat → Int32) (hF : 1000 < F) (hS : S ≤ 96) (hn : 2 ≤ n) (hnS : n ≤ S) (hw : ∀ k, k < n → wt k ≤ 600 ∧ w0 k = nI (wt k) ∧ cM k = nI (wt k)) :
    ∃ (d : Nat → Nat) (x1 : Int32) (x2 x3 x4 x5 dB' x6 f' y1 y2 y3 : Nat → Int32), Msr n d ∧ Evn n d ∧ fn_X5_measure F S S (tri S) (S + 1) (nI n) S w0 S S pa pS pE best wB dB liX = some (x1, x2, x3, x4, x5, dB', x6) ∧ fn_X12_inOrders F (nI n) 96 cM 96 9409 9409 400 found sm lf pile = some (f', y1, y2, y3) ∧ ∀ x, x < n → dB' x = nI (d x) ∧ f' x = nI (d x) := by
  have hm : Mid n (Ro wt) := fun s e h1 h2 => Ro_in h1
  have hPi : Prm n (fun i => i) := ⟨fun i hi => hi, fun i j _ _ e => e⟩
  obtain ⟨li, l1, l2⟩ := line_loop F (S := S) (n := n) hS hnS n 0 F liX (by omega) (by omega) (fun x hx => by omega)
  obtain ⟨best', wB', b1, b2⟩ := ord13 F (wt := wt) (w0 := w0) (line := li) (dB := dB) (pa := pa) hF (by omega) hnS hS (fun k hk => ⟨(hw k hk).1, (hw k hk).2.1⟩) n 0 F pS pE best (upd wB 0 0) (by omega) (by omega) (fun i' j' h1 h2 => by omega) (fun k hk => by
    obtain rfl : k = 0 := by omega
    rw [pk_us]; rfl)
  obtain ⟨sm', lf', t1, t2⟩ := tabM F (wt := wt) (cM := cM) (found := found) (pile := pile) hF (by omega) (by omega) (fun k hk => ⟨(hw k hk).1, (hw k hk).2.2⟩) n 1 F sm lf (by omega) (by omega) (by omega) (fun x k h1 h2 h3 => by omega)
  obtain ⟨dX0, f1, f2⟩ := fill_eq (F := F) (n := S) (by omega) (by omega) dB 0
  obtain ⟨k, hk⟩ : ∃ k, F = k + 1 + (2 * (n - 0) - 1) := ⟨F - 1 - (2 * (n - 0) - 1), by omega⟩
  obtain ⟨pS', pE', dX', r1, r2, r3, r4⟩ := parts_X5 F (S := S) (n := n) (mid := Ro wt) (li := fun i => i) (nb := tri S) (best := best') (line := li) hF hS hnS hPi l2 hm (fun s e h1 h2 => by
    have hl := La_in (wt := wt) (show s < e - 1 by omega)
    rw [show e - 1 + 1 = e by omega] at hl
    unfold fn_X5_middle bf_X5_middle_0
    rw [show nI e - (1 : Int32) = nI (e - 1) from pk_sub (b := 1) (by omega), last_eq F (n := n) (by omega) hnS hS (fun k hk => (hw k hk).1) (show s ≤ e - 1 by omega) (by omega) (b2 s (e - 1) (by omega) (by omega)), bs, show nI (La wt s (e - 1)) + (1 : Int32) = nI (La wt s (e - 1) + 1) from nI_add _ 1, hl.2.2]) n 0 n 0 (k + 1) 0 (upd pS 0 (nI 0)) (upd pE 0 (nI n)) dX0 (by omega) (by omega) (Nat.le_refl _) (Nat.le_refl _) pk_us pk_us (by omega)
  obtain ⟨f', pile', u1, u2, u3, u4⟩ := parts_MO F (n := n) (wt := wt) (cM := cM) (sm := sm') (lf := lf') (users := nI n) (by omega) t2 hm n 0 n 0 (k + 1) 0 found (upd (upd (upd pile 0 0) 1 (nI n)) 2 0) (by omega) (by omega) (Nat.le_refl _) (Nat.le_refl _) (by rw [pk_un (by omega), pk_un (by omega), pk_us]; rfl) (by rw [pk_un (by omega), pk_us, Nat.sub_zero]) (by rw [pk_us]; rfl)
  refine ⟨dep n (Ro wt) 0 n, nI 0, pS', pE', best', wB', dX', li, f', sm', lf', pile', dep_msr hm hn (by omega), dep_evn hm hn (by omega), ?_, ?_, fun x hx => ?_⟩
  · unfold fn_X5_measure bf_X5_measure_0
    rw [show fn_X3_lineUpBySymbols F (nI n) S liX = _ from l1, bs, show (0 : Int32).toNatClampNeg = 0 from rfl, if_neg (show ¬ ((0 : Int32) < 0 ∨ S + 1 ≤ 0) from fun z => by
      rcases z with z | z
      · exact absurd z (by decide)
      · omega)]
    refine Eq.trans (show lf_X5_measure_13 F S S (tri S) (S + 1) (nI n) S w0 S S F 0 pa pS pE best (upd wB 0 0) dB li = _ from b1) ?_
    have pe : fn_X7_partAll_X5 F S S (tri S) best' (nI n) S S li pa pS pE dB = some (nI 0, pS', pE', dX') := by
      unfold fn_X7_partAll_X5 bf_X7_partAll_X5_0
      rw [f1, bs, show fn_X7_addPart_X5 F S S 0 pS pE 0 (nI n) = _ from (addPart_eq F pS pE (nI 0) (nI n) hS (show 0 < S by omega)).2, bs]
      rw [← hk] at r1
      refine Eq.trans (show lf_X7_partAll_X5_24 F S S (tri S) best' (nI n) S S li F 0 (nI (0 + 1)) (upd pS 0 (nI 0)) (upd pE 0 (nI n)) dX0 = _ from r1) ?_
      show bf_X7_partAll_X5_24 F S S (tri S) best' (nI n) S S li (fun a b c d f => lf_X7_partAll_X5_24 F S S (tri S) best' (nI n) S S li k a b c d f) (nI (0 + (2 * (n - 0) - 1))) (nI 0) pS' pE' dX' = _
      unfold bf_X7_partAll_X5_24
      rw [show (2 : Int32) * nI n = nI (2 * n) by rw [show (2 : Int32) = nI 2 from rfl, pk_mul], if_neg (nI_ge (by omega) (by omega)), if_pos (by decide)]
    rw [pe, bs]
  · refine Eq.trans (show fn_X12_inOrders F (nI n) 96 cM 96 9409 9409 400 found sm lf pile = _ from t1) ?_
    rw [← hk] at u1
    refine Eq.trans (show lf_X12_inOrders_190 F (nI n) 96 cM 96 9409 9409 400 F 3 found sm' lf' (upd (upd (upd pile 0 0) 1 (nI n)) 2 0) = _ from u1) ?_
    show bf_X12_inOrders_190 F (nI n) 96 cM 96 9409 9409 400 (fun a b c d e => lf_X12_inOrders_190 F (nI n) 96 cM 96 9409 9409 400 k a b c d e) (nI (3 * 0)) f' sm' lf' pile' = _
    unfold bf_X12_inOrders_190
    rw [if_pos (by decide)]
  · obtain ⟨y, y1, y2⟩ := r3 x (by omega) hx
    refine ⟨by rw [show dX' x = dX' ((fun i => i) x) from rfl, y2, show dX0 ((fun i => i) x) = 0 from f2 x (by omega), y1, Int32.zero_add], ?_⟩
    rw [u3 x (by omega) hx, Nat.zero_add]
