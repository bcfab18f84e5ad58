/-! build: PACKAGES, both. -/
theorem dpk_mono (a : Nat → Nat) (i : Nat) {c : Nat} : ∀ d, dpk a c i ≤ dpk a (c + d) i
  | 0 => Nat.le_refl _
  | d + 1 => Nat.le_trans (dpk_mono a i d) (by show dpk a (c + d) i ≤ dpk a (c + d) i + _; omega)
theorem Prm.inv {n : Nat} {li : Nat → Nat} (h : Prm n li) : ∃ inv : Nat → Nat, ∀ i, i < n → inv (li i) = i := by
  have ex : ∀ x, ∃ i, x < n → i < n ∧ li i = x := fun x => by
    by_cases hx : x < n
    · obtain ⟨i, i1, i2⟩ := h.sur hx
      exact ⟨i, fun _ => ⟨i1, i2⟩⟩
    · exact ⟨0, fun z => absurd z hx⟩
  refine ⟨fun x => Classical.choose (ex x), fun i hi => ?_⟩
  obtain ⟨c1, c2⟩ := Classical.choose_spec (ex (li i)) (h.1 i hi)
  exact h.2 _ _ c1 hi c2
section
variable {S n : Nat} {W li : Nat → Nat}
theorem count_loop (F : Nat) {K nw : Nat} {t : Nat → Nat} {mk line cM ord it il ls : Nat → Int32} (hF : 1000 < F) (hS : S ≤ 96) (hn1 : 2 ≤ n) (hnS : n ≤ S) (hK : K ≤ 24) (hK1 : 1 ≤ K) (hnK : n ≤ 2 ^ K) (hP : Prm n li) (hli : ∀ i, i < n → line i = nI (li i)) (ho : ∀ i, i < n → ord i = nI (li i)) (hnw : K * (2 * S) ≤ 32 * nw) (hnw2 : nw < 2 ^ 31) (ht : Tk n W K t) (hmk : ∀ l' x, l' < K → x < 2 * S → wbit mk (l' * (2 * S) + x) = (decide (x < n + pkN n W l') && !pkI n W l' x)) (hil : ∀ l' x, l' < K → x < n + pkN n W l' → il (192 * l' + x) = b01 (pkI n W l' x)) : ∀ (l k k' : Nat) (x2 : Int32) (dX fM : Nat → Int32), l ≤ K → l < k → l < k' → (0 < l → x2 = nI (t (l - 1))) → (∀ i, i < n → dX (li i) = nI (dpk (fun l => pkL n W l (t l)) K i - dpk (fun l => pkL n W l (t l)) l i) ∧ fM (li i) = nI (dpk (fun l => pkL n W l (t l)) K i - dpk (fun l => pkL n W l (t l)) l i)) →
    ∃ (dX' fM' : Nat → Int32), lf_X6_countLengths_24 F (nI K) (nI (2 * S)) (nI (K * (2 * S))) nw mk (nI n) S S line k x2 (xm l) dX = some dX' ∧ lf_X12_byPackages_281 F (nI K) (nI n) 96 cM 96 96 4800 4800 25 k' x2 (xm l) fM ord it il ls = some (fM', ord, it, il, ls) ∧ ∀ i, i < n → dX' (li i) = nI (dpk (fun l => pkL n W l (t l)) K i) ∧ fM' (li i) = nI (dpk (fun l => pkL n W l (t l)) K i) := by
  intro l
  induction l with
  | zero =>
    intro k k' x2 dX fM hl hk hk' hx h
    obtain ⟨k, rfl⟩ : ∃ z, k = z + 1 := ⟨k - 1, by omega⟩
    obtain ⟨k', rfl⟩ : ∃ z, k' = z + 1 := ⟨k' - 1, by omega⟩
    refine ⟨dX, fM, ?_, ?_, fun i hi => h i hi⟩
    · show bf_X6_countLengths_24 F (nI K) (nI (2 * S)) (nI (K * (2 * S))) nw mk (nI n) S S line (fun a b c => lf_X6_countLengths_24 F (nI K) (nI (2 * S)) (nI (K * (2 * S))) nw mk (nI n) S S line k a b c) x2 (xm 0) dX = _
      unfold bf_X6_countLengths_24
      rw [if_pos xm_0]
    · show bf_X12_byPackages_281 F (nI K) (nI n) 96 cM 96 96 4800 4800 25 (fun a b c d e f g => lf_X12_byPackages_281 F (nI K) (nI n) 96 cM 96 96 4800 4800 25 k' a b c d e f g) x2 (xm 0) fM ord it il ls = _
      unfold bf_X12_byPackages_281
      rw [if_pos xm_0]
  | succ l ih =>
    intro k k' x2 dX fM hl hk hk' hx h
    obtain ⟨k, rfl⟩ : ∃ z, k = z + 1 := ⟨k - 1, by omega⟩
    obtain ⟨k', rfl⟩ : ∃ z, k' = z + 1 := ⟨k' - 1, by omega⟩
    have hx2 : x2 = nI (t l) := hx (by omega)
    subst hx2
    have htl : t l ≤ n + pkN n W l := tk_le (by omega) hK1 hnK ht (K - 1 - l) l (by omega)
    obtain ⟨q1, q2, q3⟩ := pkL_size (n := n) (W := W) (l := l) (t l) htl
    have hsz := (pk_size (W := W) (show 1 ≤ n by omega) l).2
    have am := amongX F (K := K) (nw := nw) (l := l) (t := t l) (mk := mk) hS (by omega) hnS hK (by omega) hnw hnw2 htl (fun x hx => hmk l x (by omega) hx) (t l) 0 F (by omega) (by omega)
    obtain ⟨dX1, a1, a2, a3⟩ := lenX F (K := K) (nw := nw) (p := t l - pkL n W l (t l)) (t := t l) (x3 := nI l) (mk := mk) (line := line) (rec24 := fun a b c => lf_X6_countLengths_24 F (nI K) (nI (2 * S)) (nI (K * (2 * S))) nw mk (nI n) S S line k a b c) hS hnS (by omega) (by omega) (by omega) hP hli (t l - (t l - pkL n W l (t l))) 0 F dX (by omega) (by omega)
    obtain ⟨fM1, b1, b2, b3⟩ := lenM F (W := W) (l := l) (t := t l) (most := nI K) (cM := cM) (ord := ord) (it := it) (il := il) (ls := ls) (rec281 := fun a b c d e f g => lf_X12_byPackages_281 F (nI K) (nI n) 96 cM 96 96 4800 4800 25 k' a b c d e f g) (by omega) (by omega) (by omega) htl hP ho (fun x hx => hil l x (by omega) hx) (t l) 0 F fM (by omega) (by omega)
    have e0 : pkL n W l 0 = 0 := rfl
    rw [e0] at b1 b2 b3
    have ea : t l - (t l - pkL n W l (t l)) = pkL n W l (t l) := by omega
    rw [ea] at a2 a3
    obtain ⟨dX', fM', r1, r2, r3⟩ := ih k k' (nI (2 * (t l - pkL n W l (t l)))) dX1 fM1 (by omega) (by omega) (by omega) (fun hl0 => by rw [ht.2 l hl0 (by omega)]) (fun i hi => by
      have mo := dpk_mono (fun l => pkL n W l (t l)) i (c := l + 1) (K - (l + 1))
      rw [show l + 1 + (K - (l + 1)) = K by omega] at mo
      have es : dpk (fun l => pkL n W l (t l)) (l + 1) i = dpk (fun l => pkL n W l (t l)) l i + (if i < pkL n W l (t l) then 1 else 0) := rfl
      by_cases c : i < pkL n W l (t l)
      · rw [if_pos c] at es
        rw [a2 i (by omega) c, b2 i (by omega) c, (h i hi).1, (h i hi).2]
        have : nI (dpk (fun l => pkL n W l (t l)) K i - dpk (fun l => pkL n W l (t l)) (l + 1) i) + 1 = nI (dpk (fun l => pkL n W l (t l)) K i - dpk (fun l => pkL n W l (t l)) l i) := by
          rw [show nI (dpk (fun l => pkL n W l (t l)) K i - dpk (fun l => pkL n W l (t l)) (l + 1) i) + (1 : Int32) = nI (dpk (fun l => pkL n W l (t l)) K i - dpk (fun l => pkL n W l (t l)) (l + 1) i + 1) from nI_add _ 1]
          congr 1
          omega
        exact ⟨this, this⟩
      · rw [if_neg c] at es
        rw [a3 i hi (Or.inr (by omega)), b3 i hi (Or.inr (by omega))]
        have := h i hi
        rw [es, Nat.add_zero] at this
        exact this)
    refine ⟨dX', fM', ?_, ?_, r3⟩
    · show bf_X6_countLengths_24 F (nI K) (nI (2 * S)) (nI (K * (2 * S))) nw mk (nI n) S S line (fun a b c => lf_X6_countLengths_24 F (nI K) (nI (2 * S)) (nI (K * (2 * S))) nw mk (nI n) S S line k a b c) (nI (t l)) (xm (l + 1)) dX = _
      unfold bf_X6_countLengths_24
      rw [xm_s, if_neg (nI_pos (by omega)), show fn_X6_packagesAmong F (nI (2 * S)) (nI (K * (2 * S))) nw mk (nI l) (nI (t l)) = _ from am, bs]
      refine Eq.trans a1 ?_
      rw [xm_m]
      exact r1
    · show bf_X12_byPackages_281 F (nI K) (nI n) 96 cM 96 96 4800 4800 25 (fun a b c d e f g => lf_X12_byPackages_281 F (nI K) (nI n) 96 cM 96 96 4800 4800 25 k' a b c d e f g) (nI (t l)) (xm (l + 1)) fM ord it il ls = _
      unfold bf_X12_byPackages_281
      rw [xm_s, if_neg (nI_pos (by omega))]
      refine Eq.trans b1 ?_
      rw [xm_m]
      exact r2
theorem zero_loop (F : Nat) {K : Nat} {cM ord it il ls : Nat → Int32} (hn : 2 ≤ n) (hn96 : n ≤ 96) (hK : K ≤ 24) (hK1 : 1 ≤ K) : ∀ (d i k : Nat) (fM : Nat → Int32), i + d = n → d < k → (∀ x, x < i → fM x = 0) → ∃ fM', lf_X12_byPackages_244 F (nI K) (nI n) 96 cM 96 96 4800 4800 25 k (nI i) fM ord it il ls = lf_X12_byPackages_281 F (nI K) (nI n) 96 cM 96 96 4800 4800 25 F (nI (2 * n - 2)) (xm K) fM' ord it il ls ∧ ∀ x, x < n → fM' x = 0 := by
  intro d
  induction d with
  | zero =>
    intro i k fM hi hk h
    obtain ⟨k, rfl⟩ : ∃ z, k = z + 1 := ⟨k - 1, by omega⟩
    refine ⟨fM, ?_, fun x hx => h x (by omega)⟩
    show bf_X12_byPackages_244 F (nI K) (nI n) 96 cM 96 96 4800 4800 25 (fun a b c d e f => lf_X12_byPackages_244 F (nI K) (nI n) 96 cM 96 96 4800 4800 25 k a b c d e f) (nI i) fM ord it il ls = _
    unfold bf_X12_byPackages_244
    rw [if_pos (nI_le (by omega) (by omega)), show (2 : Int32) * nI n = nI (2 * n) by rw [show (2 : Int32) = nI 2 from rfl, pk_mul], show nI (2 * n) - (2 : Int32) = nI (2 * n - 2) from pk_sub (b := 2) (by omega)]
    rfl
  | succ d ih =>
    intro i k fM hi hk h
    obtain ⟨k, rfl⟩ : ∃ z, k = z + 1 := ⟨k - 1, by omega⟩
    obtain ⟨fM', r1, r2⟩ := ih (i + 1) k (upd fM i 0) (by omega) (by omega) (fun x hx => by
      by_cases e : x = i
      · subst e; exact pk_us
      · rw [pk_un e]; exact h x (by omega))
    refine ⟨fM', ?_, r2⟩
    show bf_X12_byPackages_244 F (nI K) (nI n) 96 cM 96 96 4800 4800 25 (fun a b c d e f => lf_X12_byPackages_244 F (nI K) (nI n) 96 cM 96 96 4800 4800 25 k a b c d e f) (nI i) fM ord it il ls = _
    unfold bf_X12_byPackages_244
    rw [if_neg (nI_ge (by omega) (by omega)), nI_clamp (n := i) (by omega), if_neg (gin (by omega) (by omega)), show nI i + (1 : Int32) = nI (i + 1) from nI_add i 1]
    exact r1
end
/-- how many are taken, from the last list down -/
def tkF (n : Nat) (W : Nat → Nat) (m : Nat) : Nat → Nat
  | 0 => 2 * n - 2
  | j + 1 => 2 * (tkF n W m j - pkL n W (m - 1 - j) (tkF n W m j))
theorem tkF_tk (n : Nat) (W : Nat → Nat) {m : Nat} (hm : 1 ≤ m) : Tk n W m (fun l => tkF n W m (m - 1 - l)) := by
  refine ⟨by show tkF n W m (m - 1 - (m - 1)) = _; rw [Nat.sub_self]; rfl, fun l h1 h2 => ?_⟩
  show tkF n W m (m - 1 - (l - 1)) = 2 * (tkF n W m (m - 1 - l) - pkL n W l (tkF n W m (m - 1 - l)))
  rw [show m - 1 - (l - 1) = m - 1 - l + 1 by omega]
  show 2 * (tkF n W m (m - 1 - l) - pkL n W (m - 1 - (m - 1 - l)) (tkF n W m (m - 1 - l))) = _
  rw [show m - 1 - (m - 1 - l) = l by omega]
/-- PACKAGES: both find the same depths -/
theorem packages_eq (F : Nat) {S n K nw : Nat} {wt : Nat → Nat} {w0 cM : Nat → Int32} (ws wb mk dB liX found orM it il ls : Nat → Int32) (msz mov : Int32) (hF : 1000 < F) (hS : S ≤ 96) (hn : 2 ≤ n) (hnS : n ≤ S) (hK : K ≤ 24) (hK1 : 1 ≤ K) (hnK : n ≤ 2 ^ K) (hnw : K * (2 * S) ≤ 32 * nw) (hnw2 : nw < 2 ^ 31) (hw : ∀ k, k < n → wt k ≤ 600 ∧ w0 k = nI (wt k) ∧ cM k = nI (wt k)) (hw0 : ∀ k, k < n → 0 < wt k) :
    ∃ (d : Nat → Nat) (ws' wb' mk' dB' liX' f' o' it' il' ls' : Nat → Int32) (msz' mov' : Int32), Msr n d ∧ (∀ k, k < n → d k ≤ K) ∧ fn_X6_measure F (nI K) (nI (2 * S)) (nI (K * (2 * S))) nw (nI n) S w0 S S (2 * S) ws (2 * S) wb msz mov mk dB liX = some (2 * S, ws', 2 * S, wb', msz', mov', mk', dB', liX') ∧ fn_X12_byPackages F (nI K) (nI n) 96 cM 96 96 4800 4800 25 found orM it il ls = some (f', o', it', il', ls') ∧ ∀ x, x < n → dB' x = nI (d x) ∧ f' x = nI (d x) := by
  obtain ⟨li, AX, AM, s1, s2, s3, s4, s5⟩ := sort_eq F (ri := true) liX orM hF hS hnS hw
  obtain ⟨inv, hinv⟩ := s4.inv
  have hWx : ∀ j, j < n → (fun j => wt (li j)) j ≤ 600 ∧ w0 (li j) = nI ((fun j => wt (li j)) j) := fun j hj => ⟨(hw _ (s4.1 j hj)).1, (hw _ (s4.1 j hj)).2.1⟩
  have hWm : ∀ j, j < n → (fun j => wt (li j)) j ≤ 600 ∧ cM (li j) = nI ((fun j => wt (li j)) j) := fun j hj => ⟨(hw _ (s4.1 j hj)).1, (hw _ (s4.1 j hj)).2.2⟩
  generalize hWd : (fun j => wt (li j)) = W at hWx hWm
  obtain ⟨ws', wb', mk', r1, r2⟩ := listsX F (W := W) (K := K) (nw := nw) (w0 := w0) (line := AX) (dB := dB) (ov := b01 false) hF hS (by omega) hnS hK s4 (fun i hi => (s3 i hi).1) hWx hnw hnw2 K 0 F ws wb mk (by omega) (by omega) (fun x hx => absurd hx (Nat.not_lt_zero x)) (fun l' x hl' => by omega)
  obtain ⟨it', il', ls', u1, u2⟩ := listsM F (W := W) (K := K) (cM := cM) (ord := AM) (found := found) hF (by omega) (by omega) hK s4 (fun i hi => (s3 i hi).2) hWm K 0 F it il ls (by omega) (by omega) (fun x h0 => by omega) (fun h0 => by omega) (fun l' x hl' => by omega)
  obtain ⟨fM0, z1, z2⟩ := zero_loop F (n := n) (K := K) (cM := cM) (ord := AM) (it := it') (il := il') (ls := ls') hn (by omega) hK hK1 n 0 F found (by omega) (by omega) (fun x hx => by omega)
  obtain ⟨dX0, f1, f2⟩ := fill_eq (F := F) (n := S) (by omega) (by omega) dB 0
  have hT := tkF_tk n W hK1
  have e0 : (0 : Int32) = nI 0 := rfl
  obtain ⟨dX', fM', c1, c2, c3⟩ := count_loop F (W := W) (K := K) (nw := nw) (t := fun l => tkF n W K (K - 1 - l)) (mk := mk') (line := AX) (cM := cM) (ord := AM) (it := it') (il := il') (ls := ls') hF hS hn hnS hK hK1 hnK s4 (fun i hi => (s3 i hi).1) (fun i hi => (s3 i hi).2) hnw hnw2 hT r2 u2 K F F (nI (2 * n - 2)) dX0 fM0 (Nat.le_refl _) (by omega) (by omega) (fun _ => by show _ = nI (tkF n W K (K - 1 - (K - 1))); rw [Nat.sub_self]; rfl) (fun i hi => by rw [Nat.sub_self, f2 _ (by have := s4.1 i hi; omega), z2 _ (s4.1 i hi)]; exact ⟨rfl, rfl⟩)
  obtain ⟨m1, m2⟩ := pack_msr (d := fun x => dpk (fun l => pkL n W l ((fun l => tkF n W K (K - 1 - l)) l)) K (inv x)) hn hK1 hK hnK (fun j hj => by rw [← hWd]; exact hw0 _ (s4.1 j hj)) (fun i j hij hj => by
    have := s5 i j hij hj
    rw [← hWd]
    unfold late at this
    simp at this
    exact this) hT s4 (fun i hi => by show dpk _ K (inv (li i)) = _; rw [hinv i hi])
  refine ⟨fun x => dpk (fun l => pkL n W l ((fun l => tkF n W K (K - 1 - l)) l)) K (inv x), ws', wb', mk', dX', AX, fM', AM, it', il', ls', nI (K * (2 * S)), b01 false, m1, m2, ?_, ?_, fun x hx => ?_⟩
  · unfold fn_X6_measure bf_X6_measure_0
    rw [show fn_X3_lineUpRising F (nI n) S w0 S liX = some AX by
      unfold fn_X3_lineUpRising bf_X3_lineUpRising_0
      rw [show fn_X3_lineUp F (nI n) S w0 S liX 1 = _ from s1, bs], bs, show fn_X0_restart F msz mov = some (nI 0, b01 false) from rfl, bs]
    rw [Nat.zero_mul] at r1
    refine Eq.trans (show lf_X6_measure_15 F (nI K) (nI (2 * S)) (nI (K * (2 * S))) nw (nI n) S w0 S S F 0 0 (2 * S) ws (2 * S) wb (nI 0) (b01 false) mk dB AX = _ from r1) ?_
    rw [show fn_X6_countLengths F (nI K) (nI (2 * S)) (nI (K * (2 * S))) nw mk' (nI n) S S AX dB = some dX' by
      unfold fn_X6_countLengths bf_X6_countLengths_0
      rw [f1, bs, show (2 : Int32) * nI n = nI (2 * n) by rw [show (2 : Int32) = nI 2 from rfl, pk_mul], show nI (2 * n) - (2 : Int32) = nI (2 * n - 2) from pk_sub (b := 2) (by omega)]
      exact c1, bs]
  · unfold fn_X12_byPackages bf_X12_byPackages_0
    rw [show fn_X12_sort F (nI n) 96 cM 96 orM 1 = _ from s2, bs]
    exact Eq.trans u1 (Eq.trans z1 c2)
  · obtain ⟨i, i1, i2⟩ := s4.sur hx
    subst i2
    show dX' (li i) = nI (dpk _ K (inv (li i))) ∧ fM' (li i) = nI (dpk _ K (inv (li i)))
    rw [hinv i i1]
    exact c3 i i1
