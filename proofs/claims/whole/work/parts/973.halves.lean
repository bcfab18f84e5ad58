/-! build: HALVES. -/
def sumW (W : Nat → Int32) (s : Nat) : Nat → Int32
  | 0 => 0
  | d + 1 => sumW W s d + W (s + d)
/-- where the first part has half of the weight, or all but one of the leaves -/
def hmid (W : Nat → Int32) (tot : Int32) (e : Nat) : Nat → Nat → Int32 → Nat
  | 0, m, _ => m
  | k + 1, m, f => if tot ≤ 2 * f ∨ e - 1 ≤ m then m else hmid W tot e k (m + 1) (f + W m)
def mHalf (W : Nat → Int32) (s e : Nat) : Nat := hmid W (sumW W s (e - s)) e (e - s) (s + 1) (W s)
theorem hmid_in (W : Nat → Int32) (tot : Int32) (e : Nat) : ∀ (k m : Nat) (f : Int32), m < e → m ≤ hmid W tot e k m f ∧ hmid W tot e k m f < e
  | 0, m, _, h => ⟨Nat.le_refl _, h⟩
  | k + 1, m, f, h => by
    unfold hmid
    by_cases q : tot ≤ 2 * f ∨ e - 1 ≤ m
    · rw [if_pos q]; exact ⟨Nat.le_refl _, h⟩
    · rw [if_neg q]
      have hq : ¬ e - 1 ≤ m := fun z => q (Or.inr z)
      have := hmid_in W tot e k (m + 1) (f + W m) (by omega)
      omega
theorem mHalf_mid (n : Nat) (W : Nat → Int32) : Mid n (mHalf W) := fun s e h he => by
  have := hmid_in W (sumW W s (e - s)) e (e - s) (s + 1) (W s) (by omega)
  unfold mHalf
  omega
section
variable {S n : Nat} {li : Nat → Nat} {w line wM ord : Nat → Int32}
theorem midX2 (F : Nat) {e : Nat} {tot : Int32} (hS : S ≤ 96) (hn : n ≤ S) (he : e ≤ n) (hP : Prm n li) (hl : ∀ i, i < n → line i = nI (li i)) : ∀ (j m k : Nat) (f : Int32), m < e → e ≤ m + j → j < k → lf_X1_middle_53 F S w S line k (nI e) tot (nI m) f = some (nI (hmid (fun i => w (li i)) tot e j m f)) := by
  intro j
  induction j with
  | zero => intro m k f h1 h2; omega
  | succ j ih =>
    intro m k f h1 h2 hk
    obtain ⟨k, rfl⟩ : ∃ z, k = z + 1 := ⟨k - 1, by omega⟩
    have lm := hP.1 m (by omega)
    show bf_X1_middle_53 F S w S line (fun a b c d => lf_X1_middle_53 F S w S line k a b c d) (nI e) tot (nI m) f = _
    unfold bf_X1_middle_53 hmid
    rw [show nI e - (1 : Int32) = nI (e - 1) from pk_sub (b := 1) (by omega), nI_clamp (n := m) (by omega), hl m (by omega), nI_clamp (n := li m) (by omega), if_neg (gin (by omega) (by omega)), if_neg (gin (by omega) (by omega)), show nI m + (1 : Int32) = nI (m + 1) from nI_add m 1]
    by_cases q1 : tot ≤ 2 * f
    · rw [if_pos q1, if_pos (Or.inl q1)]
    · rw [if_neg q1]
      by_cases q2 : e - 1 ≤ m
      · rw [if_pos (nI_le q2 (by omega)), if_pos (Or.inr q2)]
      · rw [if_neg (nI_ge (by omega) (by omega)), if_neg (fun z => z.elim q1 q2)]
        exact ih (m + 1) k _ (by omega) (by omega) (by omega)
theorem midX1 (F : Nat) {s e : Nat} (hS : S ≤ 96) (hn : n ≤ S) (he : e ≤ n) (hse : s + 2 ≤ e) (hF : 200 < F) (hP : Prm n li) (hl : ∀ i, i < n → line i = nI (li i)) : ∀ (d i k : Nat), s + i + d = e → d < k → lf_X1_middle_6 F S w S line k (nI s) (nI e) (sumW (fun i => w (li i)) s i) (nI (s + i)) = some (nI (mHalf (fun i => w (li i)) s e)) := by
  intro d
  induction d with
  | zero =>
    intro i k hi hk
    obtain ⟨k, rfl⟩ : ∃ z, k = z + 1 := ⟨k - 1, by omega⟩
    have ls := hP.1 s (by omega)
    show bf_X1_middle_6 F S w S line (fun a b c d => lf_X1_middle_6 F S w S line k a b c d) (nI s) (nI e) (sumW (fun i => w (li i)) s i) (nI (s + i)) = _
    unfold bf_X1_middle_6
    rw [if_pos (nI_le (by omega) (by omega)), nI_clamp (n := s) (by omega), if_neg (gin (by omega) (by omega)), hl s (by omega), nI_clamp (n := li s) (by omega), if_neg (gin (by omega) (by omega)), show nI s + (1 : Int32) = nI (s + 1) from nI_add s 1, show i = e - s by omega]
    exact midX2 F hS hn he hP hl (e - s) (s + 1) F (w (li s)) (by omega) (by omega) (by omega)
  | succ d ih =>
    intro i k hi hk
    obtain ⟨k, rfl⟩ : ∃ z, k = z + 1 := ⟨k - 1, by omega⟩
    have lsi := hP.1 (s + i) (by omega)
    show bf_X1_middle_6 F S w S line (fun a b c d => lf_X1_middle_6 F S w S line k a b c d) (nI s) (nI e) (sumW (fun i => w (li i)) s i) (nI (s + i)) = _
    unfold bf_X1_middle_6
    rw [if_neg (nI_ge (by omega) (by omega)), nI_clamp (n := s + i) (by omega), if_neg (gin (by omega) (by omega)), hl (s + i) (by omega), nI_clamp (n := li (s + i)) (by omega), if_neg (gin (by omega) (by omega)), show nI (s + i) + (1 : Int32) = nI (s + (i + 1)) from nI_add (s + i) 1]
    exact ih (i + 1) k (by omega) (by omega)
theorem midX_eq (F : Nat) {s e : Nat} (hS : S ≤ 96) (hn : n ≤ S) (he : e ≤ n) (hse : s + 2 ≤ e) (hF : 200 < F) (hP : Prm n li) (hl : ∀ i, i < n → line i = nI (li i)) : fn_X1_middle F S w S line (nI s) (nI e) = some (nI (mHalf (fun i => w (li i)) s e)) :=
  midX1 F hS hn he hse hF hP hl (e - s) 0 F (by omega) (by omega)
theorem h180 (F : Nat) {s m e h d : Nat} {users : Int32} {found pile : Nat → Int32} {rec31 : Int32 → (Nat → Int32) → (Nat → Int32) → (Nat → Int32) → Option ((Nat → Int32) × (Nat → Int32) × (Nat → Int32))} (hh : h ≤ 96) (h1 : s < m) (h2 : m < e) :
    bf_X12_byHalves_180 F users 96 wM 96 96 400 rec31 (nI (3 * h)) (nI s) (nI (e - s)) (nI d) (nI (m - s)) found ord pile = rec31 (nI (3 * (h + 1 + 1))) found ord (upd (upd (upd (upd (upd (upd pile (3 * h) (nI s)) (3 * h + 1) (nI (m - s))) (3 * h + 2) (nI (d + 1))) (3 * h + 3) (nI m)) (3 * h + 4) (nI (e - m))) (3 * h + 5) (nI (d + 1))) := by
  unfold bf_X12_byHalves_180
  rw [show nI (3 * h) + (1 : Int32) = nI (3 * h + 1) from nI_add _ 1, show nI (3 * h) + (2 : Int32) = nI (3 * h + 2) from nI_add _ 2, show nI (3 * h) + (3 : Int32) = nI (3 * h + 3) from nI_add _ 3, show nI (3 * h) + (4 : Int32) = nI (3 * h + 4) from nI_add _ 4, show nI (3 * h) + (5 : Int32) = nI (3 * h + 5) from nI_add _ 5, show nI (3 * h) + (6 : Int32) = nI (3 * (h + 1 + 1)) from nI_add _ 6, nI_clamp (n := 3 * h) (by omega), nI_clamp (n := 3 * h + 1) (by omega), nI_clamp (n := 3 * h + 2) (by omega), nI_clamp (n := 3 * h + 3) (by omega), nI_clamp (n := 3 * h + 4) (by omega), nI_clamp (n := 3 * h + 5) (by omega), if_neg (gin (by omega) (by omega)), if_neg (gin (by omega) (by omega)), if_neg (gin (by omega) (by omega)), if_neg (gin (by omega) (by omega)), if_neg (gin (by omega) (by omega)), if_neg (gin (by omega) (by omega)), show nI d + (1 : Int32) = nI (d + 1) from nI_add d 1, show nI s + nI (m - s) = nI m by rw [nI_add, show s + (m - s) = m by omega], show nI (e - s) - nI (m - s) = nI (e - m) by rw [pk_sub (by omega), show e - s - (m - s) = e - m by omega]]
theorem h138 (F : Nat) {s e h d : Nat} {tot users : Int32} {found pile : Nat → Int32} {rec31 : Int32 → (Nat → Int32) → (Nat → Int32) → (Nat → Int32) → Option ((Nat → Int32) × (Nat → Int32) × (Nat → Int32))} (hn : n ≤ 96) (he : e ≤ n) (hh : h ≤ 96) (hP : Prm n li) (hl : ∀ i, i < n → ord i = nI (li i)) : ∀ (j m k : Nat) (f : Int32), s < m → m < e → e ≤ m + j → j < k →
    lf_X12_byHalves_138 F users 96 wM 96 96 400 rec31 k (nI (3 * h)) (nI s) (nI (e - s)) (nI d) tot (nI (m - s)) f found ord pile = bf_X12_byHalves_180 F users 96 wM 96 96 400 rec31 (nI (3 * h)) (nI s) (nI (e - s)) (nI d) (nI (hmid (fun i => wM (li i)) tot e j m f - s)) found ord pile := by
  intro j
  induction j with
  | zero => intro m k f h0 h1 h2; omega
  | succ j ih =>
    intro m k f h0 h1 h2 hk
    obtain ⟨k, rfl⟩ : ∃ z, k = z + 1 := ⟨k - 1, by omega⟩
    have lm := hP.1 m (by omega)
    show bf_X12_byHalves_138 F users 96 wM 96 96 400 rec31 (fun a b c d e f g h i j => lf_X12_byHalves_138 F users 96 wM 96 96 400 rec31 k a b c d e f g h i j) (nI (3 * h)) (nI s) (nI (e - s)) (nI d) tot (nI (m - s)) f found ord pile = _
    unfold bf_X12_byHalves_138 hmid
    rw [show nI (e - s) - (1 : Int32) = nI (e - s - 1) from pk_sub (b := 1) (by omega), show nI s + nI (m - s) = nI m by rw [nI_add, show s + (m - s) = m by omega], nI_clamp (n := m) (by omega), if_neg (gin (by omega) (by omega)), hl m (by omega), nI_clamp (n := li m) (by omega), if_neg (gin (by omega) (by omega)), show nI (m - s) + (1 : Int32) = nI (m + 1 - s) by rw [show nI (m - s) + (1 : Int32) = nI (m - s + 1) from nI_add _ 1, show m - s + 1 = m + 1 - s by omega]]
    by_cases q2 : e - 1 ≤ m
    · rw [if_pos (nI_le (by omega) (by omega)), if_pos (Or.inr q2)]
    · rw [if_neg (nI_ge (by omega) (by omega))]
      by_cases q1 : tot ≤ 2 * f
      · rw [if_pos q1, if_pos (Or.inl q1)]
      · rw [if_neg q1, if_neg (fun z => z.elim q1 q2)]
        exact ih (m + 1) k _ (by omega) (by omega) (by omega) (by omega)
theorem h91 (F : Nat) {s e h d : Nat} {users : Int32} {found pile : Nat → Int32} {rec31 : Int32 → (Nat → Int32) → (Nat → Int32) → (Nat → Int32) → Option ((Nat → Int32) × (Nat → Int32) × (Nat → Int32))} (hn : n ≤ 96) (he : e ≤ n) (hse : s + 2 ≤ e) (hF : 200 < F) (hh : h ≤ 96) (hP : Prm n li) (hl : ∀ i, i < n → ord i = nI (li i)) : ∀ (c i k : Nat), s + i + c = e → c < k →
    lf_X12_byHalves_91 F users 96 wM 96 96 400 rec31 k (nI (3 * h)) (nI s) (nI (e - s)) (nI d) (sumW (fun i => wM (li i)) s i) (nI (s + i)) found ord pile = bf_X12_byHalves_180 F users 96 wM 96 96 400 rec31 (nI (3 * h)) (nI s) (nI (e - s)) (nI d) (nI (mHalf (fun i => wM (li i)) s e - s)) found ord pile := by
  intro c
  induction c with
  | zero =>
    intro i k hi hk
    obtain ⟨k, rfl⟩ : ∃ z, k = z + 1 := ⟨k - 1, by omega⟩
    have ls := hP.1 s (by omega)
    show bf_X12_byHalves_91 F users 96 wM 96 96 400 rec31 (fun a b c d e f g h i => lf_X12_byHalves_91 F users 96 wM 96 96 400 rec31 k a b c d e f g h i) (nI (3 * h)) (nI s) (nI (e - s)) (nI d) (sumW (fun i => wM (li i)) s i) (nI (s + i)) found ord pile = _
    unfold bf_X12_byHalves_91
    rw [show nI s + nI (e - s) = nI e by rw [nI_add, show s + (e - s) = e by omega], if_pos (nI_le (by omega) (by omega)), nI_clamp (n := s) (by omega), if_neg (gin (by omega) (by omega)), hl s (by omega), nI_clamp (n := li s) (by omega), if_neg (gin (by omega) (by omega)), show i = e - s by omega]
    have := h138 F (n := n) (wM := wM) (s := s) (e := e) (h := h) (d := d) (tot := sumW (fun i => wM (li i)) s (e - s)) (users := users) (found := found) (pile := pile) (rec31 := rec31) hn he hh hP hl (e - s) (s + 1) F (wM (li s)) (by omega) (by omega) (by omega) (by omega)
    rw [show s + 1 - s = 1 by omega] at this
    exact this
  | succ c ih =>
    intro i k hi hk
    obtain ⟨k, rfl⟩ : ∃ z, k = z + 1 := ⟨k - 1, by omega⟩
    have lsi := hP.1 (s + i) (by omega)
    show bf_X12_byHalves_91 F users 96 wM 96 96 400 rec31 (fun a b c d e f g h i => lf_X12_byHalves_91 F users 96 wM 96 96 400 rec31 k a b c d e f g h i) (nI (3 * h)) (nI s) (nI (e - s)) (nI d) (sumW (fun i => wM (li i)) s i) (nI (s + i)) found ord pile = _
    unfold bf_X12_byHalves_91
    rw [show nI s + nI (e - s) = nI e by rw [nI_add, show s + (e - s) = e by omega], if_neg (nI_ge (by omega) (by omega)), nI_clamp (n := s + i) (by omega), if_neg (gin (by omega) (by omega)), hl (s + i) (by omega), nI_clamp (n := li (s + i)) (by omega), if_neg (gin (by omega) (by omega)), show nI (s + i) + (1 : Int32) = nI (s + (i + 1)) from nI_add (s + i) 1]
    exact ih (i + 1) k (by omega) (by omega)
end
theorem m3 (a : Nat) : nI (a + 3) + (-3 : Int32) = nI a := by
  rw [← nI_add a 3, show nI 3 = 3 from rfl]
  grind
/-- the reference's rounds of HALVES -/
theorem parts_MH (F : Nat) {n : Nat} {li : Nat → Nat} {wM ord : Nat → Int32} {users : Int32} (hF : 1000 < F) (hn : n ≤ 96) (hP : Prm n li) (hl : ∀ i, i < n → ord i = nI (li i)) : ∀ (sz s e h k d : Nat) (found pile : Nat → Int32), e - s = sz → s < e → e ≤ n → h ≤ s → pile (3 * h) = nI s → pile (3 * h + 1) = nI (e - s) → pile (3 * h + 2) = nI d →
    ∃ (found' pile' : Nat → Int32), lf_X12_byHalves_31 F users 96 wM 96 96 400 (k + (2 * (e - s) - 1)) (nI (3 * (h + 1))) found ord pile = lf_X12_byHalves_31 F users 96 wM 96 96 400 k (nI (3 * h)) found' ord pile' ∧ (∀ j, j < 3 * h → pile' j = pile j) ∧ (∀ j, s ≤ j → j < e → found' (li j) = nI (d + dep n (mHalf (fun i => wM (li i))) s e j)) ∧ ∀ j, j < n → (j < s ∨ e ≤ j) → found' (li j) = found (li j) := by
  have hm := mHalf_mid n (fun i => wM (li i))
  intro sz
  induction sz using Nat.strongRecOn with
  | _ sz ih =>
    intro s e h k d found pile hsz hse he hh p0 p1 p2
    have ls := hP.1 s (by omega)
    by_cases q : e - s ≤ 1
    · refine ⟨upd found (li s) (nI d), pile, ?_, fun _ _ => rfl, fun j h1 h2 => ?_, fun j h1 h2 => ?_⟩
      · rw [show 2 * (e - s) - 1 = 1 by omega]
        show bf_X12_byHalves_31 F users 96 wM 96 96 400 (fun a b c d => lf_X12_byHalves_31 F users 96 wM 96 96 400 k a b c d) (nI (3 * (h + 1))) found ord pile = _
        unfold bf_X12_byHalves_31
        rw [if_neg (nI_nle (by omega) (by omega)), show nI (3 * (h + 1)) + (-3 : Int32) = nI (3 * h) from m3 (3 * h), show nI (3 * h) + (1 : Int32) = nI (3 * h + 1) from nI_add _ 1, show nI (3 * h) + (2 : Int32) = nI (3 * h + 2) from nI_add _ 2, nI_clamp (n := 3 * h) (by omega), nI_clamp (n := 3 * h + 1) (by omega), nI_clamp (n := 3 * h + 2) (by omega), if_neg (gin (by omega) (by omega)), if_neg (gin (by omega) (by omega)), if_neg (gin (by omega) (by omega)), p0, p1, p2, if_pos (show nI (e - s) = 1 by rw [show e - s = 1 by omega]; rfl), nI_clamp (n := s) (by omega), if_neg (gin (by omega) (by omega)), hl s (by omega), nI_clamp (n := li s) (by omega), if_neg (gin (by omega) (by omega))]
      · obtain rfl : j = s := by omega
        rw [pk_us, dep_1 hm he q]
        rfl
      · rw [pk_un (fun z => by have := hP.2 j s h1 (by omega) z; omega)]
    · obtain ⟨m1, m2⟩ := hm s e (by omega) he
      generalize hmd : mHalf (fun i => wM (li i)) s e = m at m1 m2
      have st : lf_X12_byHalves_31 F users 96 wM 96 96 400 (k + (2 * (e - s) - 1)) (nI (3 * (h + 1))) found ord pile = lf_X12_byHalves_31 F users 96 wM 96 96 400 (k + (2 * (m - s) - 1) + (2 * (e - m) - 1)) (nI (3 * (h + 1 + 1))) found ord (upd (upd (upd (upd (upd (upd pile (3 * h) (nI s)) (3 * h + 1) (nI (m - s))) (3 * h + 2) (nI (d + 1))) (3 * h + 3) (nI m)) (3 * h + 4) (nI (e - m))) (3 * h + 5) (nI (d + 1))) := by
        rw [show k + (2 * (e - s) - 1) = (k + (2 * (m - s) - 1) + (2 * (e - m) - 1)) + 1 by omega]
        show bf_X12_byHalves_31 F users 96 wM 96 96 400 (fun a b c d => lf_X12_byHalves_31 F users 96 wM 96 96 400 (k + (2 * (m - s) - 1) + (2 * (e - m) - 1)) a b c d) (nI (3 * (h + 1))) found ord pile = _
        unfold bf_X12_byHalves_31
        have r := h91 F (n := n) (s := s) (e := e) (h := h) (d := d) (users := users) (wM := wM) (ord := ord) (found := found) (pile := pile) (rec31 := fun a b c d => lf_X12_byHalves_31 F users 96 wM 96 96 400 (k + (2 * (m - s) - 1) + (2 * (e - m) - 1)) a b c d) hn he (by omega) (by omega) (by omega) hP hl (e - s) 0 F (by omega) (by omega)
        rw [hmd, h180 F (by omega) m1 m2] at r
        rw [if_neg (nI_nle (by omega) (by omega)), show nI (3 * (h + 1)) + (-3 : Int32) = nI (3 * h) from m3 (3 * h), show nI (3 * h) + (1 : Int32) = nI (3 * h + 1) from nI_add _ 1, show nI (3 * h) + (2 : Int32) = nI (3 * h + 2) from nI_add _ 2, nI_clamp (n := 3 * h) (by omega), nI_clamp (n := 3 * h + 1) (by omega), nI_clamp (n := 3 * h + 2) (by omega), if_neg (gin (by omega) (by omega)), if_neg (gin (by omega) (by omega)), if_neg (gin (by omega) (by omega)), p0, p1, p2, if_neg (show ¬ nI (e - s) = 1 from fun z => by have := (nI_eq (b := 1) (by omega) (by decide)).mp z; omega)]
        exact r
      generalize hpl : upd (upd (upd (upd (upd (upd pile (3 * h) (nI s)) (3 * h + 1) (nI (m - s))) (3 * h + 2) (nI (d + 1))) (3 * h + 3) (nI m)) (3 * h + 4) (nI (e - m))) (3 * h + 5) (nI (d + 1)) = pl at st
      obtain ⟨f1, g1, a1, a2, a3, a4⟩ := ih (e - m) (by omega) m e (h + 1) (k + (2 * (m - s) - 1)) (d + 1) found pl rfl m2 he (by omega) (by rw [← hpl, show 3 * (h + 1) = 3 * h + 3 by omega, pk_un (by omega), pk_un (by omega), pk_us]) (by rw [← hpl, show 3 * (h + 1) + 1 = 3 * h + 4 by omega, pk_un (by omega), pk_us]) (by rw [← hpl, show 3 * (h + 1) + 2 = 3 * h + 5 by omega, pk_us])
      obtain ⟨f2, g2, c1, c2, c3, c4⟩ := ih (m - s) (by omega) s m h k (d + 1) f1 g1 rfl m1 (by omega) hh (by rw [a2 (3 * h) (by omega), ← hpl, pk_un (by omega), pk_un (by omega), pk_un (by omega), pk_un (by omega), pk_un (by omega), pk_us]) (by rw [a2 (3 * h + 1) (by omega), ← hpl, pk_un (by omega), pk_un (by omega), pk_un (by omega), pk_un (by omega), pk_us]) (by rw [a2 (3 * h + 2) (by omega), ← hpl, pk_un (by omega), pk_un (by omega), pk_un (by omega), pk_us])
      refine ⟨f2, g2, ?_, fun j hj => ?_, fun j h1 h2 => ?_, fun j h1 h2 => ?_⟩
      · rw [st, a1, c1]
      · rw [c2 j hj, a2 j (by omega), ← hpl, pk_un (by omega), pk_un (by omega), pk_un (by omega), pk_un (by omega), pk_un (by omega), pk_un (by omega)]
      · rw [dep_2 hm he (by omega), hmd]
        by_cases c : j < m
        · rw [if_pos c, c3 j h1 c, Nat.add_assoc]
        · rw [if_neg c, c4 j (by omega) (Or.inr (by omega)), a3 j (by omega) h2, Nat.add_assoc]
      · rw [c4 j h1 (by omega), a4 j h1 (by omega)]
