/-! Writing bits into a row that may be too small: M bits of the stream f came, the first N of them are kept. -/
def WS (N M : Nat) (f : Nat → Bool) (n : Nat) (ov : Bool) (w : Nat → Int32) : Prop := n = min M N ∧ ov = decide (N < M) ∧ ∀ i, i < n → wbit w i = f i
/-- the stream f, with the d lowest bits of v from M on, the highest first -/
def fx (f : Nat → Bool) (M : Nat) (v : Int32) (d : Nat) : Nat → Bool := fun i => if M ≤ i then bt v (d - 1 - (i - M)) else f i
/-- the stream f, with c from M on -/
def fc (f : Nat → Bool) (M : Nat) (c : Bool) : Nat → Bool := fun i => if M ≤ i then c else f i
theorem WS.congr {N M n : Nat} {f g : Nat → Bool} {ov : Bool} {w : Nat → Int32} (h : WS N M f n ov w) (hg : ∀ i, i < M → f i = g i) : WS N M g n ov w :=
  ⟨h.1, h.2.1, fun i hi => (h.2.2 i hi).trans (hg i (by have := h.1; omega))⟩
theorem add_ws (F : Nat) {N M n nw : Nat} {f : Nat → Bool} {ov : Bool} {w : Nat → Int32} (c : Bool) (hN : N < 2 ^ 30) (hw : N ≤ 32 * nw) (hw2 : nw < 2 ^ 31) (h : WS N M f n ov w) :
    ∃ (n' : Nat) (ov' : Bool) (w' : Nat → Int32), fn_X0_add F (nI N) nw (nI n) (b01 ov) w (b01 c) = some (nI n', b01 ov', w') ∧ WS N (M + 1) (fc f M c) n' ov' w' := by
  obtain ⟨h1, h2, h3⟩ := h
  by_cases hc : n < N
  · obtain ⟨w', a1, a2⟩ := add_eq F w (N := N) (n := n) (nw := nw) (b01 ov) c hN hc hw hw2
    refine ⟨n + 1, ov, w', a1, by omega, ?_, fun i hi => ?_⟩
    · rw [h2]
      have q1 : ¬ N < M := by omega
      have q2 : ¬ N < M + 1 := by omega
      simp [q1, q2]
    · rw [a2 i]
      unfold fc
      by_cases e : i = n
      · rw [if_pos e, if_pos (by omega)]
      · rw [if_neg e, if_neg (by omega)]
        exact h3 i (by omega)
  · refine ⟨n, true, w, ?_, by omega, ?_, fun i hi => ?_⟩
    · unfold fn_X0_add bf_X0_add_0
      rw [if_neg (nI_nlt (by omega) (by omega))]
      rfl
    · have q2 : N < M + 1 := by omega
      simp [q2]
    · unfold fc
      rw [if_neg (by omega)]
      exact h3 i hi
theorem addNumber_ws (F : Nat) {N nw : Nat} (v : Int32) (hN : N < 2 ^ 30) (hw : N ≤ 32 * nw) (hw2 : nw < 2 ^ 31) : ∀ (d k M n : Nat) (f : Nat → Bool) (ov : Bool) (w : Nat → Int32), d < k → d ≤ 32 → WS N M f n ov w →
    ∃ (n' : Nat) (ov' : Bool) (w' : Nat → Int32), lf_X0_addNumber_4 F (nI N) nw k v (xm d) (nI n) (b01 ov) w = some (nI n', b01 ov', w') ∧ WS N (M + d) (fx f M v d) n' ov' w' := by
  intro d
  induction d with
  | zero =>
    intro k M n f ov w hk h32 h
    obtain ⟨k, rfl⟩ : ∃ q, k = q + 1 := ⟨k - 1, by omega⟩
    refine ⟨n, ov, w, ?_, WS.congr h (fun i hi => ?_)⟩
    · show bf_X0_addNumber_4 F (nI N) nw (fun x1 x3 a b c => lf_X0_addNumber_4 F (nI N) nw k x1 x3 a b c) v (xm 0) (nI n) (b01 ov) w = _
      unfold bf_X0_addNumber_4
      rw [if_pos xm_0]
    · unfold fx
      rw [if_neg (by omega)]
  | succ d ih =>
    intro k M n f ov w hk h32 h
    obtain ⟨k, rfl⟩ : ∃ q, k = q + 1 := ⟨k - 1, by omega⟩
    obtain ⟨n1, o1, w1, a1, a2⟩ := add_ws F (bt v d) hN hw hw2 h
    obtain ⟨n2, o2, w2, b1, b2⟩ := ih k (M + 1) n1 _ o1 w1 (by omega) (by omega) a2
    refine ⟨n2, o2, w2, ?_, ?_⟩
    · show bf_X0_addNumber_4 F (nI N) nw (fun x1 x3 a b c => lf_X0_addNumber_4 F (nI N) nw k x1 x3 a b c) v (xm (d + 1)) (nI n) (b01 ov) w = _
      unfold bf_X0_addNumber_4
      rw [xm_s, if_neg (nI_pos (by omega)), wb_1 v (k := d) (by omega), show b01 (v.toBitVec.getLsbD d) = b01 (bt v d) from rfl, a1, bs, xm_m]
      exact b1
    · rw [show M + (d + 1) = M + 1 + d by omega]
      refine WS.congr b2 (fun i hi => ?_)
      unfold fx fc
      by_cases q1 : M + 1 ≤ i
      · rw [if_pos q1, if_pos (by omega), show d + 1 - 1 - (i - M) = d - 1 - (i - (M + 1)) by omega]
      · rw [if_neg q1]
        by_cases q2 : M ≤ i
        · rw [if_pos q2, if_pos q2, show d + 1 - 1 - (i - M) = d by omega]
        · rw [if_neg q2, if_neg q2]
/-- addNumber of a width that the call gives as a number -/
theorem addNumber_eq (F : Nat) {N nw M n d : Nat} {f : Nat → Bool} {ov : Bool} {w : Nat → Int32} (v : Int32) (hN : N < 2 ^ 30) (hw : N ≤ 32 * nw) (hw2 : nw < 2 ^ 31) (hd : d ≤ 32) (hF : d < F) (h : WS N M f n ov w) :
    ∃ (n' : Nat) (ov' : Bool) (w' : Nat → Int32), fn_X0_addNumber F (nI N) nw (nI n) (b01 ov) w v (nI d) = some (nI n', b01 ov', w') ∧ WS N (M + d) (fx f M v d) n' ov' w' := addNumber_ws F v hN hw hw2 d F M n f ov w hF hd h
/-- the reference lays as many bits, where there is room for all -/
def WM_ (M : Nat) (f : Nat → Bool) (b : Nat → Int32) : Prop := ∀ i, i < M → b i = b01 (f i)
theorem lay_ws (F : Nat) {N M d : Nat} {f : Nat → Bool} {b : Nat → Int32} (v : Int32) (hN : N < 2 ^ 30) (hd : d ≤ 32) (hF : d < F) (hM : M + d ≤ N) (h : WM_ M f b) :
    ∃ b', fn_X12_lay F N (nI M) b v (nI d) = some (nI (M + d), b') ∧ WM_ (M + d) (fx f M v d) b' := by
  obtain ⟨b', a1, a2, a3⟩ := lay_loop F (N := N) v hN d F M b hF hd hM
  refine ⟨b', a1, fun i hi => ?_⟩
  unfold fx
  by_cases q : M ≤ i
  · obtain ⟨j, rfl⟩ : ∃ j, i = M + j := ⟨i - M, by omega⟩
    rw [if_pos q, a3 j (by omega), show M + j - M = j by omega]
  · rw [if_neg q, a2 i (by omega)]
    exact h i (by omega)
