/-! The start: both constructors. -/
def mst (s k : Int32) : Int32 × Int32 × Int32 × Int32 × Int32 × Int32 × Int32 × Int32 × Int32 × Int32 × Int32 × Int32 × Int32 × Nat × (Nat → Int32) × Nat × (Nat → Int32) × Nat × (Nat → Int32) × Nat × (Nat → Int32) × Nat × (Nat → Int32) × Nat × (Nat → Int32) × Nat × (Nat → Int32) × Nat × (Nat → Int32) × Nat × (Nat → Int32) × Nat × (Nat → Int32) × Nat × (Nat → Int32) × Nat × (Nat → Int32) × Nat × (Nat → Int32) × Nat × (Nat → Int32) × Nat × (Nat → Int32) × Nat × (Nat → Int32) × Nat × (Nat → Int32) × Nat × (Nat → Int32) × Nat × (Nat → Int32) × Nat × (Nat → Int32) × Nat × (Nat → Int32) × Nat × (Nat → Int32) × Nat × (Nat → Int32) × Nat × (Nat → Int32) × Nat × (Nat → Int32) × Nat × (Nat → Int32) := (s, k, (0 : Int32), (0 : Int32), (0 : Int32), (0 : Int32), (0 : Int32), (-1 : Int32), (0 : Int32), (0 : Int32), (0 : Int32), (0 : Int32), (0 : Int32), (((600 : Int32)).toNatClampNeg), (fun _ => 0), (((96 : Int32)).toNatClampNeg), (fun _ => 0), (((96 : Int32)).toNatClampNeg), (fun _ => 0), (((6000 : Int32)).toNatClampNeg), (fun _ => 0), (((600 : Int32)).toNatClampNeg), (fun _ => 0), (((96 : Int32)).toNatClampNeg), (fun _ => 0), (((96 : Int32)).toNatClampNeg), (fun _ => 0), (((96 : Int32)).toNatClampNeg), (fun _ => 0), (((192 : Int32)).toNatClampNeg), (fun _ => 0), (((192 : Int32)).toNatClampNeg), (fun _ => 0), (((96 : Int32)).toNatClampNeg), (fun _ => 0), (((4800 : Int32)).toNatClampNeg), (fun _ => 0), (((4800 : Int32)).toNatClampNeg), (fun _ => 0), (((25 : Int32)).toNatClampNeg), (fun _ => 0), (((9409 : Int32)).toNatClampNeg), (fun _ => 0), (((9409 : Int32)).toNatClampNeg), (fun _ => 0), (((400 : Int32)).toNatClampNeg), (fun _ => 0), (((96 : Int32)).toNatClampNeg), (fun _ => 0), (((600 : Int32)).toNatClampNeg), (fun _ => 0), (((16 : Int32)).toNatClampNeg), (fun _ => 0), (((16 : Int32)).toNatClampNeg), (fun _ => 0), (((32 : Int32)).toNatClampNeg), (fun _ => 0), (((1024 : Int32)).toNatClampNeg), (fun _ => 0), (((1024 : Int32)).toNatClampNeg), (fun _ => 0), (((1024 : Int32)).toNatClampNeg), (fun _ => 0), (((1024 : Int32)).toNatClampNeg), (fun _ => 0))
theorem hg16 : ¬ ((16 : Int32) < 0 ∨ 16 < ((16 : Int32)).toNatClampNeg) := by decide
theorem hg25 : ¬ ((25 : Int32) < 0 ∨ 25 < ((25 : Int32)).toNatClampNeg) := by decide
theorem hg32 : ¬ ((32 : Int32) < 0 ∨ 32 < ((32 : Int32)).toNatClampNeg) := by decide
theorem hg96 : ¬ ((96 : Int32) < 0 ∨ 96 < ((96 : Int32)).toNatClampNeg) := by decide
theorem hg192 : ¬ ((192 : Int32) < 0 ∨ 192 < ((192 : Int32)).toNatClampNeg) := by decide
theorem hg400 : ¬ ((400 : Int32) < 0 ∨ 400 < ((400 : Int32)).toNatClampNeg) := by decide
theorem hg600 : ¬ ((600 : Int32) < 0 ∨ 600 < ((600 : Int32)).toNatClampNeg) := by decide
theorem hg1024 : ¬ ((1024 : Int32) < 0 ∨ 1024 < ((1024 : Int32)).toNatClampNeg) := by decide
theorem hg4800 : ¬ ((4800 : Int32) < 0 ∨ 4800 < ((4800 : Int32)).toNatClampNeg) := by decide
theorem hg6000 : ¬ ((6000 : Int32) < 0 ∨ 6000 < ((6000 : Int32)).toNatClampNeg) := by decide
theorem hg9409 : ¬ ((9409 : Int32) < 0 ∨ 9409 < ((9409 : Int32)).toNatClampNeg) := by decide
theorem init_M (F : Nat) (x1 x2 : Int32) : fn_X12_init F x1 x2 = some (mst (if x1 < (2 : Int32) then 16 else if x1 ≤ (96 : Int32) then x1 else 16) (if x2 < (1 : Int32) then 15 else if x2 ≤ (24 : Int32) then x2 else 15)) := by
  unfold fn_X12_init bf_X12_init_0 bf_X12_init_244 bf_X12_init_250 bf_X12_init_265 bf_X12_init_271 mst
  simp only [if_neg hg16, if_neg hg25, if_neg hg32, if_neg hg96, if_neg hg192, if_neg hg400, if_neg hg600, if_neg hg1024, if_neg hg4800, if_neg hg6000, if_neg hg9409]
  by_cases a1 : x1 < (2 : Int32) <;> by_cases a2 : x1 ≤ (96 : Int32) <;> by_cases b1 : x2 < (1 : Int32) <;> by_cases b2 : x2 ≤ (24 : Int32) <;> simp only [a1, a2, b1, b2, if_true, if_false]
theorem gb {S B : Nat} (h : S ≤ B) (hB : B < 2 ^ 31) : ¬ (nI S < 0 ∨ B < (nI S).toNatClampNeg) := fun z => by
  rcases z with z | z
  · exact nI_pos (by omega) z
  · rw [nI_clamp (by omega)] at z; omega
theorem init_X0 (F : Nat) {n : Nat} (h : n ≤ 6000) : fn_X0_init F (nI n) = some () := by
  unfold fn_X0_init bf_X0_init_0
  rw [if_neg (by decide), show nI n + (31 : Int32) = nI (n + 31) from nI_add n 31, show nI (n + 31) / (32 : Int32) = nI ((n + 31) / 32) from pk_div (d := 32) (by omega) (by decide) (by decide), if_neg (gb (by omega) (by decide))]
theorem init_X43 (F : Nat) (x1 x2 p : Int32) {S K : Nat} (hS : S ≤ 96) (hK : K ≤ 24) : bf_X11_init_43 F x1 x2 (nI K) (nI S) p = some (nI S, nI K) := by
  have e2 : (2 : Int32) * nI S = nI (2 * S) := pk_mul 2 S
  have hKS : K * (2 * S) ≤ 24 * 192 := Nat.mul_le_mul hK (by omega)
  have hSS : S * (S + 1) ≤ 96 * 97 := Nat.mul_le_mul hS (by omega)
  have i9 : fn_X9_init F = some () := by
    unfold fn_X9_init bf_X9_init_0
    rw [if_neg hg600]
  have i3 : fn_X3_init F (nI S) = some () := by
    unfold fn_X3_init bf_X3_init_0
    simp only [if_neg (gb hS (by decide))]
  have i4 : fn_X4_init F (nI S) = some () := by
    unfold fn_X4_init bf_X4_init_0
    rw [e2]
    simp only [if_neg (gb hS (by decide)), if_neg (gb (S := 2 * S) (B := 192) (by omega) (by decide))]
  have i6 : fn_X6_init F (nI S) (nI K) = some () := by
    unfold fn_X6_init bf_X6_init_0
    rw [e2, show nI K * nI (2 * S) = nI (K * (2 * S)) from pk_mul _ _, init_X0 F (by omega)]
    simp only [if_neg (gb (S := 2 * S) (B := 192) (by omega) (by decide)), bs]
  have i5 : fn_X5_init F (nI S) = some () := by
    unfold fn_X5_init bf_X5_init_0 fn_X7_init_X5 bf_X7_init_X5_0
    simp only [if_neg (gb hS (by decide)), bs]
    rw [if_neg (by decide), show nI S + (1 : Int32) = nI (S + 1) from nI_add S 1, show nI S * nI (S + 1) = nI (S * (S + 1)) from pk_mul _ _, show nI (S * (S + 1)) / (2 : Int32) = nI (S * (S + 1) / 2) from pk_div (d := 2) (by omega) (by decide) (by decide), if_neg (gb (by omega) (by decide)), if_neg (gb (by omega) (by decide))]
  have i1 : fn_X1_init F (nI S) = some () := by
    unfold fn_X1_init bf_X1_init_0 fn_X7_init_X1 bf_X7_init_X1_0
    simp only [if_neg (gb hS (by decide)), bs]
  have i8 : fn_X8_init F = some () := rfl
  have i2 : fn_X2_init F = some () := by
    unfold fn_X2_init bf_X2_init_0
    rw [if_neg hg1024, if_neg hg1024, show (1024 : Int32) = nI 1024 from rfl, init_X0 F (by decide), bs]
  have i10 : fn_X10_init F (nI S) (nI K) = some () := by
    unfold fn_X10_init bf_X10_init_0
    rw [show nI S + nI K = nI (S + K) from nI_add S K, show (2 : Int32) * nI (S + K) = nI (2 * (S + K)) from pk_mul 2 (S + K)]
    simp only [if_neg (gb hS (by decide)), if_neg (gb (S := 2 * (S + K)) (B := 240) (by omega) (by decide))]
  have i0 : fn_X0_init F (6000 : Int32) = some () := init_X0 F (n := 6000) (by decide)
  unfold bf_X11_init_43
  rw [i9, bs, if_neg (gb hS (by decide)), i3, bs, i4, bs, i6, bs, i5, bs, i1, bs, i8, bs, i2, bs, i10, bs, bs, i0, bs, bs, bs, bs]
theorem init_X (F : Nat) (x1 x2 : Int32) {S K : Nat} (hS : S ≤ 96) (hK : K ≤ 24) (e1 : (if x1 < (2 : Int32) then 16 else if (96 : Int32) < x1 then 16 else x1) = nI S) (e2 : (if x2 < (1 : Int32) then 15 else if (24 : Int32) < x2 then 15 else x2) = nI K) : fn_X11_init F x1 x2 = some (nI S, nI K) := by
  unfold fn_X11_init bf_X11_init_0 bf_X11_init_20 bf_X11_init_22 bf_X11_init_41
  by_cases a1 : x1 < (2 : Int32) <;> by_cases a2 : (96 : Int32) < x1 <;> by_cases b1 : x2 < (1 : Int32) <;> by_cases b2 : (24 : Int32) < x2 <;> simp only [a1, a2, b1, b2, if_true, if_false] at e1 e2 ⊢ <;> rw [e1, e2] <;> exact init_X43 F x1 x2 0 hS hK
theorem pick (x : Int32) (lo hi df : Nat) (h1 : 1 ≤ lo) (h2 : lo ≤ df) (h3 : df ≤ hi) (h4 : hi < 2 ^ 30) : ∃ S : Nat, lo ≤ S ∧ S ≤ hi ∧ (if x < nI lo then nI df else if nI hi < x then nI df else x) = nI S ∧ (if x < nI lo then nI df else if x ≤ nI hi then x else nI df) = nI S := by
  have el : (nI lo).toInt = (lo : Int) := nI_toInt (by omega)
  have eh : (nI hi).toInt = (hi : Int) := nI_toInt (by omega)
  by_cases a1 : x < nI lo
  · exact ⟨df, h2, h3, by rw [if_pos a1], by rw [if_pos a1]⟩
  · have z1 : (nI lo).toInt ≤ x.toInt := Int.not_lt.mp (fun z => a1 (Int32.lt_iff_toInt_lt.mpr z))
    by_cases a2 : nI hi < x
    · exact ⟨df, h2, h3, by rw [if_neg a1, if_pos a2], by rw [if_neg a1, if_neg (fun z => by have q1 := Int32.le_iff_toInt_le.mp z; have q2 := Int32.lt_iff_toInt_lt.mp a2; omega)]⟩
    · have z2 : x.toInt ≤ (nI hi).toInt := Int.not_lt.mp (fun z => a2 (Int32.lt_iff_toInt_lt.mpr z))
      have hx0 : ¬ x < 0 := fun z => by
        have q1 := Int32.lt_iff_toInt_lt.mp z
        have q2 : (0 : Int32).toInt = 0 := by decide
        omega
      obtain ⟨S, hS, rfl⟩ := nI_of hx0
      have q : (nI S).toInt = (S : Int) := nI_toInt hS
      exact ⟨S, by omega, by omega, by rw [if_neg a1, if_neg a2], by rw [if_neg a1, if_pos (Int32.le_iff_toInt_le.mpr z2)]⟩
theorem sim_start : Sim_start FU Inv := by
  intro x1 x2
  obtain ⟨S, s1, s2, s3, s4⟩ := pick x1 2 96 16 (by decide) (by decide) (by decide) (by decide)
  obtain ⟨K, k1, k2, k3, k4⟩ := pick x2 1 24 15 (by decide) (by decide) (by decide) (by decide)
  refine ⟨(nI S, nI K), mst (nI S) (nI K), init_X FU x1 x2 s2 k2 s3 k3, ?_, ?_⟩
  · rw [init_M]
    exact congrArg some (by rw [show (if x1 < (2 : Int32) then (16 : Int32) else if x1 ≤ (96 : Int32) then x1 else 16) = nI S from s4, show (if x2 < (1 : Int32) then (15 : Int32) else if x2 ≤ (24 : Int32) then x2 else 15) = nI K from k4])
  · have cS : (nI S).toNatClampNeg = S := nI_clamp (by omega)
    have e2 : (2 : Int32) * nI S = nI (2 * S) := pk_mul 2 S
    have c2 : ((2 : Int32) * nI S).toNatClampNeg = 2 * S := by rw [e2]; exact nI_clamp (by omega)
    have hKS : K * (2 * S) ≤ 24 * 192 := Nat.mul_le_mul k2 (by omega)
    have hSS : S * (S + 1) ≤ 96 * 97 := Nat.mul_le_mul s2 (by omega)
    have eKS : nI K * ((2 : Int32) * nI S) = nI (K * (2 * S)) := by rw [e2]; exact pk_mul _ _
    have c36 : ((nI K * ((2 : Int32) * nI S) + (31 : Int32)) / (32 : Int32)).toNatClampNeg = (K * (2 * S) + 31) / 32 := by
      rw [eKS, show nI (K * (2 * S)) + (31 : Int32) = nI (K * (2 * S) + 31) from nI_add _ 31, show nI (K * (2 * S) + 31) / (32 : Int32) = nI ((K * (2 * S) + 31) / 32) from pk_div (d := 32) (by omega) (by decide) (by decide)]
      exact nI_clamp (by omega)
    have c43 : ((nI S * (nI S + (1 : Int32))) / (2 : Int32)).toNatClampNeg = S * (S + 1) / 2 := by
      rw [show nI S + (1 : Int32) = nI (S + 1) from nI_add S 1, show nI S * nI (S + 1) = nI (S * (S + 1)) from pk_mul _ _, show nI (S * (S + 1)) / (2 : Int32) = nI (S * (S + 1) / 2) from pk_div (d := 2) (by omega) (by decide) (by decide)]
      exact nI_clamp (by omega)
    have c45 : (nI S + (1 : Int32)).toNatClampNeg = S + 1 := by
      rw [show nI S + (1 : Int32) = nI (S + 1) from nI_add S 1]; exact nI_clamp (by omega)
    have c73 : ((2 : Int32) * (nI S + nI K)).toNatClampNeg = 2 * (S + K) := by
      rw [show nI S + nI K = nI (S + K) from nI_add S K, show (2 : Int32) * nI (S + K) = nI (2 * (S + K)) from pk_mul 2 (S + K)]; exact nI_clamp (by omega)
    refine ⟨S, K, 0, fun _ => 0, fun _ => 0, 0, 0, 0, ⟨⟨s1, s2, k1, k2⟩, ⟨rfl, rfl⟩, ⟨rfl, cS⟩, ⟨cS, cS, cS, cS⟩, ⟨c2, c2, c2, cS⟩, ⟨rfl, e2, c2, c2, eKS, c36⟩, ⟨cS, cS, c43, c45, cS, cS⟩, ⟨rfl, rfl, rfl, rfl⟩, ⟨rfl, rfl, cS, cS, c73⟩, ⟨rfl, rfl, cS, cS, c73⟩, ⟨rfl, rfl, rfl, rfl⟩, ⟨rfl, rfl⟩⟩, ⟨⟨rfl, rfl⟩, ⟨rfl, rfl, rfl, rfl, rfl⟩, ⟨rfl, rfl, rfl, rfl, rfl, rfl⟩, ⟨rfl, rfl, rfl⟩, ⟨rfl, rfl, rfl⟩, ⟨rfl, rfl⟩, ⟨rfl, rfl, rfl⟩, ⟨rfl, rfl, rfl, rfl⟩⟩, ⟨⟨by omega, rfl, rfl⟩, fun k hk => by omega, fun s _ => rfl⟩, ⟨fun s _ => ⟨Nat.zero_le _, rfl, rfl⟩, ⟨rfl, Or.inl rfl, rfl, Or.inl rfl, fun z => absurd z (by show ¬ (0 : Int32) = 1; decide)⟩, fun z => absurd z (by show ¬ (0 : Int32) = 1; decide)⟩, ⟨⟨by omega, rfl, rfl⟩, fun i hi => by omega⟩, ⟨⟨by omega, rfl, rfl⟩, fun i hi => by omega⟩, ⟨⟨by omega, rfl, rfl⟩, fun i hi => by omega⟩, rfl⟩
