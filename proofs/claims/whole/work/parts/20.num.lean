/-! Numbers: small naturals as ints -/
theorem nI_mul (a b : Nat) : nI a * nI b = nI (a * b) := (Int32.ofNat_mul a b).symm
theorem nI_sub {a b : Nat} (h : b ≤ a) : nI a - nI b = nI (a - b) := (Int32.ofNat_sub a b h).symm
theorem nI_div {a b : Nat} (ha : a < 2 ^ 31) (hb : b < 2 ^ 31) : nI a / nI b = nI (a / b) := by
  have h1 : a / b < 2 ^ 31 := Nat.lt_of_le_of_lt (Nat.div_le_self a b) ha
  apply Int32.toInt_inj.mp
  rw [Int32.toInt_div_of_ne_left, nI_toInt ha, nI_toInt hb, nI_toInt h1, Int.ofNat_tdiv]
  intro h
  have h2 := congrArg Int32.toInt h
  rw [nI_toInt ha] at h2
  have h3 : (Int32.minValue).toInt = -2147483648 := by decide
  rw [h3] at h2
  omega
theorem nI_rem {a b : Nat} (ha : a < 2 ^ 31) (hb : b < 2 ^ 31) : nI a - nI a / nI b * nI b = nI (a % b) := by
  rw [nI_div ha hb, nI_mul, nI_sub (Nat.div_mul_le_self a b)]
  congr 1
  have := Nat.div_add_mod a b
  have h2 : a / b * b = b * (a / b) := Nat.mul_comm _ _
  omega
theorem nI_vp {a n : Nat} (ha : a < 2 ^ 31) : vp_in (nI a) n ↔ a < n := by
  unfold vp_in
  rw [nI_clamp ha]
  constructor
  · intro h
    exact Nat.not_le.mp fun q => h (Or.inr q)
  · intro h q
    rcases q with q | q
    · exact nI_pos ha q
    · omega
theorem nI_m1 {a : Nat} (ha : a < 2 ^ 31) : ¬ nI a = -1 := by
  intro h
  have h2 := congrArg Int32.toInt h
  rw [nI_toInt ha] at h2
  have h3 : ((-1 : Int32)).toInt = -1 := by decide
  rw [h3] at h2
  omega
theorem nI_m1' {a : Nat} (ha : a < 2 ^ 31) : ¬ (-1 : Int32) = nI a := fun h => nI_m1 ha h.symm
/-- an int between bounds is a natural -/
theorem nat_of {x M : Int32} {n : Nat} (hM : M.toInt = (n : Int) + 1) (h : ¬ x < 0) (h5 : ¬ M ≤ x) : ∃ j : Nat, j ≤ n ∧ x = nI j := by
  obtain ⟨j, hj, rfl⟩ := nI_of h
  refine ⟨j, ?_, rfl⟩
  rw [Int32.le_iff_toInt_le, nI_toInt hj, hM] at h5
  omega
theorem lit_test {a : Nat} (h : a < 100) : ¬ (262 : Int32) ≤ nI a := by
  show ¬ nI 262 ≤ nI a
  simp (disch := omega) only [nI_leI]
  omega
theorem li_0 : (0 : Int32) = nI 0 := rfl
theorem li_1 : (1 : Int32) = nI 1 := rfl
theorem li_2 : (2 : Int32) = nI 2 := rfl
theorem li_3 : (3 : Int32) = nI 3 := rfl
theorem li_4 : (4 : Int32) = nI 4 := rfl
theorem li_6 : (6 : Int32) = nI 6 := rfl
theorem li_8 : (8 : Int32) = nI 8 := rfl
theorem li_12 : (12 : Int32) = nI 12 := rfl
theorem li_32 : (32 : Int32) = nI 32 := rfl
theorem li_128 : (128 : Int32) = nI 128 := rfl
theorem li_256 : (256 : Int32) = nI 256 := rfl
theorem li_262 : (262 : Int32) = nI 262 := rfl
