section FPB
theorem fp_dec' {u : Nat} (h1 : 8388608 ≤ u) (h2 : u < 2139095040) : ∃ E T, 1 ≤ E ∧ E ≤ 254 ∧ T < 8388608 ∧ u = E * 8388608 + T := ⟨u / 8388608, u % 8388608, by omega, by omega, by omega, by omega⟩
theorem fp_toNat {u : Nat} (h : u < 4294967296) : (UInt32.ofNat u).toNat = u := by
  rw [UInt32.toNat_ofNat']
  exact Nat.mod_eq_of_lt h
theorem fp_n32 {u : Nat} (h : u ≤ 2139095040) : vf_n32 (UInt32.ofNat u) := by
  unfold vf_n32
  rw [UInt32.le_iff_toNat_le, UInt32.toNat_and, fp_toNat (by omega)]
  exact Nat.le_trans Nat.and_le_left h
/-- times a power of two -/
theorem fp_mul {E T F : Nat} (h1 : 1 ≤ E) (h2 : E ≤ 254) (ht : T < 8388608) (h3 : 1 ≤ F) (h4 : F ≤ 254) (h5 : 128 ≤ E + F) (h6 : E + F ≤ 381) : FP.Core.mul FP.Core.b32 (E * 8388608 + T) (F * 8388608) = (E + F - 127) * 8388608 + T := by
  have d2 := fp_dec (E := F) (T := 0) h3 h4 (by omega)
  rw [Nat.add_zero] at d2
  unfold FP.Core.mul
  rw [fp_dec h1 h2 ht, d2]
  show FP.Core.encode FP.Core.b32 (FP.Core.roundRatio FP.Core.b32 false ((8388608 + T) * (8388608 + 0)) 1 ((E : Int) - 150 + ((F : Int) - 150))) = _
  have a : FP.Core.roundRatio FP.Core.b32 false ((8388608 + T) * (8388608 + 0)) 1 ((E : Int) - 150 + ((F : Int) - 150)) = .fin false (8388608 + T) (46 + ((E : Int) - 150 + ((F : Int) - 150)) - 23) := by
    refine fp_rnd (by omega) (fp_lead1 (l := 46) (by omega) (by omega)) (by omega) (by omega) ?_ (by omega)
    show FP.Core.nearest ((8388608 + T) * (8388608 + 0) * 1) (1 * 8388608) = _
    rw [Nat.mul_one, Nat.one_mul, Nat.add_zero]
    exact fp_near (by omega)
  rw [a, fp_enc (by omega) (E + F - 127) (by omega) (by omega)]
  omega
theorem fp_mul2 {u : Nat} (h1 : 8388608 ≤ u) (h2 : u < 1065353216) : FP.fmul (UInt32.ofNat u) FP.fconst2 = UInt32.ofNat (u + 8388608) := by
  obtain ⟨E, T, e1, e2, e3, rfl⟩ := fp_dec' h1 (by omega)
  show UInt32.ofNat (FP.Core.mul FP.Core.b32 (UInt32.ofNat (E * 8388608 + T)).toNat (FP.fconst2).toNat) = _
  rw [fp_toNat (by omega), show (FP.fconst2).toNat = 128 * 8388608 from rfl, fp_mul e1 e2 e3 (by omega) (by omega) (by omega) (by omega)]
  exact congrArg UInt32.ofNat (by omega)
/-- against 1 -/
theorem fp_cmp1 {u : Nat} (h1 : 8388608 ≤ u) (h2 : u < 1073741824) : (0 ≤ Op.cmpValue (FP.fcmp (UInt32.ofNat u) FP.fconst1) CmpOp.g) ↔ 1065353216 ≤ u := by
  obtain ⟨E, T, e1, e2, e3, rfl⟩ := fp_dec' h1 (by omega)
  have d2 := fp_dec (E := 127) (T := 0) (by omega) (by omega) (by omega)
  show (0 ≤ Op.cmpValue (FP.Core.order (FP.Core.decode FP.Core.b32 (UInt32.ofNat (E * 8388608 + T)).toNat) (FP.Core.decode FP.Core.b32 (127 * 8388608 + 0))) CmpOp.g) ↔ _
  rw [fp_toNat (by omega), fp_dec e1 e2 e3, d2]
  show (0 ≤ Op.cmpValue (some (compare (((8388608 + T) * 2 ^ (((E : Int) - 150) - min ((E : Int) - 150) (((127 : Nat) : Int) - 150)).toNat : Nat) : Int) (((8388608 + 0) * 2 ^ ((((127 : Nat) : Int) - 150) - min ((E : Int) - 150) (((127 : Nat) : Int) - 150)).toNat : Nat) : Int))) CmpOp.g) ↔ _
  by_cases h : E = 127
  · subst h
    have a : (((127 : Nat) : Int) - 150 - min (((127 : Nat) : Int) - 150) (((127 : Nat) : Int) - 150)).toNat = 0 := by omega
    rw [a, Nat.pow_zero, Nat.mul_one, Nat.mul_one]
    refine ⟨fun _ => by omega, fun _ => ?_⟩
    rcases Nat.eq_zero_or_pos T with rfl | ht
    · decide
    · have c : compare ((8388608 + T : Nat) : Int) ((8388608 + 0 : Nat) : Int) = .gt := by rw [Int.compare_eq_gt]; omega
      rw [c]
      decide
  · have a : ((E : Int) - 150 - min ((E : Int) - 150) (((127 : Nat) : Int) - 150)).toNat = 0 := by omega
    have b : (((127 : Nat) : Int) - 150 - min ((E : Int) - 150) (((127 : Nat) : Int) - 150)).toNat = 1 + (126 - E) := by omega
    have p : 0 < 2 ^ (126 - E) := Nat.two_pow_pos _
    rw [a, b, Nat.pow_zero, Nat.mul_one, Nat.add_zero]
    have c : compare ((8388608 + T : Nat) : Int) ((8388608 * 2 ^ (1 + (126 - E)) : Nat) : Int) = .lt := by
      rw [Int.compare_eq_lt, Nat.pow_add]
      omega
    rw [c]
    refine ⟨fun q => absurd q (by decide), fun q => by omega⟩
theorem fp_cmp0 {u : Nat} (h1 : 8388608 ≤ u) (h2 : u < 1073741824) : 0 < Op.cmpValue (FP.fcmp (UInt32.ofNat u) FP.fconst0) CmpOp.l := by
  obtain ⟨E, T, e1, e2, e3, rfl⟩ := fp_dec' h1 (by omega)
  have d2 : FP.Core.decode FP.Core.b32 0 = .fin false 0 (-149) := by decide +kernel
  show 0 < Op.cmpValue (FP.Core.order (FP.Core.decode FP.Core.b32 (UInt32.ofNat (E * 8388608 + T)).toNat) (FP.Core.decode FP.Core.b32 0)) CmpOp.l
  rw [fp_toNat (by omega), fp_dec e1 e2 e3, d2]
  show 0 < Op.cmpValue (some (compare (((8388608 + T) * 2 ^ (((E : Int) - 150) - min ((E : Int) - 150) (-149)).toNat : Nat) : Int) ((0 * 2 ^ ((-149 : Int) - min ((E : Int) - 150) (-149)).toNat : Nat) : Int))) CmpOp.l
  have c : compare (((8388608 + T) * 2 ^ (((E : Int) - 150) - min ((E : Int) - 150) (-149)).toNat : Nat) : Int) ((0 * 2 ^ ((-149 : Int) - min ((E : Int) - 150) (-149)).toNat : Nat) : Int) = .gt := by
    have p : 0 < (8388608 + T) * 2 ^ (((E : Int) - 150) - min ((E : Int) - 150) (-149)).toNat := Nat.mul_pos (by omega) (Nat.two_pow_pos _)
    rw [Int.compare_eq_gt, Nat.zero_mul]
    omega
  rw [c]
  decide
end FPB
