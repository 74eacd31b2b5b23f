section FPC
theorem fp_ofInt (T : Nat) : Int32.ofInt (T : Int) = nI T := Int32.toBitVec_inj.1 (BitVec.ofInt_natCast 32 T)
theorem fp_lg {T : Nat} (h : 0 < T) : ∃ l, 2 ^ l ≤ T ∧ T < 2 ^ (l + 1) := ⟨T.log2, (Nat.le_log2 (by omega)).mp (Nat.le_refl _), (Nat.log2_lt (by omega)).mp (Nat.lt_succ_self _)⟩
theorem fp_lb {T l k : Nat} (h1 : 2 ^ l ≤ T) (h : T < 2 ^ k) : l < k := (Nat.pow_lt_pow_iff_right (a := 2) (by omega)).mp (Nat.lt_of_le_of_lt h1 h)
theorem fp_sub1 {T : Nat} (ht : T < 8388608) : FP.Core.sub FP.Core.b32 (127 * 8388608 + T) (127 * 8388608 + 0) = FP.Core.encode FP.Core.b32 (FP.Core.roundRatio FP.Core.b32 false T 1 (-23)) := by
  have hv : FP.Core.sumUnits false (8388608 + T) (((127 : Nat) : Int) - 150) true (8388608 + 0) (((127 : Nat) : Int) - 150) (min (((127 : Nat) : Int) - 150) (((127 : Nat) : Int) - 150)) = (T : Int) := by
    unfold FP.Core.sumUnits FP.Core.inUnits
    rw [show (((127 : Nat) : Int) - 150 - min (((127 : Nat) : Int) - 150) (((127 : Nat) : Int) - 150)).toNat = 0 by omega, Nat.pow_zero, Nat.mul_one, Nat.mul_one]
    show ((8388608 + T : Nat) : Int) + -((8388608 + 0 : Nat) : Int) = _
    omega
  have hs : FP.Core.sumSign false true (T : Int) = false := by
    unfold FP.Core.sumSign
    by_cases e : (T : Int) = 0
    · rw [if_pos e]; rfl
    · rw [if_neg e]; exact decide_eq_false (by omega)
  unfold FP.Core.sub
  rw [fp_dec (by omega) (by omega) ht, fp_dec (by omega) (by omega) (by omega)]
  show FP.Core.encode FP.Core.b32 (FP.Core.roundRatio FP.Core.b32 (FP.Core.sumSign false true (FP.Core.sumUnits false (8388608 + T) (((127 : Nat) : Int) - 150) true (8388608 + 0) (((127 : Nat) : Int) - 150) (min (((127 : Nat) : Int) - 150) (((127 : Nat) : Int) - 150)))) (FP.Core.sumUnits false (8388608 + T) (((127 : Nat) : Int) - 150) true (8388608 + 0) (((127 : Nat) : Int) - 150) (min (((127 : Nat) : Int) - 150) (((127 : Nat) : Int) - 150))).natAbs 1 (min (((127 : Nat) : Int) - 150) (((127 : Nat) : Int) - 150))) = _
  rw [hv, hs]
  rfl
theorem fp_frac {T : Nat} (ht : T < 8388608) : ∃ w w2, FP.fsub (UInt32.ofNat (127 * 8388608 + T)) FP.fconst1 = UInt32.ofNat w ∧ w ≤ 2139095040 ∧ FP.fmul (UInt32.ofNat w) (1258291200 : UInt32) = UInt32.ofNat w2 ∧ w2 ≤ 2139095040 ∧ FP.f2i (UInt32.ofNat w2) = nI T := by
  rcases Nat.eq_zero_or_pos T with rfl | h
  · exact ⟨0, 0, by decide +kernel, by omega, by decide +kernel, by omega, by decide +kernel⟩
  obtain ⟨l, l1, l2⟩ := fp_lg h
  have l3 : l < 23 := fp_lb l1 (k := 23) ht
  obtain ⟨r1, r2, r3⟩ := fp_int (e := -23) l1 l2 (by omega) (by omega) (by omega)
  refine ⟨(l + 104) * 8388608 + (T * 2 ^ (23 - l) - 8388608), (l + 127) * 8388608 + (T * 2 ^ (23 - l) - 8388608), ?_, by omega, ?_, by omega, ?_⟩
  · show UInt32.ofNat (FP.Core.sub FP.Core.b32 (UInt32.ofNat (127 * 8388608 + T)).toNat (127 * 8388608 + 0)) = _
    rw [fp_toNat (by omega), fp_sub1 ht, r1, fp_enc r2 (l + 104) (by omega) (by omega)]
  · show UInt32.ofNat (FP.Core.mul FP.Core.b32 (UInt32.ofNat ((l + 104) * 8388608 + (T * 2 ^ (23 - l) - 8388608))).toNat (150 * 8388608)) = _
    rw [fp_toNat (by omega), fp_mul (by omega) (by omega) (by omega) (by omega) (by omega) (by omega) (by omega)]
    exact congrArg (fun z => UInt32.ofNat (z * 8388608 + (T * 2 ^ (23 - l) - 8388608))) (by omega)
  · show FP.Core.toI (FP.Core.decode FP.Core.b32 (UInt32.ofNat ((l + 127) * 8388608 + (T * 2 ^ (23 - l) - 8388608))).toNat) = _
    rw [fp_toNat (by omega), fp_dec (by omega) (by omega) (by omega), show 8388608 + (T * 2 ^ (23 - l) - 8388608) = T * 2 ^ (23 - l) by omega]
    show Int32.ofInt (max (-2 ^ 31) (min (2 ^ 31 - 1) ((T * 2 ^ (23 - l) * 2 ^ (((l + 127 : Nat) : Int) - 150).toNat / 2 ^ (-(((l + 127 : Nat) : Int) - 150)).toNat : Nat) : Int))) = _
    rw [show (((l + 127 : Nat) : Int) - 150).toNat = 0 by omega, show (-(((l + 127 : Nat) : Int) - 150)).toNat = 23 - l by omega, Nat.pow_zero, Nat.mul_one, Nat.mul_div_cancel _ (Nat.two_pow_pos _), show max (-2 ^ 31) (min (2 ^ 31 - 1) (T : Int)) = (T : Int) by omega]
    exact fp_ofInt T
theorem fp_shl : ∀ E, E < 128 → nI E <<< ((23 : Int32) &&& 31) = nI (E * 8388608) := by decide +kernel
theorem fp_40 {T E : Nat} {V : gV} (ht : T < 8388608) (hE : E < 128) : PX8_bitsOf_40 (UInt32.ofNat (127 * 8388608 + T)) (nI E) V ∧ BX8_bitsOf_40 (UInt32.ofNat (127 * 8388608 + T)) (nI E) V = nI (E * 8388608 + T) := by
  obtain ⟨w, w2, a1, a2, a3, a4, a5⟩ := fp_frac ht
  unfold PX8_bitsOf_40 BX8_bitsOf_40
  rw [a1, a3, a5, fp_shl E hE, nI_add]
  exact ⟨⟨fp_n32 a2, fp_n32 a4⟩, rfl⟩
theorem fp_dn (k : Nat) : nI (k + 1) + (-1) = nI k := by
  rw [← nI_1, Int32.add_assoc, show (1 : Int32) + -1 = 0 from rfl, Int32.add_zero]
theorem fp_bits {E T : Nat} {V : gV} (h1 : 2 ≤ E) (h2 : E ≤ 127) (ht : T < 8388608) : PX8_bitsOf (UInt32.ofNat (E * 8388608 + T)) V ∧ MX8_bitsOf (UInt32.ofNat (E * 8388608 + T)) V = nI (E * 8388608 + T) := by
  unfold PX8_bitsOf MX8_bitsOf
  have key := pu_loop (fun f i => PX8_bitsOf_15 f (UInt32.ofNat ((E + i) * 8388608 + T)) (nI (127 - i)) (nI i) V ∧ BX8_bitsOf_15 f (UInt32.ofNat ((E + i) * 8388608 + T)) (nI (127 - i)) (nI i) V = nI (E * 8388608 + T)) (127 - E) (fun f => ?_) (fun f i hi ih => ?_) (127 - E) 1000 0 (by omega) (by omega)
  · have c := fp_cmp0 (u := E * 8388608 + T) (by omega) (by omega)
    rw [if_pos c]
    exact ⟨fun _ => key.1, key.2⟩
  · have g : ¬ (126 : Int32) ≤ nI (127 - E) := nI_ge (a := 127 - E) (b := 126) (by omega) (by omega)
    have c := (fp_cmp1 (u := (E + (127 - E)) * 8388608 + T) (by omega) (by omega)).mpr (by omega)
    simp only [PX8_bitsOf_15, BX8_bitsOf_15, if_neg g, if_pos c]
    obtain ⟨q1, q2⟩ := fp_40 (E := E) (V := V) ht (by omega)
    rw [show E + (127 - E) = 127 by omega, show 127 - (127 - E) = E by omega]
    exact ⟨⟨fun q => absurd q g, fun _ => ⟨fun _ => q1, fun q => absurd (by rw [show E + (127 - E) = 127 by omega] at c; exact c) q⟩⟩, q2⟩
  · have g : ¬ (126 : Int32) ≤ nI i := nI_ge (a := i) (b := 126) (by omega) (by omega)
    have c : ¬ 0 ≤ Op.cmpValue (FP.fcmp (UInt32.ofNat ((E + i) * 8388608 + T)) FP.fconst1) CmpOp.g := fun q => by
      have := (fp_cmp1 (u := (E + i) * 8388608 + T) (by omega) (by omega)).mp q
      omega
    have m : FP.fmul (UInt32.ofNat ((E + i) * 8388608 + T)) FP.fconst2 = UInt32.ofNat ((E + (i + 1)) * 8388608 + T) := by
      rw [fp_mul2 (by omega) (by omega)]
      exact congrArg UInt32.ofNat (by omega)
    have d : nI (127 - i) + (-1) = nI (127 - (i + 1)) := by rw [show 127 - i = 127 - (i + 1) + 1 by omega, fp_dn]
    simp only [PX8_bitsOf_15, BX8_bitsOf_15, if_neg g, if_neg c, m, d, nI_1]
    exact ⟨⟨fun q => absurd q g, fun _ => ⟨fun q => absurd q c, fun _ => ⟨fp_n32 (by omega), ih.1⟩⟩⟩, ih.2⟩
theorem fp_raw {E T : Nat} {V : gV} (h1 : 1 ≤ E) (h2 : E ≤ 127) (ht : T < 8388608) : MJxf58ca_floatToIntBits_5c35a (UInt32.ofNat (E * 8388608 + T)) V = nI (E * 8388608 + T) := by
  have c : Op.cmpValue (FP.fcmp (UInt32.ofNat (E * 8388608 + T)) (UInt32.ofNat (E * 8388608 + T))) CmpOp.l = 0 := by
    show Op.cmpValue (FP.Core.order (FP.Core.decode FP.Core.b32 (UInt32.ofNat (E * 8388608 + T)).toNat) (FP.Core.decode FP.Core.b32 (UInt32.ofNat (E * 8388608 + T)).toNat)) CmpOp.l = 0
    rw [fp_toNat (by omega), fp_dec h1 (by omega) ht]
    show Op.cmpValue (some (compare (FP.Core.signed false (FP.Core.inUnits (8388608 + T) ((E : Int) - 150) (min ((E : Int) - 150) ((E : Int) - 150)))) (FP.Core.signed false (FP.Core.inUnits (8388608 + T) ((E : Int) - 150) (min ((E : Int) - 150) ((E : Int) - 150)))))) CmpOp.l = 0
    rw [Int.compare_eq_eq.mpr rfl]
    rfl
  have n : MJxf58ca_isNaN_12338 (UInt32.ofNat (E * 8388608 + T)) V = 0 := by unfold MJxf58ca_isNaN_12338; rw [if_pos c]
  unfold MJxf58ca_floatToIntBits_5c35a
  rw [if_pos n]
  rfl
end FPC
