/-! FLOATS: the chance of a letter, and its bits -/
section FPT
theorem fp_t : FP.Core.Fmt.tails FP.Core.b32 = 8388608 := by decide +kernel
theorem fp_e : FP.Core.Fmt.exps FP.Core.b32 = 256 := by decide +kernel
theorem fp_qn : FP.Core.Fmt.qmin FP.Core.b32 = -149 := by decide +kernel
theorem fp_qx : FP.Core.Fmt.qmax FP.Core.b32 = 104 := by decide +kernel
theorem fp_dec {E T : Nat} (h1 : 1 ≤ E) (h2 : E ≤ 254) (ht : T < 8388608) : FP.Core.decode FP.Core.b32 (E * 8388608 + T) = .fin false (8388608 + T) ((E : Int) - 150) := by
  have a1 : (E * 8388608 + T) / 8388608 = E := by omega
  have a2 : (E * 8388608 + T) % 8388608 = T := by omega
  have a3 : (-149 : Int) + ((E : Int) - 1) = (E : Int) - 150 := by omega
  unfold FP.Core.decode FP.Core.fieldE FP.Core.fieldT FP.Core.fieldS
  rw [fp_t, fp_e, fp_qn, a1, a2, show E % 256 = E by omega, show E / 256 % 2 = 0 by omega, if_neg (by omega), if_neg (by omega), a3]
  rfl
theorem fp_enc {c : Nat} {q : Int} (h1 : 8388608 ≤ c) (E : Nat) (hq : q = (E : Int) - 150) (hE : 1 ≤ E) : FP.Core.encode FP.Core.b32 (.fin false c q) = E * 8388608 + (c - 8388608) := by
  have a : (q - -149).toNat + 1 = E := by omega
  show (if c < FP.Core.Fmt.tails FP.Core.b32 then FP.Core.assemble FP.Core.b32 false 0 c else FP.Core.assemble FP.Core.b32 false ((q - FP.Core.Fmt.qmin FP.Core.b32).toNat + 1) (c - FP.Core.Fmt.tails FP.Core.b32)) = _
  rw [fp_t, fp_qn, if_neg (by omega), a]
  unfold FP.Core.assemble
  rw [fp_t, fp_e]
  show (0 * 256 + E) * 8388608 + (c - 8388608) = _
  omega
theorem fp_near {X d : Nat} (hd : 0 < d) : FP.Core.nearest (X * d) d = X := by
  unfold FP.Core.nearest
  rw [Nat.mul_mod_left, if_pos (by omega), Nat.mul_div_cancel _ hd]
theorem fp_log {n l : Nat} (h1 : 2 ^ l ≤ n) (h2 : n < 2 ^ (l + 1)) : n.log2 = l := by
  have h0 : n ≠ 0 := by have := Nat.two_pow_pos l; omega
  have a := (Nat.le_log2 h0 (k := l)).mpr h1
  have b := (Nat.log2_lt h0 (k := l + 1)).mpr h2
  omega
theorem fp_lead1 {n l : Nat} (h1 : 2 ^ l ≤ n) (h2 : n < 2 ^ (l + 1)) : FP.Core.leading n 1 = l := by
  have e1 : Nat.log2 1 = 0 := by decide +kernel
  unfold FP.Core.leading
  rw [fp_log h1 h2, e1]
  show (if 1 * 2 ^ ((l : Int) - (0 : Nat)).toNat ≤ n * 2 ^ (-((l : Int) - (0 : Nat))).toNat then ((l : Int) - (0 : Nat)) else ((l : Int) - (0 : Nat)) - 1) = _
  have a : ((l : Int) - (0 : Nat)).toNat = l := by omega
  have b : (-((l : Int) - (0 : Nat))).toNat = 0 := by omega
  rw [a, b, if_pos (by omega)]
  omega
theorem fp_rnd {num den : Nat} {e L : Int} {N : Nat} (hn : num ≠ 0) (hL : FP.Core.leading num den = L) (hq : -149 ≤ L + e - 23) (hx : L + e - 23 ≤ 104) (hN : FP.Core.nearest (num * 2 ^ (23 - L).toNat) (den * 2 ^ (L - 23).toNat) = N) (hb : N < 16777216) : FP.Core.roundRatio FP.Core.b32 false num den e = .fin false N (L + e - 23) := by
  have a1 : max (FP.Core.Fmt.qmin FP.Core.b32) (FP.Core.leading num den + e - ((FP.Core.b32.p : Int) - 1)) = L + e - 23 := by
    rw [fp_qn, hL]
    show max (-149) (L + e - (24 - 1)) = _
    omega
  have a2 : e - (L + e - 23) = 23 - L := by omega
  have a3 : L + e - 23 - e = L - 23 := by omega
  unfold FP.Core.roundRatio FP.Core.quantum
  rw [if_neg hn, a1]
  unfold FP.Core.roundAt FP.Core.unitsNum FP.Core.unitsDen
  rw [a2, a3, hN]
  unfold FP.Core.settle
  rw [if_pos (show N < 2 ^ FP.Core.b32.p from hb)]
  unfold FP.Core.bound
  rw [fp_qx, if_pos hx]
theorem fp_rndc {num den : Nat} {e L : Int} (hn : num ≠ 0) (hL : FP.Core.leading num den = L) (hq : -149 ≤ L + e - 23) (hx : L + e - 22 ≤ 104) (hN : FP.Core.nearest (num * 2 ^ (23 - L).toNat) (den * 2 ^ (L - 23).toNat) = 16777216) : FP.Core.roundRatio FP.Core.b32 false num den e = .fin false 8388608 (L + e - 22) := by
  have a1 : max (FP.Core.Fmt.qmin FP.Core.b32) (FP.Core.leading num den + e - ((FP.Core.b32.p : Int) - 1)) = L + e - 23 := by
    rw [fp_qn, hL]
    show max (-149) (L + e - (24 - 1)) = _
    omega
  have a2 : e - (L + e - 23) = 23 - L := by omega
  have a3 : L + e - 23 - e = L - 23 := by omega
  have a4 : L + e - 23 + 1 = L + e - 22 := by omega
  unfold FP.Core.roundRatio FP.Core.quantum
  rw [if_neg hn, a1]
  unfold FP.Core.roundAt FP.Core.unitsNum FP.Core.unitsDen
  rw [a2, a3, hN]
  unfold FP.Core.settle
  rw [if_neg (show ¬ 16777216 < 2 ^ FP.Core.b32.p by decide +kernel)]
  unfold FP.Core.bound
  rw [fp_qx, a4, if_pos hx, fp_t]
/-- a whole number below 2^24 stays whole -/
theorem fp_int {T l : Nat} {e : Int} (h1 : 2 ^ l ≤ T) (h2 : T < 2 ^ (l + 1)) (hl : l ≤ 23) (hq : -149 ≤ l + e - 23) (hx : l + e - 23 ≤ 104) : FP.Core.roundRatio FP.Core.b32 false T 1 e = .fin false (T * 2 ^ (23 - l)) (l + e - 23) ∧ 8388608 ≤ T * 2 ^ (23 - l) ∧ T * 2 ^ (23 - l) < 16777216 := by
  have hp := Nat.two_pow_pos (23 - l)
  have q1 : 2 ^ l * 2 ^ (23 - l) = 8388608 := by rw [← Nat.pow_add, show l + (23 - l) = 23 by omega]
  have q2 : 2 ^ (l + 1) * 2 ^ (23 - l) = 16777216 := by rw [← Nat.pow_add, show l + 1 + (23 - l) = 24 by omega]
  have b1 : 8388608 ≤ T * 2 ^ (23 - l) := by rw [← q1]; exact Nat.mul_le_mul_right _ h1
  have b2 : T * 2 ^ (23 - l) < 16777216 := by rw [← q2]; exact Nat.mul_lt_mul_of_pos_right h2 hp
  have h0 : T ≠ 0 := by have := Nat.two_pow_pos l; omega
  refine ⟨fp_rnd h0 (fp_lead1 h1 h2) hq hx ?_ b2, b1, b2⟩
  rw [show ((23 : Int) - (l : Int)).toNat = 23 - l by omega, show ((l : Int) - 23).toNat = 0 by omega]
  have q3 := fp_near (X := T * 2 ^ (23 - l)) (d := 1) (by omega)
  rw [Nat.mul_one] at q3
  exact q3
end FPT
