section SH
variable {V : gV} {nw : Nat} {ln wt : Nat → Nat} {lt : Nat → Nat → Nat}
theorem mw_sharp (h : mW V nw ln wt lt) {z gd set : Nat} (hr : mR V nw ln lt z gd) (hs : set < 2 ^ 31) : PX9_sharpest_24 1000 (nI set) (-4) 17 0 V ∧ BX9_sharpest_24 1000 (nI set) (-4) 17 0 V = (sC (fun c => !gd.testBit c) (sLrg nw ln lt set) (-4) 26).1 := by
  have hn := h.1
  obtain ⟨hz, hg, r13, r6, r7⟩ := hr
  have hv : ∀ c, sLrg nw ln lt set c ≤ 16 := fun c => sLrg_le hn
  refine pu_loop (fun f i => PX9_sharpest_24 f (nI set) (sC (fun c => !gd.testBit c) (sLrg nw ln lt set) (-4) i).1 (nI (sC (fun c => !gd.testBit c) (sLrg nw ln lt set) (-4) i).2) (nI i) V ∧ BX9_sharpest_24 f (nI set) (sC (fun c => !gd.testBit c) (sLrg nw ln lt set) (-4) i).1 (nI (sC (fun c => !gd.testBit c) (sLrg nw ln lt set) (-4) i).2) (nI i) V = (sC (fun c => !gd.testBit c) (sLrg nw ln lt set) (-4) 26).1) 26 (fun f => ?_) (fun f i hi ih => ?_) 26 1000 0 (by omega) (by omega)
  · have e : (26 : Int32) ≤ nI 26 := nI_le (a := 26) (Nat.le_refl _) (by omega)
    exact ⟨fun q => absurd e q, if_pos e⟩
  · have e : ¬ (26 : Int32) ≤ nI i := nI_ge (b := 26) hi (by omega)
    obtain ⟨hP, hM⟩ := mw_greatest h hs (show i < 2 ^ 31 by omega)
    have b1 := hv i
    have b2 := sC_le (tk := fun c => !gd.testBit c) (b := -4) hv i
    have e17 : nI (sC (fun c => !gd.testBit c) (sLrg nw ln lt set) (-4) i).2 ≤ 17 := nI_le (b := 17) b2 (by omega)
    simp only [PX9_sharpest_24, BX9_sharpest_24, PX9_sharpest_59, BX9_sharpest_59, PX9_sharpest_73, BX9_sharpest_73, PX9_sharpest_86, BX9_sharpest_86, pc6, r6, hM, pu_shr (show gd < 2 ^ 31 by omega) (show i < 31 by omega), nI_1, nI_leI (show (sC (fun c => !gd.testBit c) (sLrg nw ln lt set) (-4) i).2 < 2 ^ 31 from Nat.lt_of_le_of_lt b2 (by omega)) (show sLrg nw ln lt set i < 2 ^ 31 from Nat.lt_of_le_of_lt b1 (by omega))]
    rw [sC] at ih
    cases hx : gd.testBit i with
    | true =>
      rw [if_neg (by simp [hx])] at ih
      simp [e, e17, ih]
    | false =>
      by_cases hy : sLrg nw ln lt set i < (sC (fun c => !gd.testBit c) (sLrg nw ln lt set) (-4) i).2
      · have hy2 : ¬ (sC (fun c => !gd.testBit c) (sLrg nw ln lt set) (-4) i).2 ≤ sLrg nw ln lt set i := by omega
        rw [if_pos ⟨by simp [hx], hy⟩] at ih
        simp [e, hP, hy2, ih]
      · have hy2 : (sC (fun c => !gd.testBit c) (sLrg nw ln lt set) (-4) i).2 ≤ sLrg nw ln lt set i := by omega
        rw [if_neg (fun q => hy q.2)] at ih
        simp [e, hP, hy2, ih]
end SH
/-! how many bits -/
def bc1 (x : Nat) : Nat := x - ((x / 2) &&& 1431655765)
def bc2 (y : Nat) : Nat := (y &&& 858993459) + ((y / 4) &&& 858993459)
def bc3 (z : Nat) : Nat := (z + z / 16) &&& 252645135
def bc4 (u : Nat) : Nat := u + u / 256
def bc5 (v : Nat) : Nat := (v + v / 65536) &&& 63
def bcN (x : Nat) : Nat := bc5 (bc4 (bc3 (bc2 (bc1 x))))
def cn : Nat → Nat → Nat
  | 0, _ => 0
  | f + 1, x => x % 2 + cn f (x / 2)
theorem la_k (k : Nat) {a b m n : Nat} (hb : b < 2 ^ k) (hn : n < 2 ^ k) : (2 ^ k * a + b) &&& (2 ^ k * m + n) = 2 ^ k * (a &&& m) + (b &&& n) := by
  apply Nat.eq_of_testBit_eq
  intro i
  have h3 : b &&& n < 2 ^ k := Nat.lt_of_le_of_lt Nat.and_le_left hb
  rw [Nat.testBit_and, Nat.testBit_two_pow_mul_add _ hb, Nat.testBit_two_pow_mul_add _ hn, Nat.testBit_two_pow_mul_add _ h3]
  split <;> rw [Nat.testBit_and]
theorem cn_app : ∀ k f i j, j < 2 ^ k → cn (k + f) (2 ^ k * i + j) = cn k j + cn f i
  | 0, f, i, j, h => by
    have : j = 0 := by have : (2 : Nat) ^ 0 = 1 := rfl; omega
    subst this
    simp [cn]
  | k + 1, f, i, j, h => by
    have e : 2 ^ (k + 1) = 2 * 2 ^ k := by rw [Nat.pow_succ, Nat.mul_comm]
    rw [show k + 1 + f = (k + f) + 1 by omega, cn, cn, e]
    have e1 : (2 * 2 ^ k * i + j) % 2 = j % 2 := by rw [Nat.mul_assoc]; omega
    have e2 : (2 * 2 ^ k * i + j) / 2 = 2 ^ k * i + j / 2 := by rw [Nat.mul_assoc]; omega
    rw [e1, e2, cn_app k f i (j / 2) (by omega)]
    omega
theorem cn_low : ∀ f x, x ≠ 0 → x < 2 ^ f → cn f x = cn f (x &&& (x - 1)) + 1
  | 0, x, h0, h => by have : (2 : Nat) ^ 0 = 1 := rfl; omega
  | f + 1, x, h0, h => by
    have e : 2 ^ (f + 1) = 2 * 2 ^ f := by rw [Nat.pow_succ, Nat.mul_comm]
    have h2 : ∀ a b m n, b < 2 → n < 2 → (2 * a + b) &&& (2 * m + n) = 2 * (a &&& m) + (b &&& n) := fun a b m n hb hn => la_k 1 hb hn
    rcases Nat.mod_two_eq_zero_or_one x with hx | hx
    · obtain ⟨a, rfl⟩ : ∃ a, x = 2 * a := ⟨x / 2, by omega⟩
      have k := h2 a 0 (a - 1) 1 (by omega) (by omega)
      rw [show 2 * a - 1 = 2 * (a - 1) + 1 by omega]
      simp only [Nat.add_zero, Nat.zero_and] at k
      rw [k, cn, cn, Nat.mul_mod_right, Nat.mul_mod_right, Nat.mul_div_cancel_left _ (by omega), Nat.mul_div_cancel_left _ (by omega), cn_low f a (by omega) (by omega)]
      omega
    · obtain ⟨a, rfl⟩ : ∃ a, x = 2 * a + 1 := ⟨x / 2, by omega⟩
      have k := h2 a 1 a 0 (by omega) (by omega)
      simp only [Nat.and_self, Nat.and_zero, Nat.add_zero] at k
      rw [Nat.add_sub_cancel, k, cn, cn]
      have e3 : (2 * a + 1) / 2 = a := by omega
      have e4 : 2 * a / 2 = a := by omega
      rw [e3, e4]
      omega
theorem cn_0 : ∀ f, cn f 0 = 0
  | 0 => rfl
  | f + 1 => by rw [cn, Nat.zero_mod, Nat.zero_div, cn_0 f]
theorem cn_le : ∀ f x, cn f x ≤ f
  | 0, x => Nat.le_refl _
  | f + 1, x => by
    have := cn_le f (x / 2)
    rw [cn]
    omega
theorem cn_ones {V : gV} {F : Nat} : ∀ (c x a g : Nat), x < 2 ^ F → F ≤ 31 → cn F x = c → PX9_ones_4 (c + 1 + g) (nI a) (nI x) V ∧ BX9_ones_4 (c + 1 + g) (nI a) (nI x) V = nI (a + c) := by
  intro c
  induction c with
  | zero =>
    intro x a g hx hF h
    have h0 : x = 0 := by
      rcases Nat.eq_zero_or_pos x with h0 | h0
      · exact h0
      · have := cn_low F x (by omega) hx
        omega
    subst h0
    rw [show 0 + 1 + g = g + 1 by omega]
    simp only [PX9_ones_4, BX9_ones_4]
    simp [nI_0]
  | succ c ih =>
    intro x a g hx hF h
    have h0 : x ≠ 0 := by
      intro q
      subst q
      rw [cn_0] at h
      omega
    have hx2 : 2 ^ F ≤ 2 ^ 31 := Nat.pow_le_pow_right (by omega) hF
    have k := cn_low F x h0 hx
    have hl : x &&& (x - 1) ≤ x := Nat.and_le_left
    have ih := ih (x &&& (x - 1)) (a + 1) g (by omega) hF (by omega)
    have e : ¬ nI x = 0 := nI_ne0 (by omega) (by omega)
    rw [show c + 1 + 1 + g = (c + 1 + g) + 1 by omega]
    simp only [PX9_ones_4, BX9_ones_4, nI_1]
    rw [show (1 : Int32) = nI 1 from rfl, pu_sub (show 1 ≤ x by omega), pu_and]
    rw [show a + (c + 1) = a + 1 + c by omega]
    simp [e, ih]
theorem mw_ones {V : gV} {x F : Nat} (h : x < 2 ^ F) (hF : F ≤ 31) : PX9_ones (nI x) V ∧ MX9_ones (nI x) V = nI (cn F x) := by
  unfold PX9_ones MX9_ones
  have hc := cn_le F x
  have k := cn_ones (V := V) (cn F x) x 0 (999 - cn F x) h hF rfl
  rw [show cn F x + 1 + (999 - cn F x) = 1000 by omega, Nat.zero_add] at k
  exact k
/-! the JDK's bitCount, byte by byte -/
theorem la256 {a b m n : Nat} (hb : b < 256) (hn : n < 256) : (256 * a + b) &&& (256 * m + n) = 256 * (a &&& m) + (b &&& n) := la_k 8 hb hn
theorem by_1 : ∀ j, j < 512 → (j / 2) &&& 85 = (j % 256 / 2) &&& 85 := by decide +kernel
theorem by_2 : ∀ j, j < 1024 → (j / 4) &&& 51 = (j % 256 / 4) &&& 51 := by decide +kernel
theorem by_3 : ∀ j, j < 256 → bc1 j < 256 ∧ bc2 (bc1 j) ≤ 68 ∧ bc2 (bc1 j) % 16 ≤ 4 ∧ bc3 (bc2 (bc1 j)) ≤ 8 ∧ bcN j = bc3 (bc2 (bc1 j)) ∧ cn 8 j = bcN j ∧ (j / 2 &&& 85) ≤ j ∧ (j / 2 &&& 1431655765) = (j / 2 &&& 85) := by decide +kernel
theorem by_4 : ∀ j, j < 256 → (j &&& 858993459) = (j &&& 51) ∧ (j / 4 &&& 858993459) = (j / 4 &&& 51) ∧ (j &&& 252645135) = (j &&& 15) ∧ (j + 16) % 256 &&& 15 = j &&& 15 := by decide +kernel
theorem by_5 : ∀ j, j < 256 → ∀ q, q < 16 → j + 16 * q < 256 → (j + 16 * q) &&& 15 = j &&& 15 := by decide +kernel
theorem by_6 : ∀ i, i < 256 → (i / 2) &&& 5592405 = (i / 2) &&& 85 := by decide +kernel
theorem by_7 : ∀ a, a < 256 → a &&& 3355443 = a &&& 51 ∧ (a / 4) &&& 3355443 = (a / 4) &&& 51 := by decide +kernel
theorem by_8 : ∀ a, a < 256 → a &&& 986895 = a &&& 15 := by decide +kernel
theorem bc_16 {i j : Nat} (hi : i < 256) (hj : j < 256) : bcN (256 * i + j) = cn 16 (256 * i + j) := by
  obtain ⟨i1, i2, i3, i4, i5, i6, i7, i8⟩ := by_3 i hi
  obtain ⟨j1, j2, j3, j4, j5, j6, j7, j8⟩ := by_3 j hj
  have s1 : bc1 (256 * i + j) = 256 * bc1 i + bc1 j := by
    unfold bc1
    rw [show (256 * i + j) / 2 = 256 * (i / 2) + (256 * (i % 2) + j) / 2 by omega, show 1431655765 = 256 * 5592405 + 85 from rfl, la256 (by omega) (by omega), by_1 (256 * (i % 2) + j) (by omega), show (256 * (i % 2) + j) % 256 = j by omega]
    rw [show (256 * 5592405 + 85) = 1431655765 from rfl, j8, i8]
    have : (i / 2) &&& 5592405 = (i / 2) &&& 85 := by_6 i hi
    rw [this]
    omega
  have s2 : bc2 (256 * bc1 i + bc1 j) = 256 * bc2 (bc1 i) + bc2 (bc1 j) := by
    generalize bc1 i = a at i1 i2 i3 i4 ⊢
    generalize bc1 j = b at j1 j2 j3 j4 ⊢
    obtain ⟨a1, a2, -, -⟩ := by_4 a i1
    obtain ⟨b1, b2, -, -⟩ := by_4 b j1
    unfold bc2
    rw [show (256 * a + b) / 4 = 256 * (a / 4) + (256 * (a % 4) + b) / 4 by omega, a1, a2, b1, b2, show 858993459 = 256 * 3355443 + 51 from rfl, la256 j1 (by omega), la256 (by omega) (by omega), by_2 (256 * (a % 4) + b) (by omega), show (256 * (a % 4) + b) % 256 = b by omega, (by_7 a i1).1, (by_7 a i1).2]
    omega
  have s3 : bc3 (256 * bc2 (bc1 i) + bc2 (bc1 j)) = 256 * bc3 (bc2 (bc1 i)) + bc3 (bc2 (bc1 j)) := by
    generalize bc2 (bc1 i) = a at i2 i3 i4 ⊢
    generalize bc2 (bc1 j) = b at j2 j3 j4 ⊢
    unfold bc3
    rw [show 256 * a + b + (256 * a + b) / 16 = 256 * (a + a / 16) + (b + b / 16 + 16 * (a % 16)) by omega, show 252645135 = 256 * 986895 + 15 from rfl, la256 (by omega) (by omega), by_5 (b + b / 16) (by omega) (a % 16) (by omega) (by omega)]
    rw [show 256 * 986895 + 15 = 252645135 from rfl, (by_4 (b + b / 16) (by omega)).2.2.1, (by_4 (a + a / 16) (by omega)).2.2.1, by_8 (a + a / 16) (by omega)]
  have s4 : bc5 (bc4 (256 * bc3 (bc2 (bc1 i)) + bc3 (bc2 (bc1 j)))) = bc3 (bc2 (bc1 i)) + bc3 (bc2 (bc1 j)) := by
    generalize bc3 (bc2 (bc1 i)) = a at i4 ⊢
    generalize bc3 (bc2 (bc1 j)) = b at j4 ⊢
    unfold bc4 bc5
    have k : ∀ x, x &&& 63 = x % 64 := fun x => Nat.and_two_pow_sub_one_eq_mod x 6
    have h1 : (256 * a + b) / 256 = a := by omega
    rw [k, h1]
    have h2 : (256 * a + b + a) / 65536 = 0 := by omega
    rw [h2]
    omega
  have e : cn 16 (256 * i + j) = cn 8 j + cn 8 i := cn_app 8 8 i j hj
  rw [e, i6, j6, i5, j5]
  unfold bcN
  rw [s1, s2, s3, s4]
  omega
theorem bc_ok {x : Nat} (h : x < 65536) : bcN x = cn 16 x := by
  have k := bc_16 (i := x / 256) (j := x % 256) (by omega) (by omega)
  rw [Nat.div_add_mod] at k
  exact k
theorem ju_shr {n : Nat} (hn : n < 2 ^ 32) : ((nI n).toUInt32 >>> ((1 : Int32).toUInt32 &&& Int32.toUInt32 31)).toInt32 = nI (n / 2) ∧ ((nI n).toUInt32 >>> ((2 : Int32).toUInt32 &&& Int32.toUInt32 31)).toInt32 = nI (n / 4) ∧ ((nI n).toUInt32 >>> ((4 : Int32).toUInt32 &&& Int32.toUInt32 31)).toInt32 = nI (n / 16) ∧ ((nI n).toUInt32 >>> ((8 : Int32).toUInt32 &&& Int32.toUInt32 31)).toInt32 = nI (n / 256) ∧ ((nI n).toUInt32 >>> ((16 : Int32).toUInt32 &&& Int32.toUInt32 31)).toInt32 = nI (n / 65536) :=
  ⟨pk_ushrN hn 1 1 (by decide), pk_ushrN hn 2 2 (by decide), pk_ushrN hn 4 4 (by decide), pk_ushrN hn 8 8 (by decide), pk_ushrN hn 16 16 (by decide)⟩
theorem ju_mod (x m : Nat) : nI x &&& nI m = nI (x &&& m) := fa_and x m
theorem bitCount_ok {V : gV} {x : Nat} (h : x < 65536) : MJ6_bitCount_0f7a4 (nI x) V = nI (cn 16 x) := by
  have hx : x < 2 ^ 32 := by omega
  have b1 : bc1 x ≤ x := Nat.sub_le _ _
  have b2 : bc2 (bc1 x) ≤ 2 * x := by
    have q1 : bc1 x &&& 858993459 ≤ bc1 x := Nat.and_le_left
    have q2 : bc1 x / 4 &&& 858993459 ≤ bc1 x / 4 := Nat.and_le_left
    unfold bc2
    omega
  have b3 : bc3 (bc2 (bc1 x)) ≤ 4 * x := by
    have q1 : (bc2 (bc1 x) + bc2 (bc1 x) / 16) &&& 252645135 ≤ bc2 (bc1 x) + bc2 (bc1 x) / 16 := Nat.and_le_left
    unfold bc3
    omega
  have b4 : bc4 (bc3 (bc2 (bc1 x))) ≤ 8 * x := by
    unfold bc4
    omega
  have s1 : (nI x - (((nI x).toUInt32 >>> ((1 : Int32).toUInt32 &&& Int32.toUInt32 31)).toInt32 &&& (1431655765 : Int32))) = nI (bc1 x) := by
    rw [(ju_shr hx).1, show (1431655765 : Int32) = nI 1431655765 from rfl, ju_mod, pu_sub (Nat.le_trans Nat.and_le_left (Nat.div_le_self _ _))]
    rfl
  have s2 : ((nI (bc1 x) &&& (858993459 : Int32)) + (((nI (bc1 x)).toUInt32 >>> ((2 : Int32).toUInt32 &&& Int32.toUInt32 31)).toInt32 &&& (858993459 : Int32))) = nI (bc2 (bc1 x)) := by
    rw [(ju_shr (show bc1 x < 2 ^ 32 by omega)).2.1, show (858993459 : Int32) = nI 858993459 from rfl, ju_mod, ju_mod, nI_add]
    rfl
  have s3 : ((nI (bc2 (bc1 x)) + ((nI (bc2 (bc1 x))).toUInt32 >>> ((4 : Int32).toUInt32 &&& Int32.toUInt32 31)).toInt32) &&& (252645135 : Int32)) = nI (bc3 (bc2 (bc1 x))) := by
    rw [(ju_shr (show bc2 (bc1 x) < 2 ^ 32 by omega)).2.2.1, nI_add, show (252645135 : Int32) = nI 252645135 from rfl, ju_mod]
    rfl
  have s4 : (nI (bc3 (bc2 (bc1 x))) + ((nI (bc3 (bc2 (bc1 x)))).toUInt32 >>> ((8 : Int32).toUInt32 &&& Int32.toUInt32 31)).toInt32) = nI (bc4 (bc3 (bc2 (bc1 x)))) := by
    rw [(ju_shr (show bc3 (bc2 (bc1 x)) < 2 ^ 32 by omega)).2.2.2.1, nI_add]
    rfl
  have s5 : ((nI (bc4 (bc3 (bc2 (bc1 x)))) + ((nI (bc4 (bc3 (bc2 (bc1 x))))).toUInt32 >>> ((16 : Int32).toUInt32 &&& Int32.toUInt32 31)).toInt32) &&& (63 : Int32)) = nI (bcN x) := by
    rw [(ju_shr (show bc4 (bc3 (bc2 (bc1 x))) < 2 ^ 32 by omega)).2.2.2.2, nI_add, show (63 : Int32) = nI 63 from rfl, ju_mod]
    rfl
  unfold MJ6_bitCount_0f7a4
  rw [s1, s2, s3, s4, s5, bc_ok h]
