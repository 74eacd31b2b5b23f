/-! PURE FACTS: numbers, bits, loops -/
theorem pu_mul (a b : Nat) : nI a * nI b = nI (a * b) := (Int32.ofNat_mul a b).symm
theorem pu_sub {a b : Nat} (h : b ≤ a) : nI a - nI b = nI (a - b) := by
  have e : nI a = nI (a - b) + nI b := by rw [nI_add, Nat.sub_add_cancel h]
  rw [e, Int32.add_sub_cancel]
theorem fa_and (a b : Nat) : nI a &&& nI b = nI (a &&& b) := by
  apply Int32.toBitVec_inj.1
  show BitVec.ofNat 32 a &&& BitVec.ofNat 32 b = BitVec.ofNat 32 (a &&& b)
  apply BitVec.eq_of_getLsbD_eq
  intro i hi
  simp [hi]
theorem pu_and (a b : Nat) : nI a &&& nI b = nI (a &&& b) := fa_and a b
theorem fa_or (a b : Nat) : nI a ||| nI b = nI (a ||| b) := by
  apply Int32.toBitVec_inj.1
  show BitVec.ofNat 32 a ||| BitVec.ofNat 32 b = BitVec.ofNat 32 (a ||| b)
  apply BitVec.eq_of_getLsbD_eq
  intro i hi
  simp [hi]
theorem pu_or (a b : Nat) : nI a ||| nI b = nI (a ||| b) := fa_or a b
theorem pu_sh1 : ∀ k, k < 31 → (1 : Int32) <<< (nI k &&& 31) = nI (2 ^ k) := by decide +kernel
theorem pu_sl : ∀ n, n < 32 → ((nI n &&& 31).toBitVec.smod 32).toNat = n := by decide +kernel
theorem pu_p2 {k : Nat} (h : k < 31) : 2 ^ k < 2 ^ 31 := Nat.pow_lt_pow_right (by omega) h
theorem pu_m1 : ∀ k, k < 31 → ¬ ((-1 : Int32) &&& ((1 : Int32) <<< (nI k &&& 31))) = 0 := by decide +kernel
theorem fb_bit_nat (n j : Nat) : n &&& 2 ^ j = 0 ↔ n.testBit j = false := by
  constructor
  · intro h
    have h1 : (n &&& 2 ^ j).testBit j = false := by rw [h]; simp
    rw [Nat.testBit_and] at h1
    simpa using h1
  · intro h
    apply Nat.eq_of_testBit_eq
    intro i
    rw [Nat.testBit_and]
    by_cases hi : j = i
    · subst hi; simp [h]
    · first | (simp [Nat.testBit_two_pow, hi]; done) | (simp [Nat.testBit_two_pow_of_ne hi]; done)
theorem pu_bit2 (n k : Nat) : n &&& 2 ^ k = 0 ↔ n.testBit k = false := fb_bit_nat n k
theorem pu_bit {n k : Nat} (hn : n < 2 ^ 31) (hk : k < 31) : (nI n &&& ((1 : Int32) <<< (nI k &&& 31))) = 0 ↔ n.testBit k = false := by
  rw [pu_sh1 k hk, pu_and, ← nI_0, nI_eq (Nat.lt_of_le_of_lt Nat.and_le_left hn) (by omega), pu_bit2]
theorem pu_shr {n k : Nat} (hn : n < 2 ^ 31) (hk : k < 31) : ((nI n >>> (nI k &&& 31)) &&& 1) = 1 ↔ n.testBit k = true := by
  rw [pk_shrN hn (nI k &&& 31) k (pu_sl k (by omega)), show (1 : Int32) = nI 1 from rfl, pu_and, nI_eq (Nat.lt_of_le_of_lt Nat.and_le_right (by omega)) (by omega), Nat.and_one_is_mod, Nat.testBit_eq_decide_div_mod_eq, decide_eq_true_iff]
theorem pu_orb {a b k : Nat} (ha : a < 2 ^ k) (hb : b < 2 ^ k) : a ||| b < 2 ^ k := Nat.or_lt_two_pow ha hb
/-- the loops: from i on to n, with fuel above what is left -/
theorem pu_loop (Q : Nat → Nat → Prop) (n : Nat) (h0 : ∀ f, Q (f + 1) n) (h1 : ∀ f i, i < n → Q f (i + 1) → Q (f + 1) i) : ∀ m f i, i + m = n → m < f → Q f i := by
  intro m
  induction m with
  | zero =>
    intro f i h hf
    obtain ⟨f, rfl⟩ : ∃ z, f = z + 1 := ⟨f - 1, by omega⟩
    have : i = n := by omega
    subst this
    exact h0 f
  | succ m ih =>
    intro f i h hf
    obtain ⟨f, rfl⟩ : ∃ z, f = z + 1 := ⟨f - 1, by omega⟩
    exact h1 f i (by omega) (ih f (i + 1) (by omega) (by omega))
/-- reading a row through the class's own guard -/
theorem pu_at {k n j : Nat} {V : gV} (hk : gk (k + 1) = n + 11) (hj : j < n) : MX4_at k (nI j) V = V (k + 1) j := by
  have hn : n < 2 ^ 31 := by have := gh_len (k + 1); omega
  unfold MX4_at
  rw [hk, Nat.add_sub_cancel, if_neg (nI_pos (by omega)), if_neg (nI_ge hj hn), nI_clamp (by omega)]
theorem pu_put {k n j : Nat} {x : Int32} {V : gV} (hk : gk (k + 1) = n + 11) (hj : j < n) : MX4_put k (nI j) x V = gu V (k + 1) j x := by
  have hn : n < 2 ^ 31 := by have := gh_len (k + 1); omega
  unfold MX4_put
  rw [hk, Nat.add_sub_cancel, if_neg (nI_pos (by omega)), if_neg (nI_ge hj hn), nI_clamp (by omega)]
theorem pu_add {k n j : Nat} {x : Int32} {V : gV} (hk : gk (k + 1) = n + 11) (hj : j < n) : MX4_add k (nI j) x V = gu V (k + 1) j (V (k + 1) j + x) := by
  unfold MX4_add
  rw [pu_at hk hj, pu_put hk hj]
theorem pu_in {n N : Nat} (h : n < N) (hN : N < 2 ^ 31) : vp_in (nI n) N := vp_in_nI h hN
theorem gu_at {V : gV} {k j : Nat} {x : Int32} : gu V k j x k j = x := by simp [gu, gs, upd]
theorem gu_row {V : gV} {k j q : Nat} {x : Int32} (h : q ≠ k) : gu V k j x q = V q := by simp [gu, gs, h]
theorem gu_col {V : gV} {k j i : Nat} {x : Int32} (h : i ≠ j) : gu V k j x k i = V k i := by simp [gu, gs, upd, h]
theorem gu_eq (V : gV) (k j q i : Nat) (x : Int32) : gu V k j x q i = if q = k ∧ i = j then x else V q i := by
  unfold gu gs upd
  by_cases h : q = k
  · subst h
    by_cases h2 : i = j <;> simp [h2]
  · simp [h]
theorem gs_eq (V : gV) (k q i : Nat) (f : Nat → Int32) : gs V k f q i = if q = k then f i else V q i := by
  unfold gs
  by_cases h : q = k <;> simp [h]
theorem pu_hold {g k : Nat} {V : gV} (hg : g < 2 ^ 31) (hk : k < 31) : MX8_holds (nI g) (nI k) V = if g.testBit k then 1 else 0 := by
  unfold MX8_holds
  cases h : g.testBit k with
  | false => rw [if_pos ((pu_bit hg hk).mpr h)]; rfl
  | true => rw [if_neg (fun q => by rw [(pu_bit hg hk).mp q] at h; cases h)]; rfl
theorem pu_holdm {k : Nat} {V : gV} (hk : k < 31) : MX8_holds (-1) (nI k) V = 1 := by
  unfold MX8_holds
  rw [if_neg (pu_m1 k hk)]
theorem pu_ite01 {c : Bool} : ((if c = true then (1 : Int32) else 0) = 0) ↔ c = false := by cases c <;> decide
