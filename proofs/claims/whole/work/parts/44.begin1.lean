def allPay (f : Nat → Int32) (s : Int32) : Nat → Bool
  | 0 => true
  | n + 1 => allPay f s n && decide (s ≤ f n)
theorem allPay_f {f : Nat → Int32} {s : Int32} {i n : Nat} (hi : i < n) (h : ¬ s ≤ f i) : allPay f s n = false := by
  induction n with
  | zero => omega
  | succ n ih =>
    rw [allPay]
    by_cases e : i = n
    · subst e
      rw [decide_eq_false h, Bool.and_false]
    · rw [ih (by omega), Bool.false_and]
theorem allPay_c {f g : Nat → Int32} {s : Int32} : ∀ {n : Nat}, (∀ i, i < n → f i = g i) → allPay f s n = allPay g s n
  | 0, _ => rfl
  | n + 1, h => by rw [allPay, allPay, allPay_c (fun i hi => h i (by omega)), h n (by omega)]
theorem cpay_ok {V : gV} {np : Nat} (hn : np ≤ 5) (h : V 11 0 = nI np) (s : Int32) : PX0_canAllPay s V ∧ MX0_canAllPay s V = if allPay (V 13) s np = true then 1 else 0 := by
  unfold PX0_canAllPay MX0_canAllPay
  refine pu_loop (fun f i => allPay (V 13) s i = true → PX0_canAllPay_2 f s (nI i) V ∧ BX0_canAllPay_2 f s (nI i) V = if allPay (V 13) s np = true then 1 else 0) np (fun f hq => ?_) (fun f i hi ih hq => ?_) np 1000 0 (by omega) (by omega) rfl
  · have e : nI np ≤ nI np := nI_le (Nat.le_refl _) (by omega)
    simp only [PX0_canAllPay_2, BX0_canAllPay_2, h]
    simp [e, hq]
  · have e := nI_ge hi (by omega)
    have ea : MX4_at 12 (nI i) V = V 13 i := pu_at (n := 5) kd13 (by omega)
    simp only [PX0_canAllPay_2, BX0_canAllPay_2, h, ea, nI_1]
    rw [allPay, hq, Bool.true_and] at ih
    by_cases hx : s ≤ V 13 i
    · have ih := ih (decide_eq_true hx)
      simp [e, hx, ih]
    · have hb := allPay_f hi hx
      simp [e, hx, hb]
theorem mpay_ok {V : gV} {np : Nat} (hn : np ≤ 5) (h : V 214 1 = nI np) (s : Int32) : PX9_canPay s V ∧ MX9_canPay s V = if allPay (fun p => V 214 (192 + 6 * p)) s np = true then 1 else 0 := by
  unfold PX9_canPay MX9_canPay
  refine pu_loop (fun f i => PX9_canPay_4 f s (if allPay (fun p => V 214 (192 + 6 * p)) s i = true then 1 else 0) (nI i) V ∧ BX9_canPay_4 f s (if allPay (fun p => V 214 (192 + 6 * p)) s i = true then 1 else 0) (nI i) V = if allPay (fun p => V 214 (192 + 6 * p)) s np = true then 1 else 0) np (fun f => ?_) (fun f i hi ih => ?_) np 1000 0 (by omega) (by omega)
  · have e : nI np ≤ nI np := nI_le (Nat.le_refl _) (by omega)
    simp only [PX9_canPay_4, BX9_canPay_4, pc1, h]
    simp [e, gZ_i]
  · have e := nI_ge hi (by omega)
    have ea : MX9_at (nI i) 0 V = nI (192 + 6 * i) := at_nat (w := 0) (by omega) (by omega)
    have p0 := pu_in (show 192 + 6 * i < 246 by omega) (show 246 < 2 ^ 31 by omega)
    simp only [PX9_canPay_4, BX9_canPay_4, PX9_canPay_36, BX9_canPay_36, PX9_canPay_37, BX9_canPay_37, pc1, h, ea, nI_clamp (show 192 + 6 * i < 2 ^ 31 by omega), nI_1]
    rw [allPay] at ih
    cases hq : allPay (fun p => V 214 (192 + 6 * p)) s i with
    | false =>
      rw [hq, Bool.false_and] at ih
      simp at ih
      simp [e, ih]
    | true =>
      rw [hq, Bool.true_and] at ih
      by_cases hx : s ≤ V 214 (192 + 6 * i)
      · have hx2 : ¬ V 214 (192 + 6 * i) < s := Int32.not_lt.mpr hx
        rw [decide_eq_true hx] at ih
        simp at ih
        simp [e, hx2, p0, ih]
      · have hx2 : V 214 (192 + 6 * i) < s := Int32.not_le.mp hx
        rw [decide_eq_false hx] at ih
        simp at ih
        simp [e, hx2, p0, ih]
def tk (np : Nat) (s : Int32) (f : Nat → Int32) : Nat → Int32 := fun j => if j < np then f j + -s else f j
theorem take_ok {V : gV} {np : Nat} (hn : np ≤ 5) (h : V 11 0 = nI np) (s : Int32) : PX0_takeFromAll s V ∧ MX0_takeFromAll s V = gs V 13 (tk np s (V 13)) := by
  unfold PX0_takeFromAll MX0_takeFromAll
  have h0 : tk 0 s (V 13) = V 13 := by
    funext j
    exact if_neg (by omega)
  have key := pu_loop (fun f i => PX0_takeFromAll_2 f s (nI i) (gs V 13 (tk i s (V 13))) ∧ BX0_takeFromAll_2 f s (nI i) (gs V 13 (tk i s (V 13))) = gs V 13 (tk np s (V 13))) np (fun f => ?_) (fun f i hi ih => ?_) np 1000 0 (by omega) (by omega)
  · rw [h0, gs_self rfl] at key
    exact key
  · have e : nI np ≤ nI np := nI_le (Nat.le_refl _) (by omega)
    simp only [PX0_takeFromAll_2, BX0_takeFromAll_2, gs_ne (show 11 ≠ 13 by omega), h]
    simp [e]
  · have e := nI_ge hi (by omega)
    have rd : tk i s (V 13) i = V 13 i := if_neg (by omega)
    have pp : MX4_add 12 (nI i) (-s) (gs V 13 (tk i s (V 13))) = gs V 13 (upd (tk i s (V 13)) i (V 13 i + -s)) := by
      refine (pu_add (k := 12) (n := 5) kd13 (by omega)).trans ?_
      show gu (gs V 13 (tk i s (V 13))) 13 i (gs V 13 (tk i s (V 13)) 13 i + -s) = _
      rw [gs_at, rd, gu_gs]
    have st : upd (tk i s (V 13)) i (V 13 i + -s) = tk (i + 1) s (V 13) := by
      funext j
      unfold upd tk
      by_cases e1 : j = i
      · subst e1
        rw [if_pos rfl, if_pos (by omega)]
      · rw [if_neg e1]
        by_cases e2 : j < i
        · rw [if_pos e2, if_pos (by omega)]
        · rw [if_neg e2, if_neg (by omega)]
    simp only [PX0_takeFromAll_2, BX0_takeFromAll_2, PX0_takeFromAll_20, BX0_takeFromAll_20, gs_ne (show 11 ≠ 13 by omega), h, pp, st, nI_1]
    simp [e, ih]
def mk (np : Nat) (s : Int32) (m : Nat → Int32) : Nat → Int32 := fun j => if 192 ≤ j ∧ j < 192 + 6 * np then (if (j - 192) % 6 = 0 then m j - s else if (j - 192) % 6 = 4 then 26 else m j) else m j
theorem mk_lo {np j : Nat} {s : Int32} {m : Nat → Int32} (h : j < 192 ∨ 192 + 6 * np ≤ j) : mk np s m j = m j := if_neg (by omega)
theorem mk_s {i : Nat} {s : Int32} {m : Nat → Int32} : upd (upd (mk i s m) (192 + 6 * i) (m (192 + 6 * i) - s)) (192 + 6 * i + 4) 26 = mk (i + 1) s m := by
  funext j
  unfold upd mk
  by_cases e1 : j = 192 + 6 * i + 4
  · subst e1
    rw [if_pos rfl, if_pos (by omega), if_neg (by omega), if_pos (by omega)]
  · rw [if_neg e1]
    by_cases e2 : j = 192 + 6 * i
    · subst e2
      rw [if_pos rfl, if_pos (by omega), if_pos (by omega)]
    · rw [if_neg e2]
      by_cases e3 : 192 ≤ j ∧ j < 192 + 6 * i
      · rw [if_pos e3, if_pos (show 192 ≤ j ∧ j < 192 + 6 * (i + 1) by omega)]
      · rw [if_neg e3]
        by_cases e4 : 192 ≤ j ∧ j < 192 + 6 * (i + 1)
        · rw [if_pos e4, if_neg (by omega), if_neg (by omega)]
        · rw [if_neg e4]
theorem mbeg_loop {V : gV} {np z L : Nat} (hn : np ≤ 5) (h1 : V 214 1 = nI np) (h13 : V 214 13 = nI z) (hz : z < 16) (hL : V 214 (16 + 11 * z) = nI L) (s : Int32) : PX9_begin_204 s V ∧ BX9_begin_204 s V = (nI L, gs V 214 (mk np s (V 214))) := by
  unfold PX9_begin_204 BX9_begin_204
  have h0 : mk 0 s (V 214) = V 214 := by
    funext j
    exact if_neg (by omega)
  have key := pu_loop (fun f i => PX9_begin_206 f s (nI i) (gs V 214 (mk i s (V 214))) ∧ BX9_begin_206 f s (nI i) (gs V 214 (mk i s (V 214))) = (nI L, gs V 214 (mk np s (V 214)))) np (fun f => ?_) (fun f i hi ih => ?_) np 1000 0 (by omega) (by omega)
  · rw [h0, gs_self rfl] at key
    exact key
  · have e : nI np ≤ nI np := nI_le (Nat.le_refl _) (by omega)
    obtain ⟨q1, q2⟩ := mw_of (V := gs V 214 (mk np s (V 214))) (w := z) (j := 0) hz (by omega)
    have q2' : MX9_of (nI z) 0 (gs V 214 (mk np s (V 214))) = nI L := by
      refine q2.trans ?_
      rw [gs_at, mk_lo (by omega)]
      exact hL
    have q1' : PX9_of (nI z) 0 (gs V 214 (mk np s (V 214))) := q1
    simp only [PX9_begin_206, BX9_begin_206, pc1, pc13, gs_at, mk_lo (show 1 < 192 ∨ 192 + 6 * np ≤ 1 by omega), mk_lo (show 13 < 192 ∨ 192 + 6 * np ≤ 13 by omega), h1, h13, q2']
    simp [e, q1']
  · have e := nI_ge hi (by omega)
    have e0 : ∀ V1 : gV, MX9_at (nI i) 0 V1 = nI (192 + 6 * i) := fun V1 => at_nat (w := 0) (by omega) (by omega)
    have e4 : ∀ V1 : gV, MX9_at (nI i) 4 V1 = nI (192 + 6 * i + 4) := fun V1 => at_nat (w := 4) (by omega) (by omega)
    have p0 := pu_in (show 192 + 6 * i < 246 by omega) (show 246 < 2 ^ 31 by omega)
    have p4 := pu_in (show 192 + 6 * i + 4 < 246 by omega) (show 246 < 2 ^ 31 by omega)
    simp only [PX9_begin_206, BX9_begin_206, PX9_begin_230, BX9_begin_230, PX9_begin_242, BX9_begin_242, pc1, gs_at, mk_lo (show 1 < 192 ∨ 192 + 6 * i ≤ 1 by omega), h1, e0, e4, nI_clamp (show 192 + 6 * i < 2 ^ 31 by omega), nI_clamp (show 192 + 6 * i + 4 < 2 ^ 31 by omega), mk_lo (show 192 + 6 * i < 192 ∨ 192 + 6 * i ≤ 192 + 6 * i by omega), gu_gs, mk_s, nI_1]
    simp [e, p0, p4, ih]
theorem rem64 {a b : Nat} (ha : a < 2 ^ 62) (hb : b < 2 ^ 62) : lN a - lN a / lN b * lN b = lN (a % b) := by
  have e1 : lN a / lN b = lN (a / b) := by
    apply Int64.toInt_inj.mp
    have h1 : a / b ≤ a := Nat.div_le_self a b
    have ti : ∀ n : Nat, n < 2 ^ 63 → (lN n).toInt = (n : Int) := fun n hn => by
      show (Int64.ofNat n).toInt = _
      rw [Int64.toInt_ofNat_of_lt (by omega)]
    rw [Int64.toInt_div, ti a (by omega), ti b (by omega), ti _ (by omega), ← Int.ofNat_tdiv]
    have key : ∀ q : Nat, q ≤ a → (q : Int).bmod (2 ^ 64) = q := fun q hq => by
      rw [Int.bmod_def]
      split <;> omega
    exact key _ h1
  have h2 : a / b * b ≤ a := Nat.div_mul_le_self a b
  rw [e1, lN_mul, lN_sub h2]
  congr 1
  have := Nat.div_add_mod a b
  have h3 : b * (a / b) = a / b * b := Nat.mul_comm _ _
  omega
def nxt (d : Nat) : Nat := (d * 1103515245 + 12345) % 2147483648
theorem nxt_lt (d : Nat) : nxt d < 2 ^ 31 := Nat.mod_lt _ (by decide)
theorem behindN {d : Nat} (hd : d < 2 ^ 31) : ((((nI d).toInt64 * (1103515245 : Int64)) + (12345 : Int64)) - (((nI d).toInt64 * (1103515245 : Int64)) + (12345 : Int64)) / (2147483648 : Int64) * (2147483648 : Int64)).toInt32 = nI (nxt d) := by
  rw [nI_l hd, show (1103515245 : Int64) = lN 1103515245 from rfl, show (12345 : Int64) = lN 12345 from rfl, show (2147483648 : Int64) = lN 2147483648 from rfl, lN_mul, lN_add, rem64 (by omega) (by omega), lN_i]
  rfl
