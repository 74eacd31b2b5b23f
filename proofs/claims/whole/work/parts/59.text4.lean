section TX4
variable {A B : gV} {k n : Nat} {ll ww : Nat → Nat} {lw : Nat → Nat → Nat} {L : Nat → Nat}
/-- the word behind the last -/
def tN (A B : gV) (k n : Nat) (L : Nat → Nat) : Prop := 2 ≤ n ∧ n ≤ 8 ∧ A 204 k = nI n ∧ B 218 (10 * k) = nI n ∧ ∀ i, i < n → L i < 26 ∧ A 210 (k * 8 + i) = nI (L i) ∧ B 218 (10 * k + 2 + i) = nI (L i)
def tEq (ll : Nat → Nat) (lw : Nat → Nat → Nat) (n : Nat) (L : Nat → Nat) (w : Nat) : Bool := decide (ll w = n) && sAll (fun i => decide (lw w i = L i)) n
def sEx (f : Nat → Bool) : Nat → Bool
  | 0 => false
  | n + 1 => sEx f n || f n
theorem sEx_t {f : Nat → Bool} : ∀ {n i}, i < n → f i = true → sEx f n = true
  | n + 1, i, h, e => by
    show (sEx f n || f n) = true
    by_cases c : i = n
    · rw [← c, e, Bool.or_true]
    · rw [sEx_t (f := f) (n := n) (i := i) (by omega) e, Bool.true_or]
theorem c_lt (V : gV) {w i : Nat} (hw : w < 16) (hi : i < 8) : MX7_letterAt 202 (nI w) (nI i) V = V 210 (w * 8 + i) := by
  unfold MX7_letterAt
  rw [show (8 : Int32) = nI 8 from rfl, pu_mul, nI_add]
  exact pu_at (k := 209) (n := 128) kd210 (by omega)
theorem c_same (hw : tW A B k ll ww lw) (hk : k < 16) (hn : tN A B k n L) {w : Nat} (h : w < k) : PX7_areSame (nI w) (nI k) A ∧ MX7_areSame (nI w) (nI k) A = if tEq ll lw n L w = true then 1 else 0 := by
  obtain ⟨n1, n2, n3, n4, n5⟩ := hn
  obtain ⟨a1, a2, a3, a4, a5, a6⟩ := hw.2.2.2 w h
  have e1 : MX4_at 203 (nI k) A = nI n := (pu_at (k := 203) (n := 16) kd204 hk).trans n3
  have e2 : MX4_at 203 (nI w) A = nI (ll w) := (pu_at (k := 203) (n := 16) kd204 (by omega)).trans a2
  unfold PX7_areSame MX7_areSame tEq
  rw [e1, e2]
  by_cases e : ll w = n
  · have en : nI n = nI (ll w) := by rw [e]
    rw [if_pos en, e, decide_eq_true rfl, Bool.true_and]
    have go : sAll (fun i => decide (lw w i = L i)) 0 = true → PX7_areSame_26 1000 (nI w) (nI k) (nI n) (nI 0) A ∧ BX7_areSame_26 1000 (nI w) (nI k) (nI n) (nI 0) A = if sAll (fun i => decide (lw w i = L i)) n = true then 1 else 0 := by
      refine pu_loop (fun f i => sAll (fun i => decide (lw w i = L i)) i = true → PX7_areSame_26 f (nI w) (nI k) (nI n) (nI i) A ∧ BX7_areSame_26 f (nI w) (nI k) (nI n) (nI i) A = if sAll (fun i => decide (lw w i = L i)) n = true then 1 else 0) n (fun f => ?_) (fun f i hi ih => ?_) n 1000 0 (by omega) (by omega)
      · intro hs
        have e : nI n ≤ nI n := nI_le (Nat.le_refl _) (by omega)
        rw [if_pos hs]
        exact ⟨fun q => absurd e q, if_pos e⟩
      · intro hs
        have e8 := nI_ge hi (by omega)
        obtain ⟨b1, b2, b3⟩ := a6 i (by omega)
        obtain ⟨d1, d2, d3⟩ := n5 i hi
        simp only [PX7_areSame_26, BX7_areSame_26, if_neg e8, c_lt A (show w < 16 by omega) (show i < 8 by omega), c_lt A hk (show i < 8 by omega), b2, d2, nI_1]
        by_cases c : lw w i = L i
        · have c2 : nI (lw w i) = nI (L i) := by rw [c]
          have hs2 : sAll (fun i => decide (lw w i = L i)) (i + 1) = true := by
            rw [sAll, hs, Bool.true_and]; exact decide_eq_true c
          rw [if_pos c2]
          exact ⟨fun _ _ => (ih hs2).1, (ih hs2).2⟩
        · have c2 : ¬ nI (lw w i) = nI (L i) := fun q => c ((nI_eq (by omega) (by omega)).mp q)
          rw [if_neg c2, if_neg (by rw [sAll_f hi (decide_eq_false c)]; exact Bool.false_ne_true)]
          exact ⟨fun _ q => absurd q c2, rfl⟩
    exact ⟨fun _ => (go rfl).1, (go rfl).2⟩
  · have en : ¬ nI n = nI (ll w) := fun q => e ((nI_eq (by omega) (by omega)).mp q).symm
    rw [if_neg en, decide_eq_false e, Bool.false_and, if_neg Bool.false_ne_true]
    exact ⟨fun q => absurd q en, rfl⟩
theorem c_add (hw : tW A B k ll ww lw) (hk : k < 16) (hn : tN A B k n L) (x1 : Int32) : PX6_addWord x1 A ∧ MX6_addWord x1 A = if sEx (tEq ll lw n L) k = true then gu (gu A 201 1 x1) 201 2 3 else gu A 202 0 (nI (k + 1)) := by
  have b6 : A 202 0 = nI k := hw.2.1
  unfold PX6_addWord MX6_addWord
  have go : sEx (tEq ll lw n L) 0 = false → PX6_addWord_2 1000 x1 (nI 0) A ∧ BX6_addWord_2 1000 x1 (nI 0) A = if sEx (tEq ll lw n L) k = true then gu (gu A 201 1 x1) 201 2 3 else gu A 202 0 (nI (k + 1)) := by
    refine pu_loop (fun f i => sEx (tEq ll lw n L) i = false → PX6_addWord_2 f x1 (nI i) A ∧ BX6_addWord_2 f x1 (nI i) A = if sEx (tEq ll lw n L) k = true then gu (gu A 201 1 x1) 201 2 3 else gu A 202 0 (nI (k + 1))) k (fun f => ?_) (fun f i hi ih => ?_) k 1000 0 (by omega) (by omega)
    · intro hs
      have e : nI k ≤ nI k := nI_le (Nat.le_refl _) (by omega)
      simp only [PX6_addWord_2, BX6_addWord_2, b6, if_pos e, nI_1]
      rw [if_neg (by rw [hs]; exact Bool.false_ne_true)]
      exact ⟨fun q => absurd e q, rfl⟩
    · intro hs
      have e8 := nI_ge hi (show k < 2 ^ 31 by omega)
      obtain ⟨c1, c2⟩ := c_same hw hk hn hi
      simp only [PX6_addWord_2, BX6_addWord_2, b6, if_neg e8, nI_1, c2, c_fail]
      cases c : tEq ll lw n L i with
      | true =>
        rw [if_pos rfl, if_neg one_ne, if_pos (sEx_t hi c)]
        exact ⟨fun _ => ⟨c1, fun q => absurd q one_ne⟩, rfl⟩
      | false =>
        have hs2 : sEx (tEq ll lw n L) (i + 1) = false := by rw [sEx, hs, c]; rfl
        rw [if_neg Bool.false_ne_true, if_pos rfl]
        exact ⟨fun _ => ⟨c1, fun _ => (ih hs2).1⟩, (ih hs2).2⟩
  exact go rfl
end TX4
