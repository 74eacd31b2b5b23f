section TX5
variable {A B : gV} {k n : Nat} {ll ww : Nat → Nat} {lw : Nat → Nat → Nat} {L : Nat → Nat}
theorem m_same (hw : tW A B k ll ww lw) (hk : k < 16) (hn : tN A B k n L) {w : Nat} (h : w < k) (K : Int32 → Int32 → gV → Int32) (KP : Int32 → Int32 → gV → Prop) : (KP (if tEq ll lw n L w = true then 1 else 0) (nI (w + 1)) B → PX9_isDouble_48 KP 1000 (if ll w = n then 1 else 0) (nI w) 0 B) ∧ BX9_isDouble_48 K 1000 (if ll w = n then 1 else 0) (nI w) 0 B = K (if tEq ll lw n L w = true then 1 else 0) (nI (w + 1)) B := by
  obtain ⟨n1, n2, n3, n4, n5⟩ := hn
  obtain ⟨a1, a2, a3, a4, a5, a6⟩ := hw.2.2.2 w h
  have b6 : B 213 9 = nI k := hw.2.2.1
  have ik : (10 : Int32) * B 213 9 = nI (10 * k) := by rw [b6, show (10 : Int32) = nI 10 from rfl, pu_mul]
  have il : ∀ i, (10 : Int32) * B 213 9 + 2 + nI i = nI (10 * k + 2 + i) := fun i => by rw [ik, show (2 : Int32) = nI 2 from rfl, nI_add, nI_add]
  have iw : ∀ i, (10 : Int32) * nI w + 2 + nI i = nI (10 * w + 2 + i) := fun i => by rw [show (10 : Int32) = nI 10 from rfl, show (2 : Int32) = nI 2 from rfl, pu_mul, nI_add, nI_add]
  have p0 : vp_in ((10 : Int32) * B 213 9) 160 := by rw [ik]; exact pu_in (by omega) (by omega)
  have lk : B 218 ((10 : Int32) * B 213 9).toNatClampNeg = nI n := by rw [ik, nI_clamp (by omega), n4]
  have go : ((KP 0 (nI (w + 1)) B → PX9_isDouble_48 KP 1000 0 (nI w) (nI 0) B) ∧ BX9_isDouble_48 K 1000 0 (nI w) (nI 0) B = K 0 (nI (w + 1)) B) ∧ (ll w = n → sAll (fun i => decide (lw w i = L i)) 0 = true → (KP (if sAll (fun i => decide (lw w i = L i)) n = true then 1 else 0) (nI (w + 1)) B → PX9_isDouble_48 KP 1000 1 (nI w) (nI 0) B) ∧ BX9_isDouble_48 K 1000 1 (nI w) (nI 0) B = K (if sAll (fun i => decide (lw w i = L i)) n = true then 1 else 0) (nI (w + 1)) B) := by
    refine pu_loop (fun f i => ((KP 0 (nI (w + 1)) B → PX9_isDouble_48 KP f 0 (nI w) (nI i) B) ∧ BX9_isDouble_48 K f 0 (nI w) (nI i) B = K 0 (nI (w + 1)) B) ∧ (ll w = n → sAll (fun i => decide (lw w i = L i)) i = true → (KP (if sAll (fun i => decide (lw w i = L i)) n = true then 1 else 0) (nI (w + 1)) B → PX9_isDouble_48 KP f 1 (nI w) (nI i) B) ∧ BX9_isDouble_48 K f 1 (nI w) (nI i) B = K (if sAll (fun i => decide (lw w i = L i)) n = true then 1 else 0) (nI (w + 1)) B)) n (fun f => ?_) (fun f i hi ih => ?_) n 1000 0 (by omega) (by omega)
    · have e : nI n ≤ nI n := nI_le (Nat.le_refl _) (by omega)
      refine ⟨?_, fun _ hs => ?_⟩
      · simp only [PX9_isDouble_48, BX9_isDouble_48, PX9_isDouble_112, BX9_isDouble_112, lk, if_pos e, nI_1]
        exact ⟨fun q => ⟨p0, fun _ => q, fun q2 => absurd e q2⟩, trivial⟩
      · rw [if_pos hs]
        simp only [PX9_isDouble_48, BX9_isDouble_48, PX9_isDouble_112, BX9_isDouble_112, lk, if_pos e, nI_1]
        exact ⟨fun q => ⟨p0, fun _ => q, fun q2 => absurd e q2⟩, trivial⟩
    · have e8 := nI_ge hi (show n < 2 ^ 31 by omega)
      refine ⟨?_, fun hl hs => ?_⟩
      · simp only [PX9_isDouble_48, BX9_isDouble_48, PX9_isDouble_112, BX9_isDouble_112, lk, if_neg e8, nI_1]
        exact ⟨fun q => ⟨p0, fun q2 => absurd q2 e8, fun _ => ⟨fun _ => q, fun q2 => absurd trivial q2⟩⟩, if_pos trivial⟩
      · obtain ⟨b1, b2, b3⟩ := a6 i (by omega)
        obtain ⟨d1, d2, d3⟩ := n5 i hi
        have q1 : vp_in ((10 : Int32) * nI w + 2 + nI i) 160 := by rw [iw]; exact pu_in (by omega) (by omega)
        have q2 : vp_in ((10 : Int32) * B 213 9 + 2 + nI i) 160 := by rw [il]; exact pu_in (by omega) (by omega)
        have q3 : B 218 ((10 : Int32) * nI w + 2 + nI i).toNatClampNeg = nI (lw w i) := by rw [iw, nI_clamp (by omega), b3]
        have q4 : B 218 ((10 : Int32) * B 213 9 + 2 + nI i).toNatClampNeg = nI (L i) := by rw [il, nI_clamp (by omega), d3]
        simp only [PX9_isDouble_48, BX9_isDouble_48, PX9_isDouble_105, BX9_isDouble_105, lk, if_neg e8, if_neg one_ne, q3, q4, nI_1]
        by_cases c : lw w i = L i
        · have c2 : nI (lw w i) = nI (L i) := by rw [c]
          have hs2 : sAll (fun i => decide (lw w i = L i)) (i + 1) = true := by
            rw [sAll, hs, Bool.true_and]; exact decide_eq_true c
          obtain ⟨r1, r2⟩ := ih.2 hl hs2
          rw [if_pos c2]
          exact ⟨fun q => ⟨p0, fun q2 => absurd q2 e8, fun _ => ⟨fun q2 => absurd q2 one_ne, fun _ => ⟨q1, q2, fun _ => r1 q, fun q2 => absurd c2 q2⟩⟩⟩, r2⟩
        · have c2 : ¬ nI (lw w i) = nI (L i) := fun q => c ((nI_eq (by omega) (by omega)).mp q)
          obtain ⟨r1, r2⟩ := ih.1
          rw [if_neg c2, if_neg (by rw [sAll_f hi (decide_eq_false c)]; exact Bool.false_ne_true)]
          exact ⟨fun q => ⟨p0, fun q2 => absurd q2 e8, fun _ => ⟨fun q2 => absurd q2 one_ne, fun _ => ⟨q1, q2, fun q2 => absurd q2 c2, fun _ => r1 q⟩⟩⟩, r2⟩
  unfold tEq
  by_cases e : ll w = n
  · rw [if_pos e, decide_eq_true e, Bool.true_and]
    exact go.2 e rfl
  · rw [if_neg e, decide_eq_false e, Bool.false_and, if_neg Bool.false_ne_true]
    exact go.1
theorem m_double (hw : tW A B k ll ww lw) (hk : k < 16) (hn : tN A B k n L) : PX9_isDouble B ∧ MX9_isDouble B = if sEx (tEq ll lw n L) k = true then 1 else 0 := by
  have b6 : B 213 9 = nI k := hw.2.2.1
  have n4 := hn.2.2.2.1
  have ik : (10 : Int32) * B 213 9 = nI (10 * k) := by rw [b6, show (10 : Int32) = nI 10 from rfl, pu_mul]
  have p0 : vp_in ((10 : Int32) * B 213 9) 160 := by rw [ik]; exact pu_in (by omega) (by omega)
  have lk : B 218 ((10 : Int32) * B 213 9).toNatClampNeg = nI n := by rw [ik, nI_clamp (by omega), n4]
  unfold PX9_isDouble MX9_isDouble
  have go : (PX9_isDouble_4 1000 (if sEx (tEq ll lw n L) 0 = true then 1 else 0) (nI 0) B) ∧ BX9_isDouble_4 1000 (if sEx (tEq ll lw n L) 0 = true then 1 else 0) (nI 0) B = if sEx (tEq ll lw n L) k = true then 1 else 0 := by
    refine pu_loop (fun f i => PX9_isDouble_4 f (if sEx (tEq ll lw n L) i = true then 1 else 0) (nI i) B ∧ BX9_isDouble_4 f (if sEx (tEq ll lw n L) i = true then 1 else 0) (nI i) B = if sEx (tEq ll lw n L) k = true then 1 else 0) k (fun f => ?_) (fun f i hi ih => ?_) k 1000 0 (by omega) (by omega)
    · have e : nI k ≤ nI k := nI_le (Nat.le_refl _) (by omega)
      simp only [PX9_isDouble_4, BX9_isDouble_4, b6, if_pos e]
      exact ⟨⟨fun _ => gZ_i, fun q => absurd e q⟩, trivial⟩
    · have e8 := nI_ge hi (show k < 2 ^ 31 by omega)
      cases hs : sEx (tEq ll lw n L) i with
      | true =>
        simp only [PX9_isDouble_4, BX9_isDouble_4, if_true, b6, if_neg e8, if_neg one_ne]
        rw [if_pos (by
          have : ∀ j, i ≤ j → sEx (tEq ll lw n L) j = true := by
            intro j hj
            induction hj with
            | refl => exact hs
            | step _ ih2 => rw [sEx, ih2, Bool.true_or]
          exact this k (by omega))]
        exact ⟨⟨fun q => absurd q e8, fun _ => ⟨fun q => absurd q one_ne, fun _ => gZ_1⟩⟩, rfl⟩
      | false =>
        obtain ⟨a1, a2, a3, a4, a5, a6⟩ := hw.2.2.2 i hi
        obtain ⟨s1, s2⟩ := m_same hw hk hn hi (BX9_isDouble_4 f) (PX9_isDouble_4 f)
        rw [sEx, hs, Bool.false_or] at ih
        have iw : (10 : Int32) * nI i = nI (10 * i) := by rw [show (10 : Int32) = nI 10 from rfl, pu_mul]
        have p1 : vp_in ((10 : Int32) * nI i) 160 := by rw [iw]; exact pu_in (by omega) (by omega)
        have lw' : B 218 ((10 : Int32) * nI i).toNatClampNeg = nI (ll i) := by rw [iw, nI_clamp (by omega), a3]
        have ff : (if false = true then (1 : Int32) else 0) = 0 := rfl
        rw [ff]
        simp only [PX9_isDouble_4, BX9_isDouble_4, PX9_isDouble_45, BX9_isDouble_45, if_neg e8, lk, lw']
        rw [b6, if_neg e8, if_pos trivial]
        by_cases e : ll i = n
        · have en : nI (ll i) = nI n := by rw [e]
          rw [if_pos e] at s1 s2
          rw [if_pos en, s2]
          rw [b6] at p0
          exact ⟨⟨fun q => absurd q e8, fun _ => ⟨fun _ => ⟨p1, p0, fun _ => s1 ih.1, fun q => absurd en q⟩, fun q => absurd trivial q⟩⟩, ih.2⟩
        · have en : ¬ nI (ll i) = nI n := fun q => e ((nI_eq (by have := a1.2.1; omega) (by have := hn.2.1; omega)).mp q)
          rw [if_neg e] at s1 s2
          rw [if_neg en, s2]
          rw [b6] at p0
          exact ⟨⟨fun q => absurd q e8, fun _ => ⟨fun _ => ⟨p1, p0, fun q => absurd q en, fun _ => s1 ih.1⟩, fun q => absurd trivial q⟩⟩, ih.2⟩
  exact go
end TX5
