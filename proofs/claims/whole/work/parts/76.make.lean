/-! CONSTRUCTORS: a made thing is a list of cells, its own first; wl: the list is linked as the world is (kinds kd, numbers v, relative places) -/
def adL (L : va_W) (k : Nat) : Nat := (L.getD k (0, .inr (0, []))).1
def eqE (e e2 : va_E) : Prop := e = e2 ∨ ∃ (c : ClassId) (f f2 : Nat → Option Nat), e = .inl (c, 4, .inr (.inr (.inr (.inr f)))) ∧ e2 = .inl (c, 4, .inr (.inr (.inr (.inr f2)))) ∧ ∀ j, j < 4 → f j = f2 j
theorem eqE.trans {a b c : va_E} (h : eqE a b) (h2 : eqE b c) : eqE a c := by
  rcases h with rfl | ⟨x, f, f2, e1, e2, e3⟩
  · exact h2
  · rcases h2 with rfl | ⟨y, g, g2, d1, d2, d3⟩
    · exact Or.inr ⟨x, f, f2, e1, e2, e3⟩
    · rw [e2] at d1
      cases d1
      exact Or.inr ⟨x, f, g2, e1, d2, fun j hj => (e3 j hj).trans (d3 j hj)⟩
/-- where a cell of each kind leads -/
def offs (c : Nat) : List Nat := match c with
  | 0 => [1, 3, 5, 7, 9, 11]
  | 1 => [1]
  | 2 => [1, 3, 5, 7]
  | 3 => []
  | 4 => [1]
  | 5 => [1, 10, 23, 24]
  | 6 => [1, 10]
  | 7 => [1, 3, 5, 7]
  | 8 => [1, 34, 67, 201]
  | 9 => [1, 2, 3, 4, 5]
  | 10 => [1, 34, 67, 100]
  | _ + 11 => []
def gMk (D : va_G) (cI cS : ClassId) (a : Nat → Nat) : gG := (D.1, D.2, a, cI, cS)
theorem gE_congr {D : va_G} {cI cS : ClassId} {a b : Nat → Nat} {v : Nat → Int32} {k k2 : Nat} : ∀ c : Nat, (∀ o ∈ offs c, a (k + o) = b (k2 + o)) → eqE (gE (gMk D cI cS a) v c k) (gE (gMk D cI cS b) v c k2)
  | 0, h => Or.inl (by
    have h1 := h 1 (by decide); have h3 := h 3 (by decide); have h5 := h 5 (by decide); have h7 := h 7 (by decide); have h9 := h 9 (by decide); have h11 := h 11 (by decide)
    show (.inr (0, [.int (v 0), .ref (a (k + 1)), .ref (a (k + 3)), .ref (a (k + 5)), .ref (a (k + 7)), .ref (a (k + 9)), .ref (a (k + 11))]) : va_E) = _
    rw [h1, h3, h5, h7, h9, h11]; rfl)
  | 1, h => Or.inl (by
    have h1 := h 1 (by decide)
    show (.inr (1, [.int (v 0), .int (v 1), .ref (a (k + 1))]) : va_E) = _
    rw [h1]; rfl)
  | 2, h => Or.inl (by
    have h1 := h 1 (by decide); have h3 := h 3 (by decide); have h5 := h 5 (by decide); have h7 := h 7 (by decide)
    show (.inr (2, [.int (v 0), .ref (a (k + 1)), .ref (a (k + 3)), .ref (a (k + 5)), .ref (a (k + 7))]) : va_E) = _
    rw [h1, h3, h5, h7]; rfl)
  | 3, _ => Or.inl rfl
  | 4, h => Or.inl (by
    have h1 := h 1 (by decide)
    show (.inr (4, [.ref (a (k + 1))]) : va_E) = _
    rw [h1]; rfl)
  | 5, h => Or.inl (by
    have h1 := h 1 (by decide); have h3 := h 10 (by decide); have h5 := h 23 (by decide); have h7 := h 24 (by decide)
    show (.inr (5, [.ref (a (k + 1)), .ref (a (k + 10)), .ref (a (k + 23)), .ref (a (k + 24)), .int (v 4), .int (v 5), .int (v 6), .int (v 7), .int (v 8)]) : va_E) = _
    rw [h1, h3, h5, h7]; rfl)
  | 6, h => Or.inl (by
    have h1 := h 1 (by decide); have h3 := h 10 (by decide)
    show (.inr (6, [.int (v 0), .int (v 1), .int (v 2), .ref (a (k + 1)), .ref (a (k + 10)), .int (v 5)]) : va_E) = _
    rw [h1, h3]; rfl)
  | 7, h => Or.inl (by
    have h1 := h 1 (by decide); have h3 := h 3 (by decide); have h5 := h 5 (by decide); have h7 := h 7 (by decide)
    show (.inr (7, [.int (v 0), .ref (a (k + 1)), .ref (a (k + 3)), .ref (a (k + 5)), .ref (a (k + 7))]) : va_E) = _
    rw [h1, h3, h5, h7]; rfl)
  | 8, h => Or.inl (by
    have h1 := h 1 (by decide); have h3 := h 34 (by decide); have h5 := h 67 (by decide); have h7 := h 201 (by decide)
    show (.inr (8, [.ref (a (k + 1)), .ref (a (k + 34)), .ref (a (k + 67)), .ref (a (k + 201)), .int (v 4)]) : va_E) = _
    rw [h1, h3, h5, h7]; rfl)
  | 9, h => Or.inl (by
    have h1 := h 1 (by decide); have h2 := h 2 (by decide); have h3 := h 3 (by decide); have h4 := h 4 (by decide); have h5 := h 5 (by decide)
    show (.inr (9, [.ref (a (k + 1)), .ref (a (k + 2)), .ref (a (k + 3)), .int (v 3), .int (v 4), .ref (a (k + 4)), .int (v 6), .int (v 7), .int (v 8), .int (v 9), .ref (a (k + 5))]) : va_E) = _
    rw [h1, h2, h3, h4, h5]; rfl)
  | 10, h => Or.inr ⟨cS, fun j => some (a (k + 1 + 33 * j)), fun j => some (b (k2 + 1 + 33 * j)), rfl, rfl, fun j hj => by
    have h1 := h 1 (by decide); have h3 := h 34 (by decide); have h5 := h 67 (by decide); have h7 := h 100 (by decide)
    rcases (show j = 0 ∨ j = 1 ∨ j = 2 ∨ j = 3 by omega) with rfl | rfl | rfl | rfl
    · exact congrArg some h1
    · exact congrArg some h3
    · exact congrArg some h5
    · exact congrArg some h7⟩
  | _ + 11, _ => Or.inl rfl
def wl (D : va_G) (cI cS : ClassId) (L : va_W) (kd : List Nat) (v : gV) : Prop := L.length = kd.length ∧ ∀ k, k < kd.length → ∃ e, L[k]? = some (adL L k, e) ∧ eqE e (gE (gMk D cI cS (adL L)) (v k) (kd.getD k 999) k)
def clos (kd : List Nat) : Bool := (List.range kd.length).all (fun i => (offs (kd.getD i 999)).all (fun o => decide (i + o < kd.length)))
theorem adL_l {L1 L2 : va_W} {k : Nat} (h : k < L1.length) : adL (L1 ++ L2) k = adL L1 k := by
  unfold adL
  rw [List.getD_eq_getElem?_getD, List.getD_eq_getElem?_getD, List.getElem?_append_left h]
theorem adL_r {L1 L2 : va_W} {k n : Nat} (h : L1.length = n) : adL (L1 ++ L2) (n + k) = adL L2 k := by
  subst h
  unfold adL
  rw [List.getD_eq_getElem?_getD, List.getD_eq_getElem?_getD, List.getElem?_append_right (by omega), Nat.add_sub_cancel_left]
theorem adL_s {x : Nat × va_E} {L : va_W} {k : Nat} : adL (x :: L) (k + 1) = adL L k := rfl
theorem wl.app {D : va_G} {cI cS : ClassId} {L1 L2 : va_W} {k1 k2 : List Nat} {v1 v2 : gV} (h1 : wl D cI cS L1 k1 v1) (h2 : wl D cI cS L2 k2 v2) (hc : clos k1 = true) {v : gV} (e1 : ∀ k, k < k1.length → v k = v1 k) (e2 : ∀ k, k < k2.length → v (k1.length + k) = v2 k) : wl D cI cS (L1 ++ L2) (k1 ++ k2) v := by
  refine ⟨by rw [List.length_append, List.length_append, h1.1, h2.1], fun k hk => ?_⟩
  rw [List.length_append] at hk
  by_cases h : k < k1.length
  · obtain ⟨e, q1, q2⟩ := h1.2 k h
    have hl : k < L1.length := by rw [h1.1]; exact h
    refine ⟨e, by rw [List.getElem?_append_left hl, adL_l hl]; exact q1, ?_⟩
    rw [e1 k h, List.getD_eq_getElem?_getD, List.getElem?_append_left h, ← List.getD_eq_getElem?_getD]
    refine q2.trans (gE_congr _ fun o ho => ?_)
    have c1 := List.all_eq_true.mp (List.all_eq_true.mp hc k (List.mem_range.mpr h)) o ho
    have c2 : k + o < k1.length := of_decide_eq_true c1
    exact (adL_l (by rw [h1.1]; exact c2)).symm
  · obtain ⟨j, rfl⟩ : ∃ j, k = k1.length + j := ⟨k - k1.length, by omega⟩
    obtain ⟨e, q1, q2⟩ := h2.2 j (by omega)
    refine ⟨e, by rw [← h1.1, List.getElem?_append_right (by omega), Nat.add_sub_cancel_left, adL_r rfl]; exact q1, ?_⟩
    rw [e2 j (by omega), List.getD_eq_getElem?_getD, List.getElem?_append_right (by omega), Nat.add_sub_cancel_left, ← List.getD_eq_getElem?_getD]
    refine q2.trans (gE_congr _ fun o _ => ?_)
    rw [Nat.add_assoc]
    exact (adL_r h1.1).symm
theorem wl.cons {D : va_G} {cI cS : ClassId} {T : va_W} {kT : List Nat} {vT : gV} (h : wl D cI cS T kT vT) {h0 c : Nat} {e0 : va_E} {v : gV} (e1 : ∀ k, k < kT.length → v (k + 1) = vT k) (he : eqE e0 (gE (gMk D cI cS (adL ((h0, e0) :: T))) (v 0) c 0)) : wl D cI cS ((h0, e0) :: T) (c :: kT) v := by
  refine ⟨by rw [List.length_cons, List.length_cons, h.1], fun k hk => ?_⟩
  cases k with
  | zero => exact ⟨e0, rfl, he⟩
  | succ k =>
    have hk2 : k < kT.length := by rw [List.length_cons] at hk; omega
    obtain ⟨e, q1, q2⟩ := h.2 k hk2
    refine ⟨e, by rw [List.getElem?_cons_succ, adL_s]; exact q1, ?_⟩
    rw [e1 k hk2]
    show eqE e (gE _ (vT k) (kT.getD k 999) (k + 1))
    refine q2.trans (gE_congr _ fun o _ => ?_)
    rw [show k + 1 + o = k + o + 1 by omega]
    exact adL_s.symm
theorem wl.nil {D : va_G} {cI cS : ClassId} {v : gV} : wl D cI cS [] [] v := ⟨rfl, fun k hk => absurd hk (Nat.not_lt_zero k)⟩
/-- a row of n noughts -/
theorem wl.arr {D : va_G} {cI cS : ClassId} {q n : Nat} {v : gV} (hv : v 0 = fun _ => 0) : wl D cI cS [(q, .inl (cI, n, .inl (fun _ => 0)))] [n + 11] v := by
  refine wl.nil.cons (vT := fun _ _ => 0) (fun k hk => absurd hk (Nat.not_lt_zero k)) ?_
  rw [hv]
  exact Or.inl rfl
/-- what a constructor is given: its one cell, and what the tables say -/
def hK (D : va_G) (cI cS : ClassId) (s : State) : Prop := va_K D vwCl [(cI, .int), (cS, .object "GuessingHall$State")] s ∧ gN s ∧ va_AO "GuessingHall$State" s
theorem hK.warm {D : va_G} {cI cS : ClassId} {s U : State} (hW : s.WarmedH U.vm) (h : hK D cI cS s) : hK D cI cS U := ⟨va_K.moved hW.alike h.1, h.2.1.warm hW, h.2.2.moved hW.alike⟩
def hB (D : va_G) (cI cS : ClassId) (x : Nat × va_E) (sz : Nat) (U : State) : Prop := U.heap.size = sz ∧ va_P D vwCl [x] U.heap ∧ hK D cI cS U
theorem hx_blind {D : va_G} {cI cS : ClassId} {x : Nat × va_E} {sz : Nat} {As : List Value} : FrameBlind (va_Pc As (hB D cI cS x sz)) := fun a U g mk q => by
  obtain ⟨q1, q2, q3, q4, q5, q6⟩ := q
  exact ⟨q1, q2, q3, va_K.moved (u := U) (U := U.calling g mk a) (Vm.Alike.refl U.vm) q4, gN.same rfl q5, va_AO.moved (u := U) (U := U.calling g mk a) (Vm.Alike.refl U.vm) q6⟩
theorem hx_pre {D : va_G} {cI cS : ClassId} {x : Nat × va_E} {As : List Value} {s : State} {H : Heap} (hP : va_P D vwCl [x] H) (hKK : hK D cI cS s) : PreS s H (va_Pc As (hB D cI cS x H.size)) As :=
  ⟨hx_blind, fun U hU hW => ⟨rfl, by rw [hU], by rw [hU]; exact hP, hKK.warm hW⟩⟩
theorem hx_one {A : Nat → Prop} {x : Nat × va_E} (h : A x.1) : va_D A [x] := by
  refine ⟨fun i j p q hp hq _ => ?_, fun k q hk => ?_⟩
  · have a := (List.getElem?_eq_some_iff.mp hp).1
    have b := (List.getElem?_eq_some_iff.mp hq).1
    simp at a b
    omega
  · have a := (List.getElem?_eq_some_iff.mp hk).1
    simp at a
    subst a
    cases hk
    exact h
theorem hx_at {ws : va_W} {x : Nat × va_E} : (ws ++ [x])[ws.length]? = some x := by
  rw [List.getElem?_append_right (Nat.le_refl _), Nat.sub_self]
  rfl
theorem hx_cut {D : va_G} {ws : va_W} {x : Nat × va_E} {H : Heap} (hP : va_P D vwCl (ws ++ [x]) H) : va_P D vwCl [x] H := hP.sub [ws.length] (by simp [hx_at])
theorem hx_free {A0 : Nat → Prop} {ws : va_W} {x : Nat × va_E} {H0 H : Heap} {locs : List Loc} (hD : va_D A0 (ws ++ [x])) (hS : va_S A0 H0 H locs) (hA : ∀ q, H0.size ≤ q → A0 q) : ∀ q, va_A [x] H.size q → A0 q := va_free hD hS hA [ws.length] (by simp [hx_at])
theorem nd_range : ∀ (n : Nat) (l : List Nat), va_nd l = true → (∀ x ∈ l, n ≤ x) → va_nd (List.range n ++ l) = true
  | 0, l, h, _ => by rw [List.range_zero, List.nil_append]; exact h
  | n + 1, l, h, h2 => by
    rw [List.range_succ, List.append_assoc]
    refine nd_range n (n :: l) ?_ ?_
    · show (decide (n ∉ l) && va_nd l) = true
      rw [h, Bool.and_true]
      refine decide_eq_true (fun q => ?_)
      have := h2 n q
      omega
    · intro x hx
      rcases List.mem_cons.mp hx with rfl | hx
      · omega
      · have := h2 x hx; omega
theorem hx_map {ws : va_W} {x : Nat × va_E} : (List.range ws.length).map (fun i => (ws ++ [x])[i]?) = ws.map some := by
  refine List.ext_getElem? fun i => ?_
  rw [List.getElem?_map, List.getElem?_map]
  by_cases h : i < ws.length
  · rw [List.getElem?_range h, List.getElem?_eq_getElem h]
    show some (ws ++ [x])[i]? = _
    rw [List.getElem?_append_left h, List.getElem?_eq_getElem h]
    rfl
  · rw [List.getElem?_eq_none (by simpa using h), List.getElem?_eq_none (by omega)]
    rfl
theorem hx_join {A0 : Nat → Prop} {D : va_G} {ws w1 : va_W} {x : Nat × va_E} {H H1 : Heap} (hP : va_P D vwCl (ws ++ [x]) H) (hD : va_D A0 (ws ++ [x])) (hk : ∀ q : Nat, q < H.size → ¬ va_A [x] H.size q → H1[q]? = H[q]?) (hF : ∀ q, va_A [x] H.size q → A0 q) (hP1 : va_P D vwCl w1 H1) (hD1 : va_D (va_A [x] H.size) w1) : va_P D vwCl (ws ++ w1) H1 ∧ va_D A0 (ws ++ w1) :=
  va_join hP hD [ws.length] (List.range ws.length) (by simp [hx_at]) hx_map (by have := nd_range ws.length [] rfl (fun x hx => absurd hx List.not_mem_nil); rwa [List.append_nil] at this) (fun i hi => by have := List.mem_range.mp hi; simp; omega) hk hF hP1 hD1
/-- arrays of one kind have one class -/
theorem hx_cI {D : va_G} {cI cS cA : ClassId} {s : State} (hKK : hK D cI cS s) (h : va_K D vwCl ([(cI, .int), (cS, .object "GuessingHall$State")] ++ [(cA, .int)]) s) : cA = cI := by
  have a : s.vm.findClass ("[" ++ (FieldType.int).toString) = some cI := (hKK.1.2 0 _ rfl).2
  have b : s.vm.findClass ("[" ++ (FieldType.int).toString) = some cA := (h.2 2 _ rfl).2
  exact Option.some.inj (b.symm.trans a)
theorem hx_cS {D : va_G} {cI cS cA : ClassId} {s : State} (hKK : hK D cI cS s) (h : va_K D vwCl ([(cI, .int), (cS, .object "GuessingHall$State")] ++ [(cA, .object "GuessingHall$State")]) s) : cA = cS := by
  obtain ⟨-, -, -, -, -, a⟩ := (hKK.1.2 1 _ rfl).2
  obtain ⟨-, -, -, -, -, b⟩ := (h.2 2 _ rfl).2
  exact Option.some.inj (b.symm.trans a)
