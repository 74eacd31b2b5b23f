/-! THE RELATION of one state of the class (cells s, from its base on) to one row of the reference (m) -/
def rWd (s : gV) (m : Nat → Int32) (nw : Nat) (ln wt : Nat → Nat) (lt : Nat → Nat → Nat) : Prop := nw ≤ 16 ∧ s 1 0 = nI nw ∧ m 0 = nI nw ∧ ∀ w, w < nw → (2 ≤ ln w ∧ ln w ≤ 8 ∧ 1 ≤ wt w ∧ wt w ≤ 99) ∧ s 3 w = nI (ln w) ∧ m (16 + 11 * w) = nI (ln w) ∧ s 5 w = nI (wt w) ∧ m (16 + 11 * w + 1) = nI (wt w) ∧ s 7 w = m (16 + 11 * w + 2) ∧ ∀ k, k < ln w → lt w k < 26 ∧ s 9 (w * 8 + k) = nI (lt w k) ∧ m (16 + 11 * w + (3 + k)) = nI (lt w k)
def rBn (s : gV) (m : Nat → Int32) (np : Nat) : Prop := np ≤ 5 ∧ s 10 0 = nI np ∧ m 1 = nI np ∧ (∀ p, p < np → s 12 p = m (192 + 6 * p) ∧ s 14 p = m (192 + 6 * p + 1) ∧ s 16 p = m (192 + 6 * p + 2) ∧ s 18 p = m (192 + 6 * p + 3) ∧ s 20 p = m (192 + 6 * p + 4) ∧ (m (192 + 6 * p + 4) = 26 ∨ (s 22 p = m (192 + 6 * p + 5) ∧ ∃ q, q < np ∧ m (192 + 6 * p + 5) = nI q))) ∧ ∀ p, np ≤ p → p < 5 → m (192 + 6 * p + 1) = 0 ∧ m (192 + 6 * p + 2) = 0 ∧ m (192 + 6 * p + 3) = 0
def rPs (s : gV) (m : Nat → Int32) (kp : Nat) : Prop := kp ≤ 6 ∧ s 24 0 = nI kp ∧ m 15 = nI kp ∧ ∀ i, i < kp → s 26 i = m (222 + 4 * i) ∧ s 28 i = m (222 + 4 * i + 1) ∧ s 30 i = m (222 + 4 * i + 2) ∧ s 32 i = m (222 + 4 * i + 3)
def rNm (s : gV) (m : Nat → Int32) (np d lim st : Nat) : Prop := s 0 4 = m 8 ∧ s 0 6 = m 9 ∧ (d < 2 ^ 31 ∧ s 0 7 = nI d ∧ m 10 = nI d) ∧ (1 ≤ lim ∧ lim ≤ 12 ∧ s 0 8 = nI lim ∧ m 11 = nI lim) ∧ st ≤ np ∧ s 0 5 = nI st - 1 ∧ m 12 = nI st - 1
def rOn (s : gV) (m : Nat → Int32) (nw np lim : Nat) (ln : Nat → Nat) (lt : Nat → Nat → Nat) (z t ms gd : Nat) : Prop := s 23 0 = 1 ∧ m 2 = 1 ∧ z < nw ∧ t < np ∧ ms < lim ∧ gd < 2 ^ 26 ∧ (s 23 1 = nI z ∧ m 13 = nI z) ∧ s 23 2 = m 14 ∧ (s 23 3 = nI t ∧ m 3 = nI t) ∧ s 23 4 = m 4 ∧ (s 23 5 = nI ms ∧ m 5 = nI ms) ∧ (s 23 6 = nI gd ∧ m 6 = nI gd) ∧ m 7 = nI (sOr (fun k => gd.testBit (lt z k)) (ln z)) ∧ ∃ k, k < ln z ∧ gd.testBit (lt z k) = false
def rOff (s : gV) (m : Nat → Int32) (np : Nat) : Prop := s 23 0 = 0 ∧ m 2 = 0 ∧ ∀ p, p < np → m (192 + 6 * p + 4) = 26
def rRn (s : gV) (m : Nat → Int32) (nw np lim : Nat) (ln : Nat → Nat) (lt : Nat → Nat → Nat) : Prop := rOff s m np ∨ ∃ z t ms gd, rOn s m nw np lim ln lt z t ms gd
def gRel (s : gV) (m : Nat → Int32) : Prop := ∃ (nw np kp d lim st : Nat) (ln wt : Nat → Nat) (lt : Nat → Nat → Nat), rWd s m nw ln wt lt ∧ rBn s m np ∧ rPs s m kp ∧ rNm s m np d lim st ∧ rRn s m nw np lim ln lt
theorem S5_lt {c j : Nat} (h : S5 c j) : c < 33 := by
  unfold S5 at h
  rcases h with ((((((((⟨h1, h⟩ | ⟨h1, h⟩) | ⟨h1, h⟩) | ⟨h1, h⟩) | h) | h) | h) | h) | h)
  · unfold S7 at h; omega
  · unfold S0 at h; omega
  · unfold S3 at h; omega
  · unfold S2 at h; omega
  all_goals omega
theorem S5_1 {c j : Nat} (h : 1 ≤ c ∧ S7 (c - 1) j) : S5 c j := Or.inl (Or.inl (Or.inl (Or.inl (Or.inl (Or.inl (Or.inl (Or.inl h)))))))
theorem S5_2 {c j : Nat} (h : 10 ≤ c ∧ S0 (c - 10) j) : S5 c j := Or.inl (Or.inl (Or.inl (Or.inl (Or.inl (Or.inl (Or.inl (Or.inr h)))))))
theorem S5_3 {c j : Nat} (h : 23 ≤ c ∧ S3 (c - 23) j) : S5 c j := Or.inl (Or.inl (Or.inl (Or.inl (Or.inl (Or.inl (Or.inr h))))))
theorem S5_4 {c j : Nat} (h : 24 ≤ c ∧ S2 (c - 24) j) : S5 c j := Or.inl (Or.inl (Or.inl (Or.inl (Or.inl (Or.inr h)))))
theorem S5_5 {j : Nat} (h : 4 ≤ j ∧ j ≤ 8) : S5 0 j := by
  rcases (show j = 4 ∨ j = 5 ∨ j = 6 ∨ j = 7 ∨ j = 8 by omega) with e | e | e | e | e
  · exact Or.inl (Or.inl (Or.inl (Or.inl (Or.inr ⟨rfl, e⟩))))
  · exact Or.inl (Or.inl (Or.inl (Or.inr ⟨rfl, e⟩)))
  · exact Or.inl (Or.inl (Or.inr ⟨rfl, e⟩))
  · exact Or.inl (Or.inr ⟨rfl, e⟩)
  · exact Or.inr ⟨rfl, e⟩
theorem rWd.congr {s s2 : gV} {m m2 : Nat → Int32} {nw : Nat} {ln wt : Nat → Nat} {lt : Nat → Nat → Nat} (h : rWd s m nw ln wt lt) (hs : ∀ c j, (c = 1 ∧ j = 0) ∨ ((c = 3 ∨ c = 5 ∨ c = 7) ∧ j < 16) ∨ (c = 9 ∧ j < 128) → s2 c j = s c j) (hm : ∀ j, j = 0 ∨ (16 ≤ j ∧ j < 192) → m2 j = m j) : rWd s2 m2 nw ln wt lt := by
  obtain ⟨h1, h2, h3, h4⟩ := h
  refine ⟨h1, (hs _ _ (by omega)).trans h2, (hm _ (by omega)).trans h3, fun w hw => ?_⟩
  obtain ⟨a1, a2, a3, a4, a5, a6, a7⟩ := h4 w hw
  refine ⟨a1, (hs _ _ (by omega)).trans a2, (hm _ (by omega)).trans a3, (hs _ _ (by omega)).trans a4, (hm _ (by omega)).trans a5, ((hs _ _ (by omega)).trans a6).trans (hm _ (by omega)).symm, fun k hk => ?_⟩
  obtain ⟨b1, b2, b3⟩ := a7 k hk
  exact ⟨b1, (hs _ _ (by omega)).trans b2, (hm _ (by omega)).trans b3⟩
theorem rBn.congr {s s2 : gV} {m m2 : Nat → Int32} {np : Nat} (h : rBn s m np) (hs : ∀ c j, (c = 10 ∧ j = 0) ∨ ((c = 12 ∨ c = 14 ∨ c = 16 ∨ c = 18 ∨ c = 20 ∨ c = 22) ∧ j < 5) → s2 c j = s c j) (hm : ∀ j, j = 1 ∨ (192 ≤ j ∧ j < 222) → m2 j = m j) : rBn s2 m2 np := by
  obtain ⟨h1, h2, h3, h4, h5⟩ := h
  refine ⟨h1, (hs _ _ (by omega)).trans h2, (hm _ (by omega)).trans h3, fun p hp => ?_, fun p hp hp5 => ?_⟩
  · obtain ⟨a1, a2, a3, a4, a5, a6⟩ := h4 p hp
    have e := fun j (q : j < 6) => hm (192 + 6 * p + j) (by omega)
    have e0 := hm (192 + 6 * p) (by omega)
    have e1 := e 1 (by omega)
    have e2 := e 2 (by omega)
    have e3 := e 3 (by omega)
    have e4 := e 4 (by omega)
    have e5 := e 5 (by omega)
    rw [hs 12 p (by omega), hs 14 p (by omega), hs 16 p (by omega), hs 18 p (by omega), hs 20 p (by omega), hs 22 p (by omega), e0, e1, e2, e3, e4, e5]
    exact ⟨a1, a2, a3, a4, a5, a6⟩
  · rw [hm (192 + 6 * p + 1) (by omega), hm (192 + 6 * p + 2) (by omega), hm (192 + 6 * p + 3) (by omega)]
    exact h5 p hp hp5
theorem rPs.congr {s s2 : gV} {m m2 : Nat → Int32} {kp : Nat} (h : rPs s m kp) (hs : ∀ c j, (c = 24 ∧ j = 0) ∨ ((c = 26 ∨ c = 28 ∨ c = 30 ∨ c = 32) ∧ j < 6) → s2 c j = s c j) (hm : ∀ j, j = 15 ∨ (222 ≤ j ∧ j < 246) → m2 j = m j) : rPs s2 m2 kp := by
  obtain ⟨h1, h2, h3, h4⟩ := h
  refine ⟨h1, (hs _ _ (by omega)).trans h2, (hm _ (by omega)).trans h3, fun i hi => ?_⟩
  rw [hs 26 i (by omega), hs 28 i (by omega), hs 30 i (by omega), hs 32 i (by omega), hm (222 + 4 * i) (by omega), hm (222 + 4 * i + 1) (by omega), hm (222 + 4 * i + 2) (by omega), hm (222 + 4 * i + 3) (by omega)]
  exact h4 i hi
theorem rNm.congr {s s2 : gV} {m m2 : Nat → Int32} {np d lim st : Nat} (h : rNm s m np d lim st) (hs : ∀ j, 4 ≤ j ∧ j ≤ 8 → s2 0 j = s 0 j) (hm : ∀ j, 8 ≤ j ∧ j ≤ 12 → m2 j = m j) : rNm s2 m2 np d lim st := by
  unfold rNm at h ⊢
  rw [hs 4 (by omega), hs 5 (by omega), hs 6 (by omega), hs 7 (by omega), hs 8 (by omega), hm 8 (by omega), hm 9 (by omega), hm 10 (by omega), hm 11 (by omega), hm 12 (by omega)]
  exact h
theorem rOff.congr {s s2 : gV} {m m2 : Nat → Int32} {np : Nat} (hn : np ≤ 5) (h : rOff s m np) (hs : s2 23 0 = s 23 0) (hm : m2 2 = m 2 ∧ ∀ p, p < np → m2 (192 + 6 * p + 4) = m (192 + 6 * p + 4)) : rOff s2 m2 np := by
  obtain ⟨h1, h2, h3⟩ := h
  exact ⟨hs.trans h1, hm.1.trans h2, fun p hp => (hm.2 p hp).trans (h3 p hp)⟩
theorem rOn.congr {s s2 : gV} {m m2 : Nat → Int32} {nw np lim : Nat} {ln : Nat → Nat} {lt : Nat → Nat → Nat} {z t ms gd : Nat} (h : rOn s m nw np lim ln lt z t ms gd) (hs : ∀ j, j < 7 → s2 23 j = s 23 j) (hm : ∀ j, (2 ≤ j ∧ j ≤ 7) ∨ j = 13 ∨ j = 14 → m2 j = m j) : rOn s2 m2 nw np lim ln lt z t ms gd := by
  unfold rOn at h ⊢
  rw [hs 0 (by omega), hs 1 (by omega), hs 2 (by omega), hs 3 (by omega), hs 4 (by omega), hs 5 (by omega), hs 6 (by omega), hm 2 (by omega), hm 3 (by omega), hm 4 (by omega), hm 5 (by omega), hm 6 (by omega), hm 7 (by omega), hm 13 (by omega), hm 14 (by omega)]
  exact h
theorem gRel.congr {s s2 : gV} {m m2 : Nat → Int32} (h : gRel s m) (hs : ∀ c j, S5 c j → s2 c j = s c j) (hm : ∀ j, j < 246 → m2 j = m j) : gRel s2 m2 := by
  obtain ⟨nw, np, kp, d, lim, st, ln, wt, lt, h1, h2, h3, h4, h5⟩ := h
  have hn := h2.1
  refine ⟨nw, np, kp, d, lim, st, ln, wt, lt, h1.congr (fun c j q => hs c j (S5_1 ⟨by omega, by unfold S7; omega⟩)) (fun j q => hm j (by omega)), h2.congr (fun c j q => hs c j (S5_2 ⟨by omega, by unfold S0; omega⟩)) (fun j q => hm j (by omega)), h3.congr (fun c j q => hs c j (S5_4 ⟨by omega, by unfold S2; omega⟩)) (fun j q => hm j (by omega)), h4.congr (fun j q => hs 0 j (S5_5 q)) (fun j q => hm j (by omega)), ?_⟩
  rcases h5 with h5 | ⟨z, t, ms, gd, h5⟩
  · exact Or.inl (h5.congr hn (hs 23 0 (S5_3 ⟨by omega, by unfold S3; omega⟩)) ⟨hm 2 (by omega), fun p hp => hm _ (by omega)⟩)
  · exact Or.inr ⟨z, t, ms, gd, h5.congr (fun j q => hs 23 j (S5_3 ⟨by omega, by unfold S3; omega⟩)) (fun j q => hm j (by omega))⟩
theorem gRel.bool {s : gV} {m : Nat → Int32} (h : gRel s m) : gZ (s 23 0) := by
  obtain ⟨nw, np, kp, d, lim, st, ln, wt, lt, h1, h2, h3, h4, h5⟩ := h
  rcases h5 with h5 | ⟨z, t, ms, gd, h5⟩
  · exact Or.inl h5.1
  · exact Or.inr h5.1
/-- the whole invariant -/
def gSn (V : gV) : Prop := (V 0 4 = 0 ∧ V 213 3 = 0) ∨ (V 0 4 = 1 ∧ V 213 3 = 1 ∧ gRel (fun c => V (34 + c)) (V 216))
def gHs (V : gV) (hn fr : Nat) : Prop := hn ≤ 4 ∧ fr < 4 ∧ V 67 0 = nI hn ∧ V 67 1 = nI fr ∧ V 213 4 = nI hn ∧ ∀ i, i < hn → gRel (fun c => V (69 + 33 * ((fr + 3 - i) % 4) + c)) (fun j => V 215 (246 * (hn - 1 - i) + j))
def gTx (V : gV) (tl : Nat) : Prop := tl ≤ 120 ∧ V 201 0 = nI tl ∧ V 213 6 = nI tl ∧ (∀ i, i < tl → ∃ c, 32 ≤ c ∧ c ≤ 126 ∧ V 212 i = nI c ∧ V 217 i = nI c) ∧ ∀ j, j < 16 → V 208 j = 0
def gInv (V : gV) : Prop := gRel (fun c => V (1 + c)) (V 214) ∧ gSn V ∧ (∃ hn fr, gHs V hn fr) ∧ ∃ tl, gTx V tl
theorem gSn.congr {V V2 : gV} (h : gSn V) (e0 : V2 0 4 = V 0 4) (e1 : V2 213 3 = V 213 3) (e2 : ∀ x, 34 ≤ x → x < 67 → V2 x = V x) (e3 : V2 216 = V 216) : gSn V2 := by
  unfold gSn at h ⊢
  rw [e0, e1, e3]
  rcases h with h | ⟨h1, h2, h3⟩
  · exact Or.inl h
  · refine Or.inr ⟨h1, h2, h3.congr (fun c j q => ?_) (fun _ _ => rfl)⟩
    show V2 (34 + c) j = V (34 + c) j
    rw [e2 (34 + c) (by omega) (by have := S5_lt q; omega)]
theorem gTx.congr {V V2 : gV} {tl : Nat} (h : gTx V tl) (e0 : V2 201 0 = V 201 0) (e1 : V2 213 6 = V 213 6) (e2 : V2 212 = V 212) (e3 : V2 217 = V 217) (e4 : V2 208 = V 208) : gTx V2 tl := by
  unfold gTx at h ⊢
  rw [e0, e1, e2, e3, e4]
  exact h
theorem gHs.congr {V V2 : gV} {hn fr : Nat} (h : gHs V hn fr) (e0 : ∀ x, 67 ≤ x → x < 201 → V2 x = V x) (e1 : V2 213 4 = V 213 4) (e2 : V2 215 = V 215) : gHs V2 hn fr := by
  obtain ⟨h1, h2, h3, h4, h5, h6⟩ := h
  refine ⟨h1, h2, by rw [e0 67 (by omega) (by omega)]; exact h3, by rw [e0 67 (by omega) (by omega)]; exact h4, e1.trans h5, fun i hi => ?_⟩
  rw [e2]
  refine (h6 i hi).congr (fun c j q => ?_) (fun _ _ => rfl)
  show V2 _ j = V _ j
  rw [e0 _ (by omega) (by have := S5_lt q; omega)]
/-- a row more in the history -/
theorem gHs.push {V V2 : gV} {hn fr : Nat} (h : gHs V hn fr) (hr : gRel (fun c => V (1 + c)) (V 214)) (c1 : ∀ c j, S5 c j → V2 (69 + 33 * fr + c) j = V (1 + c) j) (c2 : ∀ x, 69 ≤ x → x < 201 → (x < 69 + 33 * fr ∨ 69 + 33 * fr + 33 ≤ x) → V2 x = V x) (e0 : V2 67 0 = nI (if hn = 4 then 4 else hn + 1)) (e1 : V2 67 1 = nI ((fr + 1) % 4)) (e4 : V2 213 4 = nI (if hn = 4 then 4 else hn + 1)) (e5 : V2 215 = pastPush hn (V 215) (V 214)) : gHs V2 (if hn = 4 then 4 else hn + 1) ((fr + 1) % 4) := by
  obtain ⟨h1, h2, h3, h4, h5, h6⟩ := h
  refine ⟨by split <;> omega, by omega, e0, e1, e4, fun i hi => ?_⟩
  rw [e5]
  by_cases hi0 : i = 0
  · subst hi0
    rw [show ((fr + 1) % 4 + 3 - 0) % 4 = fr by omega]
    refine hr.congr (fun c j q => c1 c j q) (fun j hj => ?_)
    unfold pastPush
    by_cases h4' : hn = 4
    · rw [if_pos h4', if_pos h4', fl_in (by omega) (by omega)]
      exact congrArg (V 214) (by omega)
    · rw [if_neg h4', if_neg h4', fl_in (by omega) (by omega)]
      exact congrArg (V 214) (by omega)
  · have hi2 : i - 1 < hn := by split at hi <;> omega
    have k := h6 (i - 1) hi2
    refine k.congr (fun c j q => ?_) (fun j hj => ?_)
    · have e : ((fr + 1) % 4 + 3 - i) % 4 = (fr + 3 - (i - 1)) % 4 := by split at hi <;> omega
      have hc := S5_lt q
      show V2 (69 + 33 * (((fr + 1) % 4 + 3 - i) % 4) + c) j = V (69 + 33 * ((fr + 3 - (i - 1)) % 4) + c) j
      rw [e, c2 _ (by omega) (by omega) (by split at hi <;> omega)]
    · unfold pastPush
      by_cases h4' : hn = 4
      · rw [if_pos h4'] at hi
        rw [if_pos h4', if_pos h4', fl_out (by omega), fl_in (by omega) (by omega)]
        show V 215 (246 * (4 - 1 - i) + j - 0 + 246) = V 215 (246 * (hn - 1 - (i - 1)) + j)
        exact congrArg (V 215) (by omega)
      · rw [if_neg h4'] at hi
        rw [if_neg h4', if_neg h4', fl_out (by omega)]
        show V 215 (246 * (hn + 1 - 1 - i) + j) = V 215 (246 * (hn - 1 - (i - 1)) + j)
        exact congrArg (V 215) (by omega)
/-- a row less -/
theorem gHs.pop {V V2 : gV} {hn fr : Nat} (h : gHs V (hn + 1) fr) (c2 : ∀ x, 69 ≤ x → x < 201 → V2 x = V x) (e0 : V2 67 0 = nI hn) (e1 : V2 67 1 = nI ((fr + 3) % 4)) (e4 : V2 213 4 = nI hn) (e5 : V2 215 = V 215) : gHs V2 hn ((fr + 3) % 4) := by
  obtain ⟨h1, h2, h3, h4, h5, h6⟩ := h
  refine ⟨by omega, by omega, e0, e1, e4, fun i hi => ?_⟩
  rw [e5]
  have k := h6 (i + 1) (by omega)
  refine k.congr (fun c j q => ?_) (fun j hj => ?_)
  · have e : ((fr + 3) % 4 + 3 - i) % 4 = (fr + 3 - (i + 1)) % 4 := by omega
    have hc := S5_lt q
    show V2 (69 + 33 * (((fr + 3) % 4 + 3 - i) % 4) + c) j = V (69 + 33 * ((fr + 3 - (i + 1)) % 4) + c) j
    rw [e, c2 _ (by omega) (by omega)]
  · show V 215 _ = V 215 _
    exact congrArg (V 215) (by omega)
