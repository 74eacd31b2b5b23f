/-! ONE CALL: what is to be shown of class and reference -/
def okI (P8 : Prop) (M8 : Int32 × gV) (P9 : gV → Prop) (M9 : gV → Int32 × gV) : Prop := P8 ∧ P9 M8.2 ∧ M8.1 = (M9 M8.2).1 ∧ gInv (M9 M8.2).2
theorem okI_of {P8 : Prop} {M8 : Int32 × gV} {P9 : gV → Prop} {M9 : gV → Int32 × gV} {r : Int32} {V1 V2 : gV} (h8 : M8 = (r, V1)) (hP8 : P8) (hP9 : P9 V1) (h9 : M9 V1 = (r, V2)) (hi : gInv V2) : okI P8 M8 P9 M9 := by
  subst h8
  refine ⟨hP8, hP9, ?_, ?_⟩
  · show r = (M9 V1).1
    rw [h9]
  · show gInv (M9 V1).2
    rw [h9]
    exact hi
theorem gSt_0 : gSt 1 ∧ gSt 34 := by unfold gSt; constructor <;> decide +kernel
theorem gSt_r : ∀ f, f < 4 → gSt (69 + 33 * f) := by
  intro f hf
  rcases (show f = 0 ∨ f = 1 ∨ f = 2 ∨ f = 3 by omega) with rfl | rfl | rfl | rfl <;> (unfold gSt; decide +kernel)
theorem PX5_ok {k o : Nat} {V : gV} (hd : o + 33 ≤ k ∨ k + 33 ≤ o) (hk : gSt k) (ho : gSt o) (hz : gZ (V (o + 23) 0)) : PX5_copyFrom k o V := by
  unfold PX5_copyFrom PX5_copyFrom_11 PX5_copyFrom_22 PX3_copyFrom
  have w := Cp.shift (k := k) (o := o) (V := V) 1 (fun c j h => by unfold S7 at h; omega) (Cp.words (k := k + 1) (o := o + 1) (V := V) (by omega) (fun r hr => by
    have a := hk (1 + r + 1) (by omega)
    have b := ho (1 + r + 1) (by omega)
    rw [show k + 1 + r + 1 = k + (1 + r + 1) by omega, show o + 1 + r + 1 = o + (1 + r + 1) by omega, a, b]
    rcases hr with rfl | rfl | rfl <;> exact ⟨rfl, rfl⟩) ⟨(hk 9 (by omega)), (ho 9 (by omega))⟩)
  have b := Cp.shift (k := k) (o := o) (V := MX7_copyFrom (k + 1) (o + 1) V) 10 (fun c j h => by unfold S0 at h; omega) (Cp.bench (k := k + 10) (o := o + 10) (V := MX7_copyFrom (k + 1) (o + 1) V) (by omega) (fun r hr => by
    have a := hk (10 + r + 1) (by omega)
    have b := ho (10 + r + 1) (by omega)
    rw [show k + 10 + r + 1 = k + (10 + r + 1) by omega, show o + 10 + r + 1 = o + (10 + r + 1) by omega, a, b]
    rcases hr with rfl | rfl | rfl | rfl | rfl | rfl <;> exact ⟨rfl, rfl⟩))
  rw [b.2 (o + 23) 0 (fun c e s => by unfold S0 at s; omega), w.2 (o + 23) 0 (fun c e s => by unfold S7 at s; omega)]
  exact hz
theorem pu_min {h : Nat} (hh : h ≤ 4) : (if (4 : Int32) < nI h + 1 then (4 : Int32) else nI h + 1) = nI (if h = 4 then 4 else h + 1) := by
  rw [nI_1]
  by_cases e : h = 4
  · subst e
    have e1 : (4 : Int32) < nI (4 + 1) := nI_lt (a := 4) (b := 4 + 1) (by omega) (by omega)
    rw [if_pos rfl, if_pos e1]
    rfl
  · have e1 : ¬ (4 : Int32) < nI (h + 1) := nI_nlt (b := h + 1) (a := 4) (by omega) (by omega)
    rw [if_neg e, if_neg e1]
theorem rec_ok {V : gV} {hn fr : Nat} (hr : gRel (fun c => V (1 + c)) (V 214)) (hh : gHs V hn fr) : PX1_record fr (69 + 33 * fr) V ∧ (∀ x, x < 67 ∨ 201 ≤ x → MX1_record fr (69 + 33 * fr) V x = V x) ∧ (∀ c j, S5 c j → MX1_record fr (69 + 33 * fr) V (69 + 33 * fr + c) j = V (1 + c) j) ∧ (∀ x, 69 ≤ x → x < 201 → (x < 69 + 33 * fr ∨ 69 + 33 * fr + 33 ≤ x) → MX1_record fr (69 + 33 * fr) V x = V x) ∧ MX1_record fr (69 + 33 * fr) V 67 0 = nI (if hn = 4 then 4 else hn + 1) ∧ MX1_record fr (69 + 33 * fr) V 67 1 = nI ((fr + 1) % 4) := by
  obtain ⟨h1, h2, h3, h4, h5, h6⟩ := hh
  have hd : 1 + 33 ≤ 69 + 33 * fr ∨ 69 + 33 * fr + 33 ≤ 1 := by omega
  have cp := Cp.state (V := V) hd (gSt_r fr h2) gSt_0.1
  have hc : ∀ x j, x < 69 + 33 * fr ∨ 69 + 33 * fr + 33 ≤ x → MX5_copyFrom (69 + 33 * fr) 1 V x j = V x j := fun x j hx => cp.2 x j fun c e s => by have := (cp.1 c j s).1; omega
  have e67 : MX5_copyFrom (69 + 33 * fr) 1 V 67 1 + 1 - (MX5_copyFrom (69 + 33 * fr) 1 V 67 1 + 1) / 4 * 4 = nI ((fr + 1) % 4) := by
    rw [hc 67 1 (by omega), h4, nI_1]
    exact pu_rem (b := 4) (by omega) (by omega)
  have row : ∀ x, x ≠ 67 → MX1_record fr (69 + 33 * fr) V x = MX5_copyFrom (69 + 33 * fr) 1 V x := fun x hx => by
    unfold MX1_record BX1_record_18 BX1_record_30
    rw [gu_row hx, gu_row hx]
  refine ⟨⟨h4, PX5_ok hd (gSt_r fr h2) gSt_0.1 hr.bool⟩, fun x hx => ?_, fun c j s => ?_, fun x a b hx => ?_, ?_, ?_⟩
  · rw [row x (by omega)]
    exact funext fun j => hc x j (by omega)
  · rw [row _ (by omega)]
    exact (cp.1 c j s).2
  · rw [row x (by omega)]
    exact funext fun j => hc x j (by omega)
  · unfold MX1_record BX1_record_18 BX1_record_30
    rw [gu_at, gu_col (by omega), hc 67 0 (by omega), h3]
    exact pu_min h1
  · unfold MX1_record BX1_record_18 BX1_record_30
    rw [gu_col (by omega), gu_at, e67]
/-- the invariant behind a change that the history records -/
theorem gInv.step {V V2 : gV} {hn fr tl : Nat} (hr : gRel (fun c => V (1 + c)) (V 214)) (hs : gSn V) (hh : gHs V hn fr) (ht : gTx V tl)
    (hb : ∀ x, 34 ≤ x → x < 201 → V2 x = MX1_record fr (69 + 33 * fr) V x) (hx : V2 201 0 = V 201 0 ∧ V2 212 = V 212 ∧ V2 208 = V 208) (h0 : V2 0 4 = V 0 4) (m3 : ∀ j, j ≠ 4 → V2 213 j = V 213 j) (m4 : V2 213 4 = nI (if hn = 4 then 4 else hn + 1)) (m5 : V2 215 = pastPush hn (V 215) (V 214)) (m6 : V2 216 = V 216) (m7 : V2 217 = V 217)
    (hnow : gRel (fun c => V2 (1 + c)) (V2 214)) : gInv V2 := by
  obtain ⟨-, r1, r2, r3, r4, r5⟩ := rec_ok hr hh
  have h2 := hh.2.1
  refine ⟨hnow, hs.congr h0 (m3 3 (by omega)) (fun x a b => (hb x a (by omega)).trans (r1 x (by omega))) m6, ⟨_, _, hh.push hr (fun c j s => ?_) (fun x a b e => (hb x (by omega) (by omega)).trans (r3 x a b e)) ?_ ?_ m4 m5⟩, ⟨tl, ht.congr hx.1 (m3 6 (by omega)) hx.2.1 m7 hx.2.2⟩⟩
  · have := S5_lt s
    rw [hb _ (by omega) (by omega)]
    exact r2 c j s
  · rw [hb 67 (by omega) (by omega)]
    exact r4
  · rw [hb 67 (by omega) (by omega)]
    exact r5
theorem cnd_between {x a b : Int32} {V V1 : gV} : MX8_isBetween x a b V = MX9_in x a b V1 := rfl
theorem in_nat {x : Int32} {a b : Nat} {V : gV} (ha : a < 2 ^ 31) (hb : b < 2 ^ 31) : MX9_in x (nI a) (nI b) V = 0 ∨ (MX9_in x (nI a) (nI b) V = 1 ∧ ∃ j, a ≤ j ∧ j ≤ b ∧ x = nI j) := by
  unfold MX9_in
  by_cases h1 : x < nI a
  · rw [if_pos h1]; exact Or.inl rfl
  · by_cases h2 : nI b < x
    · rw [if_neg h1, if_pos h2]; exact Or.inl rfl
    · rw [if_neg h1, if_neg h2]
      refine Or.inr ⟨rfl, ?_⟩
      rw [Int32.lt_iff_toInt_lt, nI_toInt ha] at h1
      rw [Int32.lt_iff_toInt_lt, nI_toInt hb] at h2
      refine ⟨x.toInt.toNat, by omega, by omega, Int32.toInt_inj.mp ?_⟩
      rw [nI_toInt (by omega)]
      omega
theorem has_nat {x : Int32} {n : Nat} (hn : n < 2 ^ 31) : (if x < 0 then (0 : Int32) else if nI n ≤ x then 0 else 1) = 0 ∨ ((if x < 0 then (0 : Int32) else if nI n ≤ x then 0 else 1) = 1 ∧ ∃ j, j < n ∧ x = nI j) := by
  rcases pk_ix x hn with h | h | ⟨j, hj, rfl⟩
  · rw [if_pos h]; exact Or.inl rfl
  · by_cases h0 : x < 0
    · rw [if_pos h0]; exact Or.inl rfl
    · rw [if_neg h0, if_pos h]; exact Or.inl rfl
  · rw [if_neg (nI_pos (by omega)), if_neg (nI_ge hj hn)]
    exact Or.inr ⟨rfl, j, hj, rfl⟩
theorem at_nat {p w : Nat} {V : gV} (hp : p < 5) (hw : w < 6) : MX9_at (nI p) (nI w) V = nI (192 + 6 * p + w) := by
  unfold MX9_at
  rw [show (192 : Int32) = nI 192 from rfl, show (6 : Int32) = nI 6 from rfl, pu_mul, nI_add, nI_add]
