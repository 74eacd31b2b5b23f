def hm (np : Nat) (m : Nat → Int32) : Nat → Int32 := fun j => if 192 ≤ j ∧ j < 192 + 6 * np ∧ (j - 192) % 6 = 4 then 26 else m j
def s4 (i : Nat) (f : Nat → Int32) : Nat → Int32 := fun j => if 245 - i < j ∧ j ≤ 245 then f (j - 4) else f j
def mEnd (np kp : Nat) (a : Int32) (m : Nat → Int32) : Nat → Int32 := fun j => if j = 2 then 0 else if j = 15 then nI (if kp < 6 then kp + 1 else 6) else if j = 222 then m 13 else if j = 223 then a else if j = 224 then m 5 else if j = 225 then m 14 else if 226 ≤ j ∧ j < 246 then m (j - 4) else hm np m j
theorem pc222 : (222 : Int32).toNatClampNeg = 222 := by decide
theorem pc223 : (223 : Int32).toNatClampNeg = 223 := by decide
theorem pc224 : (224 : Int32).toNatClampNeg = 224 := by decide
theorem pc225 : (225 : Int32).toNatClampNeg = 225 := by decide
theorem s4_lo {i j : Nat} {f : Nat → Int32} (h : j ≤ 245 - i) : s4 i f j = f j := if_neg (by omega)
theorem s4_0 {f : Nat → Int32} : s4 0 f = f := by
  funext j
  exact if_neg (by omega)
theorem s4_s {i : Nat} {f : Nat → Int32} (h : i < 20) : upd (s4 i f) (245 - i) (f (245 - i - 4)) = s4 (i + 1) f := by
  funext j
  unfold upd s4
  by_cases e : j = 245 - i
  · subst e
    rw [if_pos rfl, if_pos (by omega)]
  · rw [if_neg e]
    by_cases e2 : 245 - i < j ∧ j ≤ 245
    · rw [if_pos e2, if_pos (by omega)]
    · rw [if_neg e2, if_neg (by omega)]
theorem hm_0 {m : Nat → Int32} : hm 0 m = m := by
  funext j
  exact if_neg (by omega)
theorem hm_s {i : Nat} {m : Nat → Int32} : upd (hm i m) (192 + 6 * i + 4) 26 = hm (i + 1) m := by
  funext j
  unfold upd hm
  by_cases e : j = 192 + 6 * i + 4
  · subst e
    rw [if_pos rfl, if_pos (by omega)]
  · rw [if_neg e]
    by_cases e2 : 192 ≤ j ∧ j < 192 + 6 * i ∧ (j - 192) % 6 = 4
    · rw [if_pos e2, if_pos (by omega)]
    · rw [if_neg e2, if_neg (by omega)]
theorem hm_lo {i j : Nat} {m : Nat → Int32} (h : j < 192 ∨ 222 ≤ j ∨ (j - 192) % 6 ≠ 4) (hi : i ≤ 5) : hm i m j = m j := if_neg (by omega)
theorem mEnd_eq {np kp : Nat} {a : Int32} {m : Nat → Int32} (hn : np ≤ 5) : upd (upd (upd (upd (upd (s4 20 (hm np (upd m 2 0))) 222 (m 13)) 223 a) 224 (m 5)) 225 (m 14)) 15 (nI (if kp < 6 then kp + 1 else 6)) = mEnd np kp a m := by
  funext j
  unfold mEnd
  by_cases h15 : j = 15
  · subst h15
    rw [upd_at]
    exact ((if_neg (show ¬ 15 = 2 by omega)).trans (if_pos rfl)).symm
  rw [upd_ne h15]
  by_cases h225 : j = 225
  · subst h225
    rw [upd_at, if_neg (by omega), if_neg (by omega), if_neg (by omega), if_neg (by omega), if_neg (by omega), if_pos rfl]
  rw [upd_ne h225]
  by_cases h224 : j = 224
  · subst h224
    rw [upd_at, if_neg (by omega), if_neg (by omega), if_neg (by omega), if_neg (by omega), if_pos rfl]
  rw [upd_ne h224]
  by_cases h223 : j = 223
  · subst h223
    rw [upd_at, if_neg (by omega), if_neg (by omega), if_neg (by omega), if_pos rfl]
  rw [upd_ne h223]
  by_cases h222 : j = 222
  · subst h222
    rw [upd_at, if_neg (by omega), if_neg (by omega), if_pos rfl]
  rw [upd_ne h222]
  by_cases h2 : j = 2
  · subst h2
    rw [s4_lo (by omega), hm_lo (by omega) hn, upd_at, if_pos rfl]
  rw [if_neg h2, if_neg h15, if_neg h222, if_neg h223, if_neg h224, if_neg h225]
  unfold s4
  by_cases h6 : 226 ≤ j ∧ j < 246
  · rw [if_pos (by omega), if_pos h6, hm_lo (by omega) hn, upd_ne (by omega)]
  · rw [if_neg (by omega), if_neg h6]
    unfold hm
    rw [upd_ne h2]
theorem ends98 {V : gV} {np kp : Nat} (hn : np ≤ 5) (hk : kp ≤ 6) (h15 : V 214 15 = nI kp) (a : Int32) : PX9_ends_98 1000 a 245 (gs V 214 (hm np (upd (V 214) 2 0))) ∧ BX9_ends_98 1000 a 245 (gs V 214 (hm np (upd (V 214) 2 0))) = gs V 214 (mEnd np kp a (V 214)) := by
  have key := pu_loop (fun f i => PX9_ends_98 f a (nI (245 - i)) (gs V 214 (s4 i (hm np (upd (V 214) 2 0)))) ∧ BX9_ends_98 f a (nI (245 - i)) (gs V 214 (s4 i (hm np (upd (V 214) 2 0)))) = gs V 214 (mEnd np kp a (V 214))) 20 (fun f => ?_) (fun f i hi ih => ?_) 20 1000 0 (by omega) (by omega)
  · rw [s4_0] at key
    exact key
  · have e : nI (245 - 20) < (226 : Int32) := nI_lt (b := 226) (by omega) (by omega)
    have rd : ∀ j, j < 192 → j ≠ 2 → s4 20 (hm np (upd (V 214) 2 0)) j = V 214 j := fun j h1 h2 => by rw [s4_lo (by omega), hm_lo (by omega) hn, upd_ne h2]
    have r13 := rd 13 (by omega) (by omega)
    have r5 := rd 5 (by omega) (by omega)
    have r14 := rd 14 (by omega) (by omega)
    have r15 := rd 15 (by omega) (by omega)
    have fin := mEnd_eq (kp := kp) (a := a) (m := V 214) hn
    simp only [PX9_ends_98, BX9_ends_98, PX9_ends_140, BX9_ends_140, PX9_ends_149, BX9_ends_149, PX9_ends_163, BX9_ends_163, PX9_ends_178, BX9_ends_178, PX9_ends_210, BX9_ends_210, pc222, pc223, pc224, pc225, pc13, pc5, pc14, pc15, gs_at, gu_gs, r13, upd_ne (show 5 ≠ 222 by omega), upd_ne (show 5 ≠ 223 by omega), r5, upd_ne (show 14 ≠ 222 by omega), upd_ne (show 14 ≠ 223 by omega), upd_ne (show 14 ≠ 224 by omega), r14, upd_ne (show 15 ≠ 222 by omega), upd_ne (show 15 ≠ 223 by omega), upd_ne (show 15 ≠ 224 by omega), upd_ne (show 15 ≠ 225 by omega), r15, h15, if_pos e]
    have i15 : vp_in (15 : Int32) 246 := pu_in (n := 15) (by omega) (by omega)
    refine ⟨⟨fun _ => ⟨fun _ => i15, fun _ => i15⟩, fun q => absurd e q⟩, ?_⟩
    by_cases h6 : kp < 6
    · have q : ¬ (6 : Int32) ≤ nI kp := nI_ge (b := 6) h6 (by omega)
      rw [if_neg q, nI_1]
      rw [if_pos h6] at fin
      rw [fin]
    · have q : (6 : Int32) ≤ nI kp := nI_le (a := 6) (by omega) (by omega)
      rw [if_pos q]
      rw [if_neg h6] at fin
      exact congrArg (gs V 214) fin
  · obtain ⟨k, hk2⟩ : ∃ k, 245 - i = k + 1 := ⟨245 - i - 1, by omega⟩
    have hk3 : 245 - (i + 1) = k := by omega
    rw [hk3] at ih
    have e : ¬ nI (k + 1) < (226 : Int32) := nI_nlt (a := k + 1) (b := 226) (by omega) (by omega)
    have e4 : nI (k + 1) - (4 : Int32) = nI (k + 1 - 4) := pu_sub (a := k + 1) (b := 4) (by omega)
    have p1 := pu_in (show k + 1 < 246 by omega) (show 246 < 2 ^ 31 by omega)
    have p2 := pu_in (show k + 1 - 4 < 246 by omega) (show 246 < 2 ^ 31 by omega)
    have rd : s4 i (hm np (upd (V 214) 2 0)) (k + 1 - 4) = hm np (upd (V 214) 2 0) (k + 1 - 4) := s4_lo (by omega)
    have st : upd (s4 i (hm np (upd (V 214) 2 0))) (k + 1) (hm np (upd (V 214) 2 0) (k + 1 - 4)) = s4 (i + 1) (hm np (upd (V 214) 2 0)) := by
      have := s4_s (f := hm np (upd (V 214) 2 0)) hi
      rw [hk2] at this
      exact this
    rw [hk2]
    simp only [PX9_ends_98, BX9_ends_98, PX9_ends_119, BX9_ends_119, e4, nI_clamp (show k + 1 < 2 ^ 31 by omega), nI_clamp (show k + 1 - 4 < 2 ^ 31 by omega), gs_at, rd, gu_gs, st, pu_dec]
    simp only [if_neg e]
    exact ⟨⟨fun q => absurd q e, fun _ => ⟨p2, p1, ih.1⟩⟩, ih.2⟩
theorem ends57 {V : gV} {np kp : Nat} (hn : np ≤ 5) (hk : kp ≤ 6) (h1 : V 214 1 = nI np) (h15 : V 214 15 = nI kp) (a : Int32) : PX9_ends_57 a V ∧ BX9_ends_57 a V = gs V 214 (mEnd np kp a (V 214)) := by
  obtain ⟨k1, k2⟩ := ends98 (V := V) hn hk h15 a
  unfold PX9_ends_57 BX9_ends_57 PX9_ends_64 BX9_ends_64
  rw [pc2, gu_of (f := V 214) rfl]
  have key := pu_loop (fun f i => (PX9_ends_66 f a (nI i) (gs V 214 (hm i (upd (V 214) 2 0))) ↔ PX9_ends_98 1000 a 245 (gs V 214 (hm np (upd (V 214) 2 0)))) ∧ BX9_ends_66 f a (nI i) (gs V 214 (hm i (upd (V 214) 2 0))) = BX9_ends_98 1000 a 245 (gs V 214 (hm np (upd (V 214) 2 0)))) np (fun f => ?_) (fun f i hi ih => ?_) np 1000 0 (by omega) (by omega)
  · rw [hm_0] at key
    exact ⟨key.1.mpr k1, key.2.trans k2⟩
  · have e : nI np ≤ nI np := nI_le (Nat.le_refl _) (by omega)
    have rd : hm np (upd (V 214) 2 0) 1 = nI np := by rw [hm_lo (by omega) hn, upd_ne (by omega), h1]
    simp only [PX9_ends_66, BX9_ends_66, pc1, gs_at, rd]
    simp [e]
  · have e := nI_ge hi (by omega)
    have rd : hm i (upd (V 214) 2 0) 1 = nI np := by rw [hm_lo (by omega) (by omega), upd_ne (by omega), h1]
    have ea : ∀ V1 : gV, MX9_at (nI i) 4 V1 = nI (192 + 6 * i + 4) := fun V1 => at_nat (w := 4) (by omega) (by omega)
    have p1 := pu_in (show 192 + 6 * i + 4 < 246 by omega) (show 246 < 2 ^ 31 by omega)
    simp only [PX9_ends_66, BX9_ends_66, PX9_ends_88, BX9_ends_88, pc1, gs_at, rd, ea, nI_clamp (show 192 + 6 * i + 4 < 2 ^ 31 by omega), gu_gs, hm_s, nI_1, if_neg e]
    exact ⟨⟨fun k => ih.1.mp (k.2 e).2, fun k => ⟨fun q => absurd q e, fun _ => ⟨p1, ih.1.mpr k⟩⟩⟩, ih.2⟩
/-- the reference's end with a winner: the pot is his -/
theorem ends_win {V : gV} {np kp t : Nat} (hn : np ≤ 5) (hk : kp ≤ 6) (h1 : V 214 1 = nI np) (h15 : V 214 15 = nI kp) (ht : t < np) : PX9_ends (nI t) V ∧ MX9_ends (nI t) V = gs V 214 (mEnd np kp (nI t) (upd (upd (V 214) (192 + 6 * t) (V 214 (192 + 6 * t) + V 214 4)) (192 + 6 * t + 1) (V 214 (192 + 6 * t + 1) + 1))) := by
  have e5 : ¬ nI t = 5 := fun q => by have := (nI_eq (b := 5) (by omega) (by omega)).mp q; omega
  have e0 : ∀ V1 : gV, MX9_at (nI t) 0 V1 = nI (192 + 6 * t) := fun V1 => at_nat (w := 0) (by omega) (by omega)
  have e1 : ∀ V1 : gV, MX9_at (nI t) 1 V1 = nI (192 + 6 * t + 1) := fun V1 => at_nat (w := 1) (by omega) (by omega)
  have p0 := pu_in (show 192 + 6 * t < 246 by omega) (show 246 < 2 ^ 31 by omega)
  have p1 := pu_in (show 192 + 6 * t + 1 < 246 by omega) (show 246 < 2 ^ 31 by omega)
  obtain ⟨k1, k2⟩ := ends57 (V := gs V 214 (upd (upd (V 214) (192 + 6 * t) (V 214 (192 + 6 * t) + V 214 4)) (192 + 6 * t + 1) (V 214 (192 + 6 * t + 1) + 1))) hn hk (by rw [gs_at, upd_ne (by omega), upd_ne (by omega), h1]) (by rw [gs_at, upd_ne (by omega), upd_ne (by omega), h15]) (nI t)
  rw [gs_at, gs_gs] at k2
  unfold PX9_ends MX9_ends PX9_ends_43 BX9_ends_43
  simp only [e0, e1, pc4, nI_clamp (show 192 + 6 * t < 2 ^ 31 by omega), nI_clamp (show 192 + 6 * t + 1 < 2 ^ 31 by omega), gu_of (V := V) (k := 214) rfl, gs_at, gu_gs, upd_ne (show 192 + 6 * t + 1 ≠ 192 + 6 * t by omega), if_neg e5]
  exact ⟨⟨fun q => absurd q e5, fun _ => ⟨p0, p0, p1, p1, k1⟩⟩, k2⟩
theorem ends_house {V : gV} {np kp : Nat} (hn : np ≤ 5) (hk : kp ≤ 6) (h1 : V 214 1 = nI np) (h15 : V 214 15 = nI kp) : PX9_ends 5 V ∧ MX9_ends 5 V = gs V 214 (mEnd np kp 5 (upd (V 214) 9 (V 214 9 + V 214 4))) := by
  obtain ⟨k1, k2⟩ := ends57 (V := gs V 214 (upd (V 214) 9 (V 214 9 + V 214 4))) hn hk (by rw [gs_at, upd_ne (by omega), h1]) (by rw [gs_at, upd_ne (by omega), h15]) 5
  rw [gs_at, gs_gs] at k2
  unfold PX9_ends MX9_ends
  simp only [pc4, pc9, gu_of (V := V) (k := 214) rfl, if_true]
  exact ⟨⟨fun _ => k1, fun q => absurd trivial q⟩, k2⟩
