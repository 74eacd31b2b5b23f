/-! THE END OF A ROUND, in class and reference -/
theorem pu_dec (n : Nat) : nI (n + 1) + -1 = nI n := by
  rw [← Int32.sub_eq_add_neg]
  exact nI_pred n
/-- a row of the past with its places from i + 1 up to n - 1 moved up by one -/
def sh (f : Nat → Int32) (n i : Nat) : Nat → Int32 := fun j => if i < j ∧ j < n then f (j - 1) else f j
theorem sh_0 {f : Nat → Int32} {n i : Nat} (h : n ≤ i + 1) : sh f n i = f := by
  funext j
  unfold sh
  rw [if_neg (by omega)]
theorem sh_s {f : Nat → Int32} {n i : Nat} (h : i + 1 < n) : upd (sh f n (i + 1)) (i + 1) (f i) = sh f n i := by
  funext j
  unfold upd sh
  by_cases e : j = i + 1
  · subst e
    rw [if_pos rfl, if_pos (by omega), Nat.add_sub_cancel]
  · rw [if_neg e]
    by_cases e2 : i + 1 < j ∧ j < n
    · rw [if_pos e2, if_pos (by omega)]
    · rw [if_neg e2, if_neg (by omega)]
theorem sh_r {f : Nat → Int32} {n i : Nat} : sh f n (i + 1) i = f i := by
  unfold sh
  rw [if_neg (by omega)]
/-- the four rows of the past -/
def g4 (V : gV) (a b c d : Nat → Int32) : gV := gs (gs (gs (gs V 27 a) 29 b) 31 c) 33 d
theorem g4_27 {V : gV} {a b c d : Nat → Int32} : g4 V a b c d 27 = a := by unfold g4; rw [gs_ne (by omega), gs_ne (by omega), gs_ne (by omega), gs_at]
theorem g4_29 {V : gV} {a b c d : Nat → Int32} : g4 V a b c d 29 = b := by unfold g4; rw [gs_ne (by omega), gs_ne (by omega), gs_at]
theorem g4_31 {V : gV} {a b c d : Nat → Int32} : g4 V a b c d 31 = c := by unfold g4; rw [gs_ne (by omega), gs_at]
theorem g4_33 {V : gV} {a b c d : Nat → Int32} : g4 V a b c d 33 = d := by unfold g4; rw [gs_at]
theorem g4_ne {V : gV} {a b c d : Nat → Int32} {x : Nat} (h : x ≠ 27 ∧ x ≠ 29 ∧ x ≠ 31 ∧ x ≠ 33) : g4 V a b c d x = V x := by unfold g4; rw [gs_ne h.2.2.2, gs_ne h.2.2.1, gs_ne h.2.1, gs_ne h.1]
theorem g4_self {V : gV} : g4 V (V 27) (V 29) (V 31) (V 33) = V := by
  unfold g4
  rw [gs_self (V := V) rfl, gs_self (V := V) rfl, gs_self (V := V) rfl, gs_self (V := V) rfl]
theorem g4_u27 {V : gV} {a b c d : Nat → Int32} {j : Nat} {x : Int32} : gu (g4 V a b c d) 27 j x = g4 V (upd a j x) b c d := by
  funext q
  unfold gu
  rw [g4_27]
  by_cases h : q = 27
  · subst h; rw [gs_at, g4_27]
  · rw [gs_ne h]
    by_cases h2 : q = 29
    · subst h2; rw [g4_29, g4_29]
    · by_cases h3 : q = 31
      · subst h3; rw [g4_31, g4_31]
      · by_cases h5 : q = 33
        · subst h5; rw [g4_33, g4_33]
        · rw [g4_ne ⟨h, h2, h3, h5⟩, g4_ne ⟨h, h2, h3, h5⟩]
theorem g4_u29 {V : gV} {a b c d : Nat → Int32} {j : Nat} {x : Int32} : gu (g4 V a b c d) 29 j x = g4 V a (upd b j x) c d := by
  funext q
  unfold gu
  rw [g4_29]
  by_cases h : q = 29
  · subst h; rw [gs_at, g4_29]
  · rw [gs_ne h]
    by_cases h2 : q = 27
    · subst h2; rw [g4_27, g4_27]
    · by_cases h3 : q = 31
      · subst h3; rw [g4_31, g4_31]
      · by_cases h5 : q = 33
        · subst h5; rw [g4_33, g4_33]
        · rw [g4_ne ⟨h2, h, h3, h5⟩, g4_ne ⟨h2, h, h3, h5⟩]
theorem g4_u31 {V : gV} {a b c d : Nat → Int32} {j : Nat} {x : Int32} : gu (g4 V a b c d) 31 j x = g4 V a b (upd c j x) d := by
  funext q
  unfold gu
  rw [g4_31]
  by_cases h : q = 31
  · subst h; rw [gs_at, g4_31]
  · rw [gs_ne h]
    by_cases h2 : q = 27
    · subst h2; rw [g4_27, g4_27]
    · by_cases h3 : q = 29
      · subst h3; rw [g4_29, g4_29]
      · by_cases h5 : q = 33
        · subst h5; rw [g4_33, g4_33]
        · rw [g4_ne ⟨h2, h3, h, h5⟩, g4_ne ⟨h2, h3, h, h5⟩]
theorem g4_u33 {V : gV} {a b c d : Nat → Int32} {j : Nat} {x : Int32} : gu (g4 V a b c d) 33 j x = g4 V a b c (upd d j x) := by
  funext q
  unfold gu
  rw [g4_33]
  by_cases h : q = 33
  · subst h; rw [gs_at, g4_33]
  · rw [gs_ne h]
    by_cases h2 : q = 27
    · subst h2; rw [g4_27, g4_27]
    · by_cases h3 : q = 29
      · subst h3; rw [g4_29, g4_29]
      · by_cases h5 : q = 31
        · subst h5; rw [g4_31, g4_31]
        · rw [g4_ne ⟨h2, h3, h5, h⟩, g4_ne ⟨h2, h3, h5, h⟩]
theorem put_loop {V : gV} {n : Nat} (h1 : 1 ≤ n) (hn : n ≤ 6) (a : Int32) : PX2_putFirst_22 1000 a (nI (n - 1)) V ∧ BX2_putFirst_22 1000 a (nI (n - 1)) V = g4 V (upd (sh (V 27) n 0) 0 (V 24 1)) (upd (sh (V 29) n 0) 0 a) (upd (sh (V 31) n 0) 0 (V 24 5)) (upd (sh (V 33) n 0) 0 (V 24 2)) := by
  have key := pu_loop (fun f i => PX2_putFirst_22 f a (nI (n - 1 - i)) (g4 V (sh (V 27) n (n - 1 - i)) (sh (V 29) n (n - 1 - i)) (sh (V 31) n (n - 1 - i)) (sh (V 33) n (n - 1 - i))) ∧ BX2_putFirst_22 f a (nI (n - 1 - i)) (g4 V (sh (V 27) n (n - 1 - i)) (sh (V 29) n (n - 1 - i)) (sh (V 31) n (n - 1 - i)) (sh (V 33) n (n - 1 - i))) = g4 V (upd (sh (V 27) n 0) 0 (V 24 1)) (upd (sh (V 29) n 0) 0 a) (upd (sh (V 31) n 0) 0 (V 24 5)) (upd (sh (V 33) n 0) 0 (V 24 2))) (n - 1) (fun f => ?_) (fun f i hi ih => ?_) (n - 1) 1000 0 (by omega) (by omega)
  · rw [Nat.sub_zero, sh_0 (by omega), sh_0 (by omega), sh_0 (by omega), sh_0 (by omega), g4_self] at key
    exact key
  · rw [Nat.sub_self]
    have e : nI 0 ≤ (0 : Int32) := Int32.le_refl _
    have p27 : ∀ (x : Int32) (V1 : gV), MX4_put 26 0 x V1 = gu V1 27 0 x := fun x V1 => pu_put (k := 26) (n := 6) (j := 0) kd27 (by omega)
    have p29 : ∀ (x : Int32) (V1 : gV), MX4_put 28 0 x V1 = gu V1 29 0 x := fun x V1 => pu_put (k := 28) (n := 6) (j := 0) kd29 (by omega)
    have p31 : ∀ (x : Int32) (V1 : gV), MX4_put 30 0 x V1 = gu V1 31 0 x := fun x V1 => pu_put (k := 30) (n := 6) (j := 0) kd31 (by omega)
    have p33 : ∀ (x : Int32) (V1 : gV), MX4_put 32 0 x V1 = gu V1 33 0 x := fun x V1 => pu_put (k := 32) (n := 6) (j := 0) kd33 (by omega)
    simp only [PX2_putFirst_22, BX2_putFirst_22, BX2_putFirst_116, BX2_putFirst_125, BX2_putFirst_137, p27, p29, p31, p33, g4_u27, g4_u29, g4_u31, g4_u33, g4_ne (show 24 ≠ 27 ∧ 24 ≠ 29 ∧ 24 ≠ 31 ∧ 24 ≠ 33 by omega)]
    simp [e]
  · obtain ⟨m, hm⟩ : ∃ m, n - 1 - i = m + 1 := ⟨n - 1 - i - 1, by omega⟩
    have hm2 : n - 1 - (i + 1) = m := by omega
    rw [hm2] at ih
    rw [hm]
    have e : ¬ nI (m + 1) ≤ 0 := nI_nle (by omega) (by omega)
    have p27 : ∀ (x : Int32) (V1 : gV), MX4_put 26 (nI (m + 1)) x V1 = gu V1 27 (m + 1) x := fun x V1 => pu_put (k := 26) (n := 6) kd27 (by omega)
    have q27 : ∀ (V1 : gV), MX4_at 26 (nI m) V1 = V1 27 m := fun V1 => pu_at (k := 26) (n := 6) kd27 (by omega)
    have p29 : ∀ (x : Int32) (V1 : gV), MX4_put 28 (nI (m + 1)) x V1 = gu V1 29 (m + 1) x := fun x V1 => pu_put (k := 28) (n := 6) kd29 (by omega)
    have q29 : ∀ (V1 : gV), MX4_at 28 (nI m) V1 = V1 29 m := fun V1 => pu_at (k := 28) (n := 6) kd29 (by omega)
    have p31 : ∀ (x : Int32) (V1 : gV), MX4_put 30 (nI (m + 1)) x V1 = gu V1 31 (m + 1) x := fun x V1 => pu_put (k := 30) (n := 6) kd31 (by omega)
    have q31 : ∀ (V1 : gV), MX4_at 30 (nI m) V1 = V1 31 m := fun V1 => pu_at (k := 30) (n := 6) kd31 (by omega)
    have p33 : ∀ (x : Int32) (V1 : gV), MX4_put 32 (nI (m + 1)) x V1 = gu V1 33 (m + 1) x := fun x V1 => pu_put (k := 32) (n := 6) kd33 (by omega)
    have q33 : ∀ (V1 : gV), MX4_at 32 (nI m) V1 = V1 33 m := fun V1 => pu_at (k := 32) (n := 6) kd33 (by omega)
    have s1 : ∀ f : Nat → Int32, upd (sh f n (m + 1)) (m + 1) (f m) = sh f n m := fun f => sh_s (by omega)
    simp only [PX2_putFirst_22, BX2_putFirst_22, PX2_putFirst_44, BX2_putFirst_44, PX2_putFirst_62, BX2_putFirst_62, PX2_putFirst_80, BX2_putFirst_80, PX2_putFirst_98, BX2_putFirst_98, show nI (m + 1) - (1 : Int32) = nI m from nI_pred m, p27, p29, p31, p33, q27, q29, q31, q33, g4_27, g4_29, g4_31, g4_33, sh_r, g4_u27, g4_u29, g4_u31, g4_u33, s1, pu_dec]
    simp [e, ih]
def hf (np : Nat) (f : Nat → Int32) : Nat → Int32 := fun j => if j < np then 26 else f j
theorem drop_loop {V : gV} {np : Nat} (hn : np ≤ 5) (h : V 11 0 = nI np) : PX0_dropHints V ∧ MX0_dropHints V = gs V 21 (hf np (V 21)) := by
  unfold PX0_dropHints MX0_dropHints
  have h0 : hf 0 (V 21) = V 21 := by
    funext j
    unfold hf
    rw [if_neg (by omega)]
  have key := pu_loop (fun f i => PX0_dropHints_2 f (nI i) (gs V 21 (hf i (V 21))) ∧ BX0_dropHints_2 f (nI i) (gs V 21 (hf i (V 21))) = gs V 21 (hf np (V 21))) np (fun f => ?_) (fun f i hi ih => ?_) np 1000 0 (by omega) (by omega)
  · rw [h0, gs_self rfl] at key
    exact key
  · have e : nI np ≤ nI np := nI_le (Nat.le_refl _) (by omega)
    simp only [PX0_dropHints_2, BX0_dropHints_2, gs_ne (show 11 ≠ 21 by omega), h]
    simp [e]
  · have e := nI_ge hi (by omega)
    have pp : ∀ V1 : gV, MX4_put 20 (nI i) 26 V1 = gu V1 21 i 26 := fun V1 => pu_put (n := 5) kd21 (by omega)
    have st : upd (hf i (V 21)) i 26 = hf (i + 1) (V 21) := by
      funext j
      unfold upd hf
      by_cases e1 : j = i
      · rw [if_pos e1, if_pos (by omega)]
      · rw [if_neg e1]
        by_cases e2 : j < i
        · rw [if_pos e2, if_pos (by omega)]
        · rw [if_neg e2, if_neg (by omega)]
    simp only [PX0_dropHints_2, BX0_dropHints_2, PX0_dropHints_15, BX0_dropHints_15, MX0_dropHint, gs_ne (show 11 ≠ 21 by omega), h, pp, gu_gs, st, nI_1]
    simp [e, ih]
/-- what the class's cells are behind the end of a round -/
def cEnd (V : gV) (kp np : Nat) (a : Int32) : gV := gu (gs (g4 (gu V 25 0 (nI (if kp < 6 then kp + 1 else 6))) (upd (sh (V 27) (if kp < 6 then kp + 1 else 6) 0) 0 (V 24 1)) (upd (sh (V 29) (if kp < 6 then kp + 1 else 6) 0) 0 a) (upd (sh (V 31) (if kp < 6 then kp + 1 else 6) 0) 0 (V 24 5)) (upd (sh (V 33) (if kp < 6 then kp + 1 else 6) 0) 0 (V 24 2))) 21 (hf np (V 21))) 24 0 0
theorem cend_ok {V : gV} {kp np : Nat} (hk : kp ≤ 6) (hn : np ≤ 5) (h25 : V 25 0 = nI kp) (h11 : V 11 0 = nI np) (a : Int32) : PX5_endRound a V ∧ MX5_endRound a V = cEnd V kp np a := by
  have e0 : (if (6 : Int32) < V 25 0 + 1 then (6 : Int32) else V 25 0 + 1) = nI (if kp < 6 then kp + 1 else 6) := by
    rw [h25, nI_1]
    by_cases h6 : kp < 6
    · have q : ¬ (6 : Int32) < nI (kp + 1) := nI_nlt (b := kp + 1) (a := 6) (by omega) (by omega)
      rw [if_pos h6, if_neg q]
    · have : kp = 6 := by omega
      subst this
      have q : (6 : Int32) < nI (6 + 1) := nI_lt (a := 6) (by omega) (by omega)
      rw [if_neg h6, if_pos q]
      rfl
  have hs : 1 ≤ (if kp < 6 then kp + 1 else 6) ∧ (if kp < 6 then kp + 1 else 6) ≤ 6 := by split <;> omega
  unfold cEnd PX5_endRound PX5_endRound_12 MX5_endRound BX5_endRound_12 BX5_endRound_19 PX2_putFirst MX2_putFirst PX2_putFirst_15 BX2_putFirst_15
  rw [e0]
  generalize (if kp < 6 then kp + 1 else 6) = n at hs
  obtain ⟨k1, k2⟩ := put_loop (V := gu V 25 0 (nI n)) hs.1 hs.2 a
  have e1 : gu V 25 0 (nI n) 25 0 - 1 = nI (n - 1) := by
    rw [gu_at]
    exact pu_sub (b := 1) hs.1
  rw [e1, k2, gu_row (show 27 ≠ 25 by omega), gu_row (show 29 ≠ 25 by omega), gu_row (show 31 ≠ 25 by omega), gu_row (show 33 ≠ 25 by omega), gu_row (show 24 ≠ 25 by omega)]
  obtain ⟨d1, d2⟩ := drop_loop (V := g4 (gu V 25 0 (nI n)) (upd (sh (V 27) n 0) 0 (V 24 1)) (upd (sh (V 29) n 0) 0 a) (upd (sh (V 31) n 0) 0 (V 24 5)) (upd (sh (V 33) n 0) 0 (V 24 2))) hn (by rw [g4_ne (by omega), gu_row (by omega), h11])
  rw [d2, g4_ne (show 21 ≠ 27 ∧ 21 ≠ 29 ∧ 21 ≠ 31 ∧ 21 ≠ 33 by omega), gu_row (show 21 ≠ 25 by omega)]
  exact ⟨⟨k1, d1⟩, rfl⟩
