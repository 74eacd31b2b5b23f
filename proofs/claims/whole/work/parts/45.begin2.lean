theorem cW_of {V : gV} {m : Nat → Int32} {nw : Nat} {ln wt : Nat → Nat} {lt : Nat → Nat → Nat} (h : rWd (fun c => V (1 + c)) m nw ln wt lt) : cW V nw ln wt lt := by
  obtain ⟨h1, h2, h3, h4⟩ := h
  refine ⟨h1, h2, fun w hw => ?_⟩
  obtain ⟨⟨a, b, c, d⟩, a1, a2, a3, a4, a5, a6⟩ := h4 w hw
  exact ⟨a, b, c, d, a1, a3, fun k hk => ⟨(a6 k hk).1, (a6 k hk).2.1⟩⟩
theorem mW_of {V : gV} {s : gV} {nw : Nat} {ln wt : Nat → Nat} {lt : Nat → Nat → Nat} (h : rWd s (V 214) nw ln wt lt) : mW V nw ln wt lt := by
  obtain ⟨h1, h2, h3, h4⟩ := h
  refine ⟨h1, h3, fun w hw => ?_⟩
  obtain ⟨⟨a, b, c, d⟩, a1, a2, a3, a4, a5, a6⟩ := h4 w hw
  exact ⟨a, b, c, d, a2, a4, fun k hk => ⟨(a6 k hk).1, (a6 k hk).2.2⟩⟩
/-- the class's cells behind the begin of a round -/
def cBeg (R : gV) (D T z np : Nat) (s : Int32) : gV := gu (gs (gu (gu (gu (gu (gu (gu (gu (gu (gu (gu R 1 7 (nI D)) 1 5 (nI T)) 1 4 (R 1 4 + 1)) 24 0 1) 24 1 (nI z)) 24 2 s) 24 3 (nI T)) 24 4 (s * nI np)) 24 5 0) 24 6 0) 13 (tk np s (R 13))) 8 z (R 8 z + 1)
theorem begin_c {R : gV} {m : Nat → Int32} {nw np d st : Nat} {ln wt : Nat → Nat} {lt : Nat → Nat → Nat} (g1 : rWd (fun c => R (1 + c)) m nw ln wt lt) (hnw : 0 < nw) (p2 : R 11 0 = nI np) (hn : np ≤ 5) (h0 : 0 < np) (hd : d < 2 ^ 31) (e7 : R 1 7 = nI d) (e5 : R 1 5 = nI st - 1) (hst : st ≤ np) (s : Int32) :
    ∃ z, z < nw ∧ sSum wt z ≤ nxt d / 65536 % sSum wt nw ∧ nxt d / 65536 % sSum wt nw < sSum wt (z + 1) ∧ PX5_beginRound s R ∧ MX5_beginRound s R = cBeg R (nxt d) (st % np) z np s := by
  obtain ⟨V4, eV⟩ : ∃ v, v = gu (gu (gu (gu R 1 7 (nI (nxt d))) 1 5 (nI (st % np))) 1 4 (R 1 4 + 1)) 24 0 1 := ⟨_, rfl⟩
  have f4 : ∀ x, x ≠ 1 → x ≠ 24 → V4 x = R x := fun x a b => by rw [eV, gu_row b, gu_row a, gu_row a, gu_row a]
  have d4 : V4 1 7 = nI (nxt d) := by rw [eV, gu_row (by omega), gu_col (by omega), gu_col (by omega), gu_at]
  have t4 : V4 1 5 = nI (st % np) := by rw [eV, gu_row (by omega), gu_col (by omega), gu_at]
  have g14 : rWd (fun c => V4 (1 + c)) m nw ln wt lt := g1.congr (fun c j q => by
    show V4 (1 + c) j = R (1 + c) j
    rw [f4 (1 + c) (by omega) (by omega)]) (fun _ _ => rfl)
  obtain ⟨z, hz, s1, s2, hP, hM⟩ := cw_drawnBy (cW_of g14) hnw (nxt_lt d)
  have hz16 : z < 16 := by have := g1.1; omega
  refine ⟨z, hz, s1, s2, ?_⟩
  have eN : ∀ V : gV, MX8_numberBehind (nI d) V = nI (nxt d) := fun V => behindN hd
  have eB : MX0_behind (nI st - 1) (gu R 1 7 (nI (nxt d))) = nI (st % np) := by
    unfold MX0_behind
    rw [gu_row (by omega), p2, Int32.sub_add_cancel]
    by_cases q : np ≤ st
    · have : st = np := by omega
      rw [if_pos (nI_le q (by omega)), this, Nat.mod_self]
      rfl
    · rw [if_neg (fun q2 => q ((nI_leI (by omega) (by omega)).mp q2)), Nat.mod_eq_of_lt (by omega)]
  obtain ⟨V9, eV9⟩ : ∃ v, v = gu (gu (gu (gu (gu (gu V4 24 1 (nI z)) 24 2 s) 24 3 (nI (st % np))) 24 4 (s * nI np)) 24 5 0) 24 6 0 := ⟨_, rfl⟩
  have f9 : ∀ x, x ≠ 24 → V9 x = V4 x := fun x a => by rw [eV9, gu_row a, gu_row a, gu_row a, gu_row a, gu_row a, gu_row a]
  have z9 : V9 24 1 = nI z := by rw [eV9, gu_col (by omega), gu_col (by omega), gu_col (by omega), gu_col (by omega), gu_col (by omega), gu_at]
  obtain ⟨k1, k2⟩ := take_ok (V := V9) hn (by rw [f9 11 (by omega), f4 11 (by omega) (by omega), p2]) s
  have e13 : V9 13 = R 13 := by rw [f9 13 (by omega), f4 13 (by omega) (by omega)]
  rw [e13] at k2
  have hbr : MX5_beginRound s R = BX5_beginRound_113 s V9 ∧ (PX5_beginRound s R ↔ PX5_beginRound_113 s V9) := by
    unfold MX5_beginRound PX5_beginRound BX5_beginRound_11 PX5_beginRound_11 BX5_beginRound_26 PX5_beginRound_26 BX5_beginRound_36 PX5_beginRound_36 BX5_beginRound_44 PX5_beginRound_44 BX5_beginRound_62 PX5_beginRound_62 BX5_beginRound_70 PX5_beginRound_70 BX5_beginRound_81 PX5_beginRound_81 BX5_beginRound_97 PX5_beginRound_97 BX5_beginRound_105 PX5_beginRound_105
    have x5 : gu R 1 7 (nI (nxt d)) 1 5 = nI st - 1 := by rw [gu_col (by omega), e5]
    have x4 : gu (gu R 1 7 (nI (nxt d))) 1 5 (nI (st % np)) 1 4 = R 1 4 := by rw [gu_col (by omega), gu_col (by omega)]
    have y5 : gu (gu V4 24 1 (nI z)) 24 2 s 1 5 = nI (st % np) := by rw [gu_row (by omega), gu_row (by omega), t4]
    have y11 : gu (gu (gu V4 24 1 (nI z)) 24 2 s) 24 3 (nI (st % np)) 11 0 = nI np := by rw [gu_row (by omega), gu_row (by omega), gu_row (by omega), f4 11 (by omega) (by omega), p2]
    rw [e7, eN, x5, eB, x4, ← eV, d4, hM, y5, y11, ← eV9]
    exact ⟨rfl, ⟨fun q => q.2, fun q => ⟨hP, q⟩⟩⟩
  refine ⟨hbr.2.mpr k1, ?_⟩
  rw [hbr.1]
  unfold BX5_beginRound_113 BX5_beginRound_121
  rw [k2, gs_ne (show 24 ≠ 13 by omega), z9]
  have ea : MX4_add 7 (nI z) 1 (gs V9 13 (tk np s (R 13))) = gu (gs V9 13 (tk np s (R 13))) 8 z (gs V9 13 (tk np s (R 13)) 8 z + 1) := pu_add (k := 7) (n := 16) kd8 hz16
  rw [ea, gs_ne (show 8 ≠ 13 by omega), f9 8 (by omega), f4 8 (by omega) (by omega), eV9, eV]
  rfl
