def mBeg0 (D T z np : Nat) (s : Int32) (m : Nat → Int32) : Nat → Int32 := upd (upd (upd (upd (upd (upd (upd (upd (upd (upd (upd (upd m 10 (nI D)) 13 (nI z)) (16 + 11 * z + 2) (m (16 + 11 * z + 2) + 1)) 12 (nI T)) 3 (nI T)) 4 (s * nI np)) 14 s) 5 0) 6 0) 7 0) 2 1) 8 (m 8 + 1)
theorem begin_m {W : gV} {s' : gV} {nw np d st z : Nat} {ln wt : Nat → Nat} {lt : Nat → Nat → Nat} (g1 : rWd s' (W 214) nw ln wt lt) (p3 : W 214 1 = nI np) (hn : np ≤ 5) (h0 : 0 < np) (hd : d < 2 ^ 31) (e10 : W 214 10 = nI d) (e12 : W 214 12 = nI st - 1) (hst : st ≤ np) (hz : z < nw) (s1 : sSum wt z ≤ nxt d / 65536 % sSum wt nw) (s2 : nxt d / 65536 % sSum wt nw < sSum wt (z + 1)) (s : Int32) :
    PX9_begin_52 s W ∧ BX9_begin_52 s W = (nI (ln z), gs W 214 (mk np s (mBeg0 (nxt d) (st % np) z np s (W 214)))) := by
  have hz16 : z < 16 := by have := g1.1; omega
  have g1' : rWd s' (gs W 214 (upd (W 214) 10 (nI (nxt d))) 214) nw ln wt lt := by
    rw [gs_at]
    exact g1.congr (fun _ _ _ => rfl) (fun j q => upd_ne (by omega))
  obtain ⟨hP, hM⟩ := mw_wordBy (mW_of g1') (nxt_lt d) hz s1 s2
  have eD : MX9_drawn W = nI (nxt d) := by
    unfold MX9_drawn
    rw [pc10, e10]
    exact behindN hd
  have eT : nI st - 1 + 1 - (nI st - 1 + 1) / nI np * nI np = nI (st % np) := by
    rw [Int32.sub_add_cancel]
    exact pu_rem (by omega) (by omega)
  have e16 : ((16 : Int32) + (11 : Int32) * nI z + (2 : Int32)) = nI (16 + 11 * z + 2) := by
    rw [show (16 : Int32) = nI 16 from rfl, show (11 : Int32) = nI 11 from rfl, show (2 : Int32) = nI 2 from rfl, pu_mul, nI_add, nI_add]
  have i16 := pu_in (show 16 + 11 * z + 2 < 246 by omega) (show 246 < 2 ^ 31 by omega)
  have hlen : W 214 (16 + 11 * z) = nI (ln z) := (g1.2.2.2 z hz).2.2.1
  have hm1 : mBeg0 (nxt d) (st % np) z np s (W 214) 1 = nI np := by
    unfold mBeg0
    rw [upd_ne (by omega), upd_ne (by omega), upd_ne (by omega), upd_ne (by omega), upd_ne (by omega), upd_ne (by omega), upd_ne (by omega), upd_ne (by omega), upd_ne (by omega), upd_ne (by omega), upd_ne (by omega), upd_ne (by omega), p3]
  have hm13 : mBeg0 (nxt d) (st % np) z np s (W 214) 13 = nI z := by
    unfold mBeg0
    rw [upd_ne (by omega), upd_ne (by omega), upd_ne (by omega), upd_ne (by omega), upd_ne (by omega), upd_ne (by omega), upd_ne (by omega), upd_ne (by omega), upd_ne (by omega), upd_ne (by omega), upd_at]
  have hmL : mBeg0 (nxt d) (st % np) z np s (W 214) (16 + 11 * z) = nI (ln z) := by
    unfold mBeg0
    rw [upd_ne (by omega), upd_ne (by omega), upd_ne (by omega), upd_ne (by omega), upd_ne (by omega), upd_ne (by omega), upd_ne (by omega), upd_ne (by omega), upd_ne (by omega), upd_ne (by omega), upd_ne (by omega), upd_ne (by omega), hlen]
  obtain ⟨k1, k2⟩ := mbeg_loop (V := gs W 214 (mBeg0 (nxt d) (st % np) z np s (W 214))) hn (by rw [gs_at]; exact hm1) (by rw [gs_at]; exact hm13) hz16 (by rw [gs_at]; exact hmL) s
  rw [gs_at, gs_gs] at k2
  have c1 : BX9_begin_52 s W = BX9_begin_81 s (gs W 214 (upd (upd (W 214) 10 (nI (nxt d))) 13 (nI z))) ∧ (PX9_begin_52 s W ↔ PX9_begin_81 s (gs W 214 (upd (upd (W 214) 10 (nI (nxt d))) 13 (nI z)))) := by
    unfold BX9_begin_52 PX9_begin_52 BX9_begin_63 PX9_begin_63
    rw [eD, pc10, gu_of (V := W) (k := 214) rfl, gs_at, upd_at, hM, pc13, gu_gs]
    exact ⟨rfl, ⟨fun q => q.2, fun q => ⟨hP, q⟩⟩⟩
  have c2 : BX9_begin_81 s (gs W 214 (upd (upd (W 214) 10 (nI (nxt d))) 13 (nI z))) = BX9_begin_204 s (gs W 214 (mBeg0 (nxt d) (st % np) z np s (W 214))) ∧ (PX9_begin_81 s (gs W 214 (upd (upd (W 214) 10 (nI (nxt d))) 13 (nI z))) ↔ PX9_begin_204 s (gs W 214 (mBeg0 (nxt d) (st % np) z np s (W 214)))) := by
    unfold BX9_begin_81 PX9_begin_81 BX9_begin_105 PX9_begin_105 BX9_begin_128 PX9_begin_128 BX9_begin_141 PX9_begin_141 BX9_begin_155 PX9_begin_155 BX9_begin_163 PX9_begin_163 BX9_begin_170 PX9_begin_170 BX9_begin_178 PX9_begin_178 BX9_begin_186 PX9_begin_186 BX9_begin_193 PX9_begin_193 mBeg0
    have n0 : ¬ nI np = 0 := nI_ne0 h0 (by omega)
    simp only [pc1, pc2, pc3, pc4, pc5, pc6, pc7, pc8, pc12, pc13, pc14, gs_at, gu_gs, upd_at, e16, nI_clamp (show 16 + 11 * z + 2 < 2 ^ 31 by omega), upd_ne (show 16 + 11 * z + 2 ≠ 13 by omega), upd_ne (show 16 + 11 * z + 2 ≠ 10 by omega), upd_ne (show 12 ≠ 16 + 11 * z + 2 by omega), upd_ne (show 12 ≠ 13 by omega), upd_ne (show 12 ≠ 10 by omega), e12, upd_ne (show 1 ≠ 16 + 11 * z + 2 by omega), upd_ne (show 1 ≠ 13 by omega), upd_ne (show 1 ≠ 10 by omega), upd_ne (show 1 ≠ 12 by omega), upd_ne (show 1 ≠ 3 by omega), p3, eT, upd_ne (show 8 ≠ 2 by omega), upd_ne (show 8 ≠ 7 by omega), upd_ne (show 8 ≠ 6 by omega), upd_ne (show 8 ≠ 5 by omega), upd_ne (show 8 ≠ 14 by omega), upd_ne (show 8 ≠ 4 by omega), upd_ne (show 8 ≠ 3 by omega), upd_ne (show 8 ≠ 12 by omega), upd_ne (show 8 ≠ 16 + 11 * z + 2 by omega), upd_ne (show 8 ≠ 13 by omega), upd_ne (show 8 ≠ 10 by omega)]
    exact ⟨trivial, ⟨fun q => q.2.2.2, fun q => ⟨i16, i16, n0, q⟩⟩⟩
  exact ⟨c1.2.mpr (c2.2.mpr k1), c1.1.trans (c2.1.trans k2)⟩
theorem sOr_none {f : Nat → Bool} : ∀ {n : Nat}, (∀ k, k < n → f k = false) → sOr f n = 0
  | 0, _ => rfl
  | n + 1, h => by rw [sOr, sOr_none (fun k hk => h k (by omega)), h n (by omega)]; simp
/-- behind the begin of a round the two are in relation -/
theorem begin_rel {R : gV} {m : Nat → Int32} {nw np kp d lim st z D : Nat} {ln wt : Nat → Nat} {lt : Nat → Nat → Nat} (g1 : rWd (fun c => R (1 + c)) m nw ln wt lt) (g2 : rBn (fun c => R (1 + c)) m np) (g3 : rPs (fun c => R (1 + c)) m kp) (g4' : rNm (fun c => R (1 + c)) m np d lim st) (g5 : rOff (fun c => R (1 + c)) m np) (h0 : 0 < np) (hz : z < nw) (hD : D < 2 ^ 31) (s : Int32) :
    gRel (fun c => cBeg R D (st % np) z np s (1 + c)) (mk np s (mBeg0 D (st % np) z np s m)) := by
  obtain ⟨p1, p2, p3, p4, p5⟩ := g2
  have p2 : R 11 0 = nI np := p2
  have hz16 : z < 16 := by have := g1.1; omega
  have hT : st % np < np := Nat.mod_lt _ h0
  obtain ⟨a1, a2, ⟨a3, a4, a5⟩, ⟨a6, a7, a8, a9⟩, a10, a11, a12⟩ := g4'
  -- the class's cells
  have c1 : ∀ x, x ≠ 1 → x ≠ 8 → x ≠ 13 → x ≠ 24 → cBeg R D (st % np) z np s x = R x := fun x b1 b2 b3 b4 => by
    unfold cBeg
    rw [gu_row b2, gs_ne b3, gu_row b4, gu_row b4, gu_row b4, gu_row b4, gu_row b4, gu_row b4, gu_row b4, gu_row b1, gu_row b1, gu_row b1]
  have cA : ∀ j, cBeg R D (st % np) z np s 1 j = gu (gu (gu R 1 7 (nI D)) 1 5 (nI (st % np))) 1 4 (R 1 4 + 1) 1 j := fun j => by
    unfold cBeg
    rw [gu_row (by omega), gs_ne (by omega), gu_row (by omega), gu_row (by omega), gu_row (by omega), gu_row (by omega), gu_row (by omega), gu_row (by omega), gu_row (by omega)]
  have c8 : ∀ j, cBeg R D (st % np) z np s 8 j = if j = z then R 8 z + 1 else R 8 j := fun j => by
    unfold cBeg
    rw [gu_eq]
    by_cases q : j = z
    · rw [if_pos ⟨rfl, q⟩, if_pos q]
    · rw [if_neg (fun w => q w.2), if_neg q, gs_ne (by omega), gu_row (by omega), gu_row (by omega), gu_row (by omega), gu_row (by omega), gu_row (by omega), gu_row (by omega), gu_row (by omega), gu_row (by omega), gu_row (by omega), gu_row (by omega)]
  have c13 : cBeg R D (st % np) z np s 13 = tk np s (R 13) := by
    unfold cBeg
    rw [gu_row (by omega), gs_at]
  have cR' : ∀ j, cBeg R D (st % np) z np s 24 j = gu (gu (gu (gu (gu (gu (gu R 24 0 1) 24 1 (nI z)) 24 2 s) 24 3 (nI (st % np))) 24 4 (s * nI np)) 24 5 0) 24 6 0 24 j := fun j => by
    unfold cBeg
    rw [gu_row (by omega), gs_ne (by omega)]
    simp only [gu_eq, show ¬ (24 = 1) by omega, false_and, if_false]
  -- the reference's row
  have m1 : ∀ j, j ≠ 10 → j ≠ 13 → j ≠ 16 + 11 * z + 2 → j ≠ 12 → j ≠ 3 → j ≠ 4 → j ≠ 14 → j ≠ 5 → j ≠ 6 → j ≠ 7 → j ≠ 2 → j ≠ 8 → mBeg0 D (st % np) z np s m j = m j := fun j b1 b2 b3 b4 b5 b6 b7 b8 b9 b10 b11 b12 => by
    unfold mBeg0
    rw [upd_ne b12, upd_ne b11, upd_ne b10, upd_ne b9, upd_ne b8, upd_ne b7, upd_ne b6, upd_ne b5, upd_ne b4, upd_ne b3, upd_ne b2, upd_ne b1]
  have m2 : ∀ j, j < 192 → mk np s (mBeg0 D (st % np) z np s m) j = mBeg0 D (st % np) z np s m j := fun j b => mk_lo (Or.inl b)
  have mA : ∀ j, j < 192 → j ≠ 10 → j ≠ 13 → j ≠ 16 + 11 * z + 2 → j ≠ 12 → j ≠ 3 → j ≠ 4 → j ≠ 14 → j ≠ 5 → j ≠ 6 → j ≠ 7 → j ≠ 2 → j ≠ 8 → mk np s (mBeg0 D (st % np) z np s m) j = m j := fun j b b1 b2 b3 b4 b5 b6 b7 b8 b9 b10 b11 b12 => (m2 j b).trans (m1 j b1 b2 b3 b4 b5 b6 b7 b8 b9 b10 b11 b12)
  have mH : ∀ j, 192 ≤ j → mBeg0 D (st % np) z np s m j = m j := fun j b => m1 j (by omega) (by omega) (by omega) (by omega) (by omega) (by omega) (by omega) (by omega) (by omega) (by omega) (by omega) (by omega)
  have mP : ∀ p j, p < np → j < 6 → j ≠ 0 → j ≠ 4 → mk np s (mBeg0 D (st % np) z np s m) (192 + 6 * p + j) = m (192 + 6 * p + j) := fun p j hp hj b1 b2 => by
    unfold mk
    rw [if_pos (by omega), if_neg (by omega), if_neg (by omega), mH _ (by omega)]
  have mP4 : ∀ p, p < np → mk np s (mBeg0 D (st % np) z np s m) (192 + 6 * p + 4) = 26 := fun p hp => by
    unfold mk
    rw [if_pos (by omega), if_neg (by omega), if_pos (by omega)]
  have mP0 : ∀ p, p < np → mk np s (mBeg0 D (st % np) z np s m) (192 + 6 * p) = m (192 + 6 * p) - s := fun p hp => by
    unfold mk
    rw [if_pos (by omega), if_pos (by omega), mH _ (by omega)]
  have mQ : ∀ j, 192 + 6 * np ≤ j → mk np s (mBeg0 D (st % np) z np s m) j = m j := fun j b => (mk_lo (Or.inr b)).trans (mH j (by omega))
  have e10 : mk np s (mBeg0 D (st % np) z np s m) 10 = nI D := by
    rw [m2 10 (by omega)]; unfold mBeg0
    rw [upd_ne (by omega), upd_ne (by omega), upd_ne (by omega), upd_ne (by omega), upd_ne (by omega), upd_ne (by omega), upd_ne (by omega), upd_ne (by omega), upd_ne (by omega), upd_ne (by omega), upd_ne (by omega), upd_at]
  have e13 : mk np s (mBeg0 D (st % np) z np s m) 13 = nI z := by
    rw [m2 13 (by omega)]; unfold mBeg0
    rw [upd_ne (by omega), upd_ne (by omega), upd_ne (by omega), upd_ne (by omega), upd_ne (by omega), upd_ne (by omega), upd_ne (by omega), upd_ne (by omega), upd_ne (by omega), upd_ne (by omega), upd_at]
  have eW : mk np s (mBeg0 D (st % np) z np s m) (16 + 11 * z + 2) = m (16 + 11 * z + 2) + 1 := by
    rw [m2 _ (by omega)]; unfold mBeg0
    rw [upd_ne (by omega), upd_ne (by omega), upd_ne (by omega), upd_ne (by omega), upd_ne (by omega), upd_ne (by omega), upd_ne (by omega), upd_ne (by omega), upd_ne (by omega), upd_at]
  have e12 : mk np s (mBeg0 D (st % np) z np s m) 12 = nI (st % np) := by
    rw [m2 12 (by omega)]; unfold mBeg0
    rw [upd_ne (by omega), upd_ne (by omega), upd_ne (by omega), upd_ne (by omega), upd_ne (by omega), upd_ne (by omega), upd_ne (by omega), upd_ne (by omega), upd_at]
  have e3 : mk np s (mBeg0 D (st % np) z np s m) 3 = nI (st % np) := by
    rw [m2 3 (by omega)]; unfold mBeg0
    rw [upd_ne (by omega), upd_ne (by omega), upd_ne (by omega), upd_ne (by omega), upd_ne (by omega), upd_ne (by omega), upd_ne (by omega), upd_at]
  have e4 : mk np s (mBeg0 D (st % np) z np s m) 4 = s * nI np := by
    rw [m2 4 (by omega)]; unfold mBeg0
    rw [upd_ne (by omega), upd_ne (by omega), upd_ne (by omega), upd_ne (by omega), upd_ne (by omega), upd_ne (by omega), upd_at]
  have e14 : mk np s (mBeg0 D (st % np) z np s m) 14 = s := by
    rw [m2 14 (by omega)]; unfold mBeg0
    rw [upd_ne (by omega), upd_ne (by omega), upd_ne (by omega), upd_ne (by omega), upd_ne (by omega), upd_at]
  have e5 : mk np s (mBeg0 D (st % np) z np s m) 5 = 0 := by
    rw [m2 5 (by omega)]; unfold mBeg0
    rw [upd_ne (by omega), upd_ne (by omega), upd_ne (by omega), upd_ne (by omega), upd_at]
  have e6 : mk np s (mBeg0 D (st % np) z np s m) 6 = 0 := by
    rw [m2 6 (by omega)]; unfold mBeg0
    rw [upd_ne (by omega), upd_ne (by omega), upd_ne (by omega), upd_at]
  have e7 : mk np s (mBeg0 D (st % np) z np s m) 7 = 0 := by
    rw [m2 7 (by omega)]; unfold mBeg0
    rw [upd_ne (by omega), upd_ne (by omega), upd_at]
  have e2 : mk np s (mBeg0 D (st % np) z np s m) 2 = 1 := by
    rw [m2 2 (by omega)]; unfold mBeg0
    rw [upd_ne (by omega), upd_at]
  have e8 : mk np s (mBeg0 D (st % np) z np s m) 8 = m 8 + 1 := by
    rw [m2 8 (by omega)]; unfold mBeg0
    rw [upd_at]
  obtain ⟨h1, h2, h3, h4⟩ := g1
  have hlz := (h4 z hz).1.1
  refine ⟨nw, np, kp, D, lim, st % np + 1, ln, wt, lt, ⟨h1, ?_, ?_, fun w hw => ?_⟩, ⟨p1, ?_, ?_, fun p hp => ?_, fun p hp1 hp2 => ?_⟩, ?_, ⟨?_, ?_, ⟨hD, ?_, e10⟩, ⟨a6, a7, ?_, ?_⟩, by omega, ?_, ?_⟩, Or.inr ⟨z, st % np, 0, 0, ?_⟩⟩
  · show cBeg R D (st % np) z np s 2 0 = _
    rw [c1 2 (by omega) (by omega) (by omega) (by omega)]; exact h2
  · rw [mA 0 (by omega) (by omega) (by omega) (by omega) (by omega) (by omega) (by omega) (by omega) (by omega) (by omega) (by omega) (by omega) (by omega)]; exact h3
  · obtain ⟨b0, b1, b2, b3, b4, b5, b6⟩ := h4 w hw
    have n1 : ∀ j, j < 11 → (j ≠ 2 ∨ w ≠ z) → mk np s (mBeg0 D (st % np) z np s m) (16 + 11 * w + j) = m (16 + 11 * w + j) := fun j hj q => mA _ (by omega) (by omega) (by omega) (by omega) (by omega) (by omega) (by omega) (by omega) (by omega) (by omega) (by omega) (by omega) (by omega)
    have k : ∀ x j, x ≠ 1 → x ≠ 8 → x ≠ 13 → x ≠ 24 → cBeg R D (st % np) z np s x j = R x j := fun x j q1 q2 q3 q4 => by rw [c1 x q1 q2 q3 q4]
    refine ⟨b0, (k 4 w (by omega) (by omega) (by omega) (by omega)).trans b1, (n1 0 (by omega) (by omega)).trans b2, (k 6 w (by omega) (by omega) (by omega) (by omega)).trans b3, (n1 1 (by omega) (by omega)).trans b4, ?_, fun i hi => ?_⟩
    · show cBeg R D (st % np) z np s 8 w = _
      have b5 : R 8 w = m (16 + 11 * w + 2) := b5
      rw [c8]
      by_cases q : w = z
      · subst q
        rw [if_pos rfl, eW, b5]
      · rw [if_neg q, n1 2 (by omega) (Or.inr q), b5]
    · obtain ⟨q1, q2, q3⟩ := b6 i hi
      exact ⟨q1, (k 10 _ (by omega) (by omega) (by omega) (by omega)).trans q2, (n1 (3 + i) (by omega) (by omega)).trans q3⟩
  · show cBeg R D (st % np) z np s 11 0 = _
    rw [c1 11 (by omega) (by omega) (by omega) (by omega)]; exact p2
  · rw [mA 1 (by omega) (by omega) (by omega) (by omega) (by omega) (by omega) (by omega) (by omega) (by omega) (by omega) (by omega) (by omega) (by omega)]; exact p3
  · obtain ⟨u1, u2, u3, u4, u5, u6⟩ := p4 p hp
    have u1 : R 13 p = m (192 + 6 * p) := u1
    have k : ∀ x j, x ≠ 1 → x ≠ 8 → x ≠ 13 → x ≠ 24 → cBeg R D (st % np) z np s x j = R x j := fun x j q1 q2 q3 q4 => by rw [c1 x q1 q2 q3 q4]
    refine ⟨?_, (k 15 p (by omega) (by omega) (by omega) (by omega)).trans (u2.trans (mP p 1 hp (by omega) (by omega) (by omega)).symm), (k 17 p (by omega) (by omega) (by omega) (by omega)).trans (u3.trans (mP p 2 hp (by omega) (by omega) (by omega)).symm), (k 19 p (by omega) (by omega) (by omega) (by omega)).trans (u4.trans (mP p 3 hp (by omega) (by omega) (by omega)).symm), ?_, Or.inl (mP4 p hp)⟩
    · show cBeg R D (st % np) z np s 13 p = _
      rw [c13, mP0 p hp, Int32.sub_eq_add_neg, ← u1]
      exact if_pos hp
    · rw [mP4 p hp]
      exact (k 21 p (by omega) (by omega) (by omega) (by omega)).trans (u5.trans (g5.2.2 p hp))
  · obtain ⟨u1, u2, u3⟩ := p5 p hp1 hp2
    exact ⟨(mQ _ (by omega)).trans u1, (mQ _ (by omega)).trans u2, (mQ _ (by omega)).trans u3⟩
  · exact g3.congr (fun c j q => by
      show cBeg R D (st % np) z np s (1 + c) j = R (1 + c) j
      rw [c1 (1 + c) (by omega) (by omega) (by omega) (by omega)]) (fun j q => by
      rcases q with q | q
      · subst q
        exact mA 15 (by omega) (by omega) (by omega) (by omega) (by omega) (by omega) (by omega) (by omega) (by omega) (by omega) (by omega) (by omega) (by omega)
      · exact mQ j (by omega))
  · show cBeg R D (st % np) z np s 1 4 = _
    rw [cA, gu_at, e8]
    exact congrArg (· + 1) a1
  · show cBeg R D (st % np) z np s 1 6 = _
    rw [cA, gu_col (by omega), gu_col (by omega), gu_col (by omega), mA 9 (by omega) (by omega) (by omega) (by omega) (by omega) (by omega) (by omega) (by omega) (by omega) (by omega) (by omega) (by omega) (by omega)]
    exact a2
  · show cBeg R D (st % np) z np s 1 7 = _
    rw [cA, gu_col (by omega), gu_col (by omega), gu_at]
  · show cBeg R D (st % np) z np s 1 8 = _
    rw [cA, gu_col (by omega), gu_col (by omega), gu_col (by omega)]
    exact a8
  · rw [mA 11 (by omega) (by omega) (by omega) (by omega) (by omega) (by omega) (by omega) (by omega) (by omega) (by omega) (by omega) (by omega) (by omega)]
    exact a9
  · show cBeg R D (st % np) z np s 1 5 = _
    rw [cA, gu_col (by omega), gu_at]
    exact (nI_pred _).symm
  · rw [e12]
    exact (nI_pred _).symm
  · have o13 : sOr (fun k => Nat.testBit 0 (lt z k)) (ln z) = 0 := sOr_none (fun k _ => Nat.zero_testBit _)
    refine ⟨?_, e2, hz, hT, by omega, by omega, ⟨?_, e13⟩, ?_, ⟨?_, e3⟩, ?_, ⟨?_, e5⟩, ⟨?_, e6⟩, ?_, ⟨0, by omega, Nat.zero_testBit _⟩⟩
    · show cBeg R D (st % np) z np s 24 0 = _
      rw [cR', gu_col (by omega), gu_col (by omega), gu_col (by omega), gu_col (by omega), gu_col (by omega), gu_col (by omega), gu_at]
    · show cBeg R D (st % np) z np s 24 1 = _
      rw [cR', gu_col (by omega), gu_col (by omega), gu_col (by omega), gu_col (by omega), gu_col (by omega), gu_at]
    · show cBeg R D (st % np) z np s 24 2 = _
      rw [cR', gu_col (by omega), gu_col (by omega), gu_col (by omega), gu_col (by omega), gu_at, e14]
    · show cBeg R D (st % np) z np s 24 3 = _
      rw [cR', gu_col (by omega), gu_col (by omega), gu_col (by omega), gu_at]
    · show cBeg R D (st % np) z np s 24 4 = _
      rw [cR', gu_col (by omega), gu_col (by omega), gu_at, e4]
    · show cBeg R D (st % np) z np s 24 5 = _
      rw [cR', gu_col (by omega), gu_at]
      rfl
    · show cBeg R D (st % np) z np s 24 6 = _
      rw [cR', gu_at]
      rfl
    · rw [e7, o13]
      rfl
