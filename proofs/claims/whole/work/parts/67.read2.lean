section RD2
variable {A B W : gV} {k : Nat} {ll ww : Nat → Nat} {lw : Nat → Nat → Nat}
def mOne (ll ww : Nat → Nat) (lw : Nat → Nat → Nat) (m : Nat → Int32) (w : Nat) : Nat → Int32 := fl (upd (upd (upd m (16 + 11 * w) (nI (ll w))) (16 + 11 * w + 1) (nI (ww w))) (16 + 11 * w + 2) 0) (fun i => nI (lw w i)) (19 + 11 * w) (ll w)
def mWds (ll ww : Nat → Nat) (lw : Nat → Nat → Nat) (m : Nat → Int32) : Nat → (Nat → Int32)
  | 0 => m
  | n + 1 => mOne ll ww lw (mWds ll ww lw m n) n
theorem mOne_out {m : Nat → Int32} {w j : Nat} (h : ll w ≤ 8) (hj : j < 16 + 11 * w ∨ 27 + 11 * w ≤ j) : mOne ll ww lw m w j = m j := by
  unfold mOne
  rw [fl_out (by omega), upd_ne (by omega), upd_ne (by omega), upd_ne (by omega)]
theorem mWds_out {m : Nat → Int32} {j : Nat} : ∀ n, (∀ w, w < n → ll w ≤ 8) → j < 16 ∨ 16 + 11 * n ≤ j → mWds ll ww lw m n j = m j
  | 0, _, _ => rfl
  | n + 1, h, hj => by
    rw [mWds, mOne_out (h n (by omega)) (by omega), mWds_out n (fun w hw => h w (by omega)) (by omega)]
theorem mWds_in {m : Nat → Int32} {w : Nat} : ∀ n, (∀ w, w < n → ll w ≤ 8) → w < n → mWds ll ww lw m n (16 + 11 * w) = nI (ll w) ∧ mWds ll ww lw m n (16 + 11 * w + 1) = nI (ww w) ∧ mWds ll ww lw m n (16 + 11 * w + 2) = 0 ∧ ∀ i, i < ll w → mWds ll ww lw m n (16 + 11 * w + (3 + i)) = nI (lw w i)
  | n + 1, h, hw => by
    by_cases e : w = n
    · subst e
      have h8 := h w (by omega)
      rw [mWds]
      unfold mOne
      refine ⟨?_, ?_, ?_, fun i hi => ?_⟩
      · rw [fl_out (by omega), upd_ne (by omega), upd_ne (by omega), upd_at]
      · rw [fl_out (by omega), upd_ne (by omega), upd_at]
      · rw [fl_out (by omega), upd_at]
      · rw [fl_in (by omega) (by omega)]
        exact congrArg (fun z => nI (lw w z)) (by omega)
    · have h8 := h n (by omega)
      have h9 := h w (by omega)
      obtain ⟨a1, a2, a3, a4⟩ := mWds_in (m := m) (w := w) n (fun w hw => h w (by omega)) (by omega)
      rw [mWds]
      exact ⟨by rw [mOne_out h8 (by omega)]; exact a1, by rw [mOne_out h8 (by omega)]; exact a2, by rw [mOne_out h8 (by omega)]; exact a3, fun i hi => by rw [mOne_out h8 (by omega)]; exact a4 i hi⟩
theorem m_rd (hw : tW A B k ll ww lw) (hB : W 218 = B 218) (h9 : W 213 9 = nI k) (m : Nat → Int32) : PX9_read_31 (gs W 214 m) ∧ BX9_read_31 (gs W 214 m) = (nI k, gs W 214 (mWds ll ww lw m k)) := by
  have hk := hw.1
  unfold PX9_read_31 BX9_read_31
  have h99 : ∀ f, gs W 214 f 213 9 = nI k := fun f => by rw [gs_ne (by omega), h9]
  have go : PX9_read_33 1000 (nI 0) (gs W 214 (mWds ll ww lw m 0)) ∧ BX9_read_33 1000 (nI 0) (gs W 214 (mWds ll ww lw m 0)) = (nI k, gs W 214 (mWds ll ww lw m k)) := by
    refine pu_loop (fun f i => PX9_read_33 f (nI i) (gs W 214 (mWds ll ww lw m i)) ∧ BX9_read_33 f (nI i) (gs W 214 (mWds ll ww lw m i)) = (nI k, gs W 214 (mWds ll ww lw m k))) k (fun f => ?_) (fun f w hi ih => ?_) k 1000 0 (by omega) (by omega)
    · have e : nI k ≤ nI k := nI_le (Nat.le_refl _) (by omega)
      simp only [PX9_read_33, BX9_read_33, h99, if_pos e]
      exact ⟨fun q => absurd e q, trivial⟩
    · have e8 := nI_ge hi (show k < 2 ^ 31 by omega)
      obtain ⟨a1, a2, a3, a4, a5, a6⟩ := hw.2.2.2 w hi
      obtain ⟨g1, g2⟩ := m_rdw hw hB hi (upd (upd (upd (mWds ll ww lw m w) (16 + 11 * w) (nI (ll w))) (16 + 11 * w + 1) (nI (ww w))) (16 + 11 * w + 2) 0) (BX9_read_33 f) (PX9_read_33 f)
      have i0 : (10 : Int32) * nI w = nI (10 * w) := by rw [show (10 : Int32) = nI 10 from rfl, pu_mul]
      have i1 : (10 : Int32) * nI w + 1 = nI (10 * w + 1) := by rw [i0, show (1 : Int32) = nI 1 from rfl, nI_add]
      have j0 : (16 : Int32) + 11 * nI w + 0 = nI (16 + 11 * w) := by rw [show (16 : Int32) = nI 16 from rfl, show (11 : Int32) = nI 11 from rfl, pu_mul, nI_add, Int32.add_zero]
      have j1 : (16 : Int32) + 11 * nI w + 1 = nI (16 + 11 * w + 1) := by rw [show (16 : Int32) = nI 16 from rfl, show (11 : Int32) = nI 11 from rfl, pu_mul, nI_add, nI_1]
      have j2 : (16 : Int32) + 11 * nI w + 2 = nI (16 + 11 * w + 2) := by rw [show (16 : Int32) = nI 16 from rfl, show (11 : Int32) = nI 11 from rfl, pu_mul, nI_add, show (2 : Int32) = nI 2 from rfl, nI_add]
      have v0 : ∀ f, gs W 214 f 218 (nI (10 * w)).toNatClampNeg = nI (ll w) := fun f => by rw [gs_ne (by omega), hB, nI_clamp (by omega), a3]
      have v1 : ∀ f, gs W 214 f 218 (nI (10 * w + 1)).toNatClampNeg = nI (ww w) := fun f => by rw [gs_ne (by omega), hB, nI_clamp (by omega), a5]
      simp only [PX9_read_33, BX9_read_33, PX9_read_64, BX9_read_64, PX9_read_89, BX9_read_89, PX9_read_104, BX9_read_104, h99, if_neg e8, j0, j1, j2, i0, nI_1, v0, v1, gu_gs, nI_clamp (show 16 + 11 * w < 2 ^ 31 by omega), nI_clamp (show 16 + 11 * w + 1 < 2 ^ 31 by omega), nI_clamp (show 16 + 11 * w + 2 < 2 ^ 31 by omega)]
      rw [g2]
      exact ⟨fun _ => ⟨pu_in (by omega) (by omega), pu_in (by omega) (by omega), pu_in (by omega) (by omega), pu_in (by omega) (by omega), pu_in (by omega) (by omega), g1 ih.1⟩, ih.2⟩
  exact go
end RD2
