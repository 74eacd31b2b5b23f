section RD
variable {A B W : gV} {k : Nat} {ll ww : Nat → Nat} {lw : Nat → Nat → Nat}
/-- the reference copies one word -/
theorem m_rdw (hw : tW A B k ll ww lw) (hB : W 218 = B 218) {w : Nat} (h : w < k) (m : Nat → Int32) (K : Int32 → gV → Int32 × gV) (KP : Int32 → gV → Prop) : (KP (nI (w + 1)) (gs W 214 (fl m (fun i => nI (lw w i)) (19 + 11 * w) (ll w))) → PX9_read_106 KP 1000 (nI w) 0 (gs W 214 m)) ∧ BX9_read_106 K 1000 (nI w) 0 (gs W 214 m) = K (nI (w + 1)) (gs W 214 (fl m (fun i => nI (lw w i)) (19 + 11 * w) (ll w))) := by
  obtain ⟨a1, a2, a3, a4, a5, a6⟩ := hw.2.2.2 w h
  have hk := hw.1
  have i0 : (10 : Int32) * nI w = nI (10 * w) := by rw [show (10 : Int32) = nI 10 from rfl, pu_mul]
  have i1 : ∀ i, (10 : Int32) * nI w + 2 + nI i = nI (10 * w + 2 + i) := fun i => by rw [i0, show (2 : Int32) = nI 2 from rfl, nI_add, nI_add]
  have i2 : ∀ i, (16 : Int32) + 11 * nI w + 3 + nI i = nI (19 + 11 * w + i) := fun i => by
    rw [show (16 : Int32) = nI 16 from rfl, show (11 : Int32) = nI 11 from rfl, show (3 : Int32) = nI 3 from rfl, pu_mul, nI_add, nI_add, nI_add]
    exact congrArg nI (by omega)
  have p0 : vp_in ((10 : Int32) * nI w) 160 := by rw [i0]; exact pu_in (by omega) (by omega)
  have l0 : ∀ f, gs W 214 f 218 ((10 : Int32) * nI w).toNatClampNeg = nI (ll w) := fun f => by rw [gs_ne (by omega), hB, i0, nI_clamp (by omega), a3]
  have go : (KP (nI (w + 1)) (gs W 214 (fl m (fun i => nI (lw w i)) (19 + 11 * w) (ll w))) → PX9_read_106 KP 1000 (nI w) (nI 0) (gs W 214 (fl m (fun i => nI (lw w i)) (19 + 11 * w) 0))) ∧ BX9_read_106 K 1000 (nI w) (nI 0) (gs W 214 (fl m (fun i => nI (lw w i)) (19 + 11 * w) 0)) = K (nI (w + 1)) (gs W 214 (fl m (fun i => nI (lw w i)) (19 + 11 * w) (ll w))) := by
    refine pu_loop (fun f i => (KP (nI (w + 1)) (gs W 214 (fl m (fun i => nI (lw w i)) (19 + 11 * w) (ll w))) → PX9_read_106 KP f (nI w) (nI i) (gs W 214 (fl m (fun i => nI (lw w i)) (19 + 11 * w) i))) ∧ BX9_read_106 K f (nI w) (nI i) (gs W 214 (fl m (fun i => nI (lw w i)) (19 + 11 * w) i)) = K (nI (w + 1)) (gs W 214 (fl m (fun i => nI (lw w i)) (19 + 11 * w) (ll w)))) (ll w) (fun f => ?_) (fun f i hi ih => ?_) (ll w) 1000 0 (by omega) (by omega)
    · have e : nI (ll w) ≤ nI (ll w) := nI_le (Nat.le_refl _) (by omega)
      simp only [PX9_read_106, BX9_read_106, l0, if_pos e, nI_1]
      exact ⟨fun q => ⟨p0, fun _ => q, fun q2 => absurd e q2⟩, trivial⟩
    · have e8 := nI_ge hi (show ll w < 2 ^ 31 by omega)
      have v1 : gs W 214 (fl m (fun i => nI (lw w i)) (19 + 11 * w) i) 218 ((10 : Int32) * nI w + 2 + nI i).toNatClampNeg = nI (lw w i) := by rw [gs_ne (by omega), hB, i1, nI_clamp (by omega), (a6 i hi).2.2]
      have v2 : gu (gs W 214 (fl m (fun i => nI (lw w i)) (19 + 11 * w) i)) 214 ((16 : Int32) + 11 * nI w + 3 + nI i).toNatClampNeg (nI (lw w i)) = gs W 214 (fl m (fun i => nI (lw w i)) (19 + 11 * w) (i + 1)) := by
        rw [gu_gs, i2, nI_clamp (by omega)]
        exact congrArg (gs W 214) (fl_s m (fun i => nI (lw w i)) (19 + 11 * w) i)
      have p1 : vp_in ((10 : Int32) * nI w + 2 + nI i) 160 := by rw [i1]; exact pu_in (by omega) (by omega)
      have p2 : vp_in ((16 : Int32) + 11 * nI w + 3 + nI i) 246 := by rw [i2]; exact pu_in (by omega) (by omega)
      simp only [PX9_read_106, BX9_read_106, PX9_read_148, BX9_read_148, l0, if_neg e8, v1, v2, nI_1]
      exact ⟨fun q => ⟨p0, fun q2 => absurd q2 e8, fun _ => ⟨p1, p2, ih.1 q⟩⟩, ih.2⟩
  rw [fl_0] at go
  exact go
end RD
