theorem gu_self {V : gV} {k j : Nat} : gu V k j (V k j + 0) = V := by
  funext x y
  rw [gu_eq]
  split
  · next h => rw [h.1, h.2, Int32.add_zero]
  · rfl
theorem upd_self {f : Nat → Int32} {t : Nat} : upd f t (f t + 0) = f := by
  funext x
  unfold upd
  split
  · next h => rw [h, Int32.add_zero]
  · rfl
theorem add_zero {k : Nat} {i : Int32} {V : gV} : MX4_add k i 0 V = V := by
  unfold MX4_add MX4_put MX4_at
  split
  · rfl
  · split
    · rfl
    · exact gu_self
theorem hit_bn {V V5 : gV} {m m5 : Nat → Int32} {np t q : Nat} {a b u : Int32} (g2 : rBn (fun c => V (1 + c)) m np) (ht : t < np) (e11 : V5 11 0 = V 11 0)
    (e13 : V5 13 = upd (upd (V 13) t (V 13 t + a)) q (upd (V 13) t (V 13 t + a) q + b)) (hq : q < np) (e15 : V5 15 = V 15) (e17 : V5 17 = upd (V 17) t (V 17 t + u)) (e19 : V5 19 = V 19) (e21 : V5 21 = upd (V 21) t 26) (e23 : V5 23 = V 23) (f1 : m5 1 = m 1)
    (f10 : ∀ p, m5 (192 + 6 * p) = upd (upd (fun p => m (192 + 6 * p)) t (m (192 + 6 * t) + a)) q (upd (fun p => m (192 + 6 * p)) t (m (192 + 6 * t) + a) q + b) p) (f11 : ∀ p, m5 (192 + 6 * p + 1) = m (192 + 6 * p + 1)) (f12 : ∀ p, m5 (192 + 6 * p + 2) = upd (fun p => m (192 + 6 * p + 2)) t (m (192 + 6 * t + 2) + u) p) (f13 : ∀ p, m5 (192 + 6 * p + 3) = m (192 + 6 * p + 3)) (f14 : ∀ p, m5 (192 + 6 * p + 4) = upd (fun p => m (192 + 6 * p + 4)) t 26 p) (f15 : ∀ p, m5 (192 + 6 * p + 5) = m (192 + 6 * p + 5)) : rBn (fun c => V5 (1 + c)) m5 np := by
  obtain ⟨p1, p2, p3, p4, p5⟩ := g2
  refine ⟨p1, e11.trans p2, f1.trans p3, fun p hp => ?_, fun p hp1 hp2 => ?_⟩
  · obtain ⟨u1, u2, u3, u4, u5, u6⟩ := p4 p hp
    have u1 : V 13 p = m (192 + 6 * p) := u1
    have t1 : V 13 t = m (192 + 6 * t) := (p4 t ht).1
    have q1 : V 13 q = m (192 + 6 * q) := (p4 q hq).1
    have u2 : V 15 p = m (192 + 6 * p + 1) := u2
    have u3 : V 17 p = m (192 + 6 * p + 2) := u3
    have t3 : V 17 t = m (192 + 6 * t + 2) := (p4 t ht).2.2.1
    have u4 : V 19 p = m (192 + 6 * p + 3) := u4
    have u5 : V 21 p = m (192 + 6 * p + 4) := u5
    refine ⟨?_, ?_, ?_, ?_, ?_, ?_⟩
    · show V5 13 p = _
      rw [e13, f10 p]
      unfold upd
      repeat' split
      all_goals simp only [u1, t1, q1]
    · show V5 15 p = _
      rw [e15, f11 p, u2]
    · show V5 17 p = _
      rw [e17, f12 p]
      unfold upd
      split <;> simp only [u3, t3]
    · show V5 19 p = _
      rw [e19, f13 p, u4]
    · show V5 21 p = _
      rw [e21, f14 p]
      unfold upd
      split <;> simp only [u5]
    · rw [f14 p, f15 p]
      by_cases e : p = t
      · subst e
        exact Or.inl upd_at
      · rw [upd_ne e]
        rcases u6 with u6 | ⟨u6, u7⟩
        · exact Or.inl u6
        · refine Or.inr ⟨?_, u7⟩
          show V5 23 p = _
          rw [e23]
          exact u6
  · obtain ⟨u1, u2, u3⟩ := p5 p hp1 hp2
    rw [f11 p, f12 p, f13 p, upd_ne (show p ≠ t by omega)]
    exact ⟨u1, u2, u3⟩
