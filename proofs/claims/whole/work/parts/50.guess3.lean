def kTk (x n : Int32) : Int32 := if x < n then x else n
def kSh (fl tk : Int32) : Int32 := if fl = 0 then 0 else tk / 2
def kRow (f : Nat → Int32) (t q : Nat) (a b : Int32) : Nat → Int32 := upd (upd f t (f t + a)) q (upd f t (f t + a) q + b)
theorem kRow_self {f : Nat → Int32} {t : Nat} {a : Int32} : kRow f t t a 0 = upd f t (f t + a) := by
  funext x
  unfold kRow upd
  by_cases h : x = t
  · simp [h]
  · simp [h]
theorem c_pay {V : gV} {t q : Nat} {n fl : Int32} (ht : t < 5) (hq : q < 5) (h : (fl = 0 ∧ q = t) ∨ (¬ fl = 0 ∧ V 23 t = nI q)) :
    MX5_payForPlaces (nI t) n fl V = gs (gu V 24 4 (V 24 4 - kTk (V 24 4) n)) 13 (kRow (V 13) t q (kTk (V 24 4) n - kSh fl (kTk (V 24 4) n)) (kSh fl (kTk (V 24 4) n))) := by
  unfold MX5_payForPlaces BX5_payForPlaces_8 BX5_payForPlaces_22 BX5_payForPlaces_40 MX3_takeFromPot kSh
  show (if fl = 0 then _ else _) = _
  rw [show (if V 24 4 < n then V 24 4 else n) = kTk (V 24 4) n from rfl]
  generalize kTk (V 24 4) n = tk
  rcases h with ⟨h, rfl⟩ | ⟨h, h2⟩
  · rw [if_pos h, if_pos h, add_zero, pu_add (k := 12) (n := 5) kd13 ht, kRow_self]
    show gu (gu V 24 4 (V 24 4 - tk)) 13 q (gu V 24 4 (V 24 4 - tk) 13 q + (tk - 0)) = _
    rw [gu_row (show 13 ≠ 24 by omega), gu_of (gu_row (show 13 ≠ 24 by omega))]
  · rw [if_neg h, if_neg h]
    have e : MX4_at 22 (nI t) (MX4_add 12 (nI t) (tk - tk / 2) (gu V 24 4 (V 24 4 - tk))) = nI q := by
      rw [pu_add (k := 12) (n := 5) kd13 ht, pu_at (k := 22) (n := 5) kd23 ht, gu_row (by omega), gu_row (by omega), h2]
    rw [e, pu_add (k := 12) (n := 5) kd13 ht, pu_add (k := 12) (n := 5) kd13 hq]
    show gu (gu (gu V 24 4 (V 24 4 - tk)) 13 t (gu V 24 4 (V 24 4 - tk) 13 t + (tk - tk / 2))) 13 q (gu (gu V 24 4 (V 24 4 - tk)) 13 t (gu V 24 4 (V 24 4 - tk) 13 t + (tk - tk / 2)) 13 q + tk / 2) = _
    rw [gu_row (show 13 ≠ 24 by omega), gu_of (gu_row (show 13 ≠ 24 by omega)), gs_at, gu_gs]
    rfl
theorem m_take {x n : Int32} {V : gV} (K : Int32 → gV) : (if x ≤ n then K x else K n) = K (kTk x n) := by
  unfold kTk
  by_cases h : x < n
  · rw [if_pos h, if_pos (Int32.le_of_lt h)]
  · rw [if_neg h]
    by_cases h2 : x ≤ n
    · rw [if_pos h2]
      have : x = n := Int32.le_antisymm h2 (Int32.not_lt.mp h)
      rw [this]
    · rw [if_neg h2]
/-- the reference's row behind a hit -/
def kHit (m : Nat → Int32) (t q : Nat) (n fl : Int32) (op : Int32) : Nat → Int32 :=
  upd (upd (upd (upd (upd m 4 (m 4 - kTk (m 4) n)) (192 + 6 * t) (m (192 + 6 * t) + (kTk (m 4) n - kSh fl (kTk (m 4) n)))) (192 + 6 * q) (upd (upd m 4 (m 4 - kTk (m 4) n)) (192 + 6 * t) (m (192 + 6 * t) + (kTk (m 4) n - kSh fl (kTk (m 4) n))) (192 + 6 * q) + kSh fl (kTk (m 4) n))) (192 + 6 * t + 2) (m (192 + 6 * t + 2) + 1)) 7 op
theorem m_hits {W : gV} {m : Nat → Int32} {t q pl op : Nat} {n fl : Int32} (ht : t < 5) (hq : q < 5) (h1 : MX9_ones (nI pl) (gs W 214 m) = n) (hP : PX9_ones (nI pl) (gs W 214 m)) (h3 : m 3 = nI t) (h7 : m 7 = nI op) :
    MX9_hits (nI pl) fl (nI q) (gs W 214 m) = BX9_hits_121 (nI t) (gs W 214 (kHit m t q n fl (nI (op ||| pl)))) ∧ (PX9_hits_121 (nI t) (gs W 214 (kHit m t q n fl (nI (op ||| pl)))) → PX9_hits (nI pl) fl (nI q) (gs W 214 m)) := by
  have zt : ∀ V1 : gV, MX9_at (nI t) 0 V1 = nI (192 + 6 * t) := fun V1 => at_nat (w := 0) (by omega) (by omega)
  have zq : ∀ V1 : gV, MX9_at (nI q) 0 V1 = nI (192 + 6 * q) := fun V1 => at_nat (w := 0) (by omega) (by omega)
  have z2 : ∀ V1 : gV, MX9_at (nI t) 2 V1 = nI (192 + 6 * t + 2) := fun V1 => at_nat (w := 2) (by omega) (by omega)
  have i0 := pu_in (show 192 + 6 * t < 246 by omega) (show 246 < 2 ^ 31 by omega)
  have i1 := pu_in (show 192 + 6 * q < 246 by omega) (show 246 < 2 ^ 31 by omega)
  have i2 := pu_in (show 192 + 6 * t + 2 < 246 by omega) (show 246 < 2 ^ 31 by omega)
  -- behind the share
  have s61 : ∀ x5 x6 : Int32, BX9_hits_61 (nI pl) (nI q) (nI t) x5 x6 (gs W 214 (upd m 4 (m 4 - x5))) = BX9_hits_121 (nI t) (gs W 214 (upd (upd (upd (upd (upd m 4 (m 4 - x5)) (192 + 6 * t) (m (192 + 6 * t) + (x5 - x6))) (192 + 6 * q) (upd (upd m 4 (m 4 - x5)) (192 + 6 * t) (m (192 + 6 * t) + (x5 - x6)) (192 + 6 * q) + x6)) (192 + 6 * t + 2) (m (192 + 6 * t + 2) + 1)) 7 (nI (op ||| pl)))) ∧ (PX9_hits_121 (nI t) (gs W 214 (upd (upd (upd (upd (upd m 4 (m 4 - x5)) (192 + 6 * t) (m (192 + 6 * t) + (x5 - x6))) (192 + 6 * q) (upd (upd m 4 (m 4 - x5)) (192 + 6 * t) (m (192 + 6 * t) + (x5 - x6)) (192 + 6 * q) + x6)) (192 + 6 * t + 2) (m (192 + 6 * t + 2) + 1)) 7 (nI (op ||| pl)))) → PX9_hits_61 (nI pl) (nI q) (nI t) x5 x6 (gs W 214 (upd m 4 (m 4 - x5)))) := by
    intro x5 x6
    unfold BX9_hits_61 BX9_hits_80 BX9_hits_95 BX9_hits_110 PX9_hits_61 PX9_hits_80 PX9_hits_95 PX9_hits_110
    simp only [pc7, zt, zq, z2, nI_clamp (show 192 + 6 * t < 2 ^ 31 by omega), nI_clamp (show 192 + 6 * q < 2 ^ 31 by omega), nI_clamp (show 192 + 6 * t + 2 < 2 ^ 31 by omega), gs_at, gu_gs, upd_ne (show 192 + 6 * t + 2 ≠ 192 + 6 * t by omega), upd_ne (show 192 + 6 * t + 2 ≠ 192 + 6 * q by omega), upd_ne (show 192 + 6 * t + 2 ≠ 4 by omega), upd_ne (show 192 + 6 * t ≠ 4 by omega), upd_ne (show 7 ≠ 192 + 6 * t by omega), upd_ne (show 7 ≠ 192 + 6 * q by omega), upd_ne (show 7 ≠ 192 + 6 * t + 2 by omega), upd_ne (show 7 ≠ 4 by omega), h7, pu_or]
    exact ⟨True.intro, fun p => ⟨i0, i0, i1, i1, i2, i2, p⟩⟩
  have s34 : ∀ s0 : Int32, BX9_hits_34 (nI pl) fl (nI q) (nI t) s0 (gs W 214 m) = BX9_hits_61 (nI pl) (nI q) (nI t) s0 (kSh fl s0) (gs W 214 (upd m 4 (m 4 - s0))) ∧ (PX9_hits_61 (nI pl) (nI q) (nI t) s0 (kSh fl s0) (gs W 214 (upd m 4 (m 4 - s0))) → PX9_hits_34 (nI pl) fl (nI q) (nI t) s0 (gs W 214 m)) := by
    intro s0
    unfold BX9_hits_34 PX9_hits_34 BX9_hits_48 PX9_hits_48 kSh
    simp only [pc4, gs_at, gu_gs]
    by_cases h : fl = 0
    · simp only [if_pos h]
      exact ⟨True.intro, fun p => ⟨fun _ => p, fun q => absurd h q⟩⟩
    · simp only [if_neg h]
      exact ⟨True.intro, fun p => ⟨fun q => absurd q h, fun _ => p⟩⟩
  unfold MX9_hits PX9_hits
  rw [h1, pc3, pc4, gs_at, h3]
  have e := m_take (x := m 4) (n := n) (V := W) (fun s0 => BX9_hits_34 (nI pl) fl (nI q) (nI t) s0 (gs W 214 m))
  refine ⟨e.trans ((s34 _).1.trans (s61 _ _).1), fun p => ⟨hP, ?_, ?_⟩⟩
  · intro hle
    have : kTk (m 4) n = m 4 := by
      unfold kTk
      split
      · rfl
      · next h => exact Int32.le_antisymm (Int32.not_lt.mp h) hle
    have p2 := (s34 _).2 ((s61 _ _).2 p)
    rw [this] at p2
    exact p2
  · intro hle
    have : kTk (m 4) n = n := by
      unfold kTk
      rw [if_neg (fun h => hle (Int32.le_of_lt h))]
    have p2 := (s34 _).2 ((s61 _ _).2 p)
    rw [this] at p2
    exact ⟨hP, p2⟩
