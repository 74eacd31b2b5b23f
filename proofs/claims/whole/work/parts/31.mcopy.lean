/-! the reference's copies -/
def fl (f g : Nat → Int32) (a i : Nat) : Nat → Int32 := fun j => if a ≤ j ∧ j < a + i then g (j - a) else f j
theorem fl_0 (f g : Nat → Int32) (a : Nat) : fl f g a 0 = f := by
  funext j
  unfold fl
  rw [if_neg (by omega)]
theorem fl_s (f g : Nat → Int32) (a i : Nat) : upd (fl f g a i) (a + i) (g i) = fl f g a (i + 1) := by
  funext j
  unfold upd fl
  by_cases h : j = a + i
  · subst h
    rw [if_pos rfl, if_pos (by omega), Nat.add_sub_cancel_left]
  · rw [if_neg h]
    by_cases h2 : a ≤ j ∧ j < a + i
    · rw [if_pos h2, if_pos (by omega)]
    · rw [if_neg h2, if_neg (by omega)]
theorem fl_in {f g : Nat → Int32} {a i j : Nat} (h1 : a ≤ j) (h2 : j < a + i) : fl f g a i j = g (j - a) := if_pos ⟨h1, h2⟩
theorem fl_out {f g : Nat → Int32} {a i j : Nat} (h : j < a ∨ a + i ≤ j) : fl f g a i j = f j := if_neg (by omega)
theorem gs_self {V : gV} {k : Nat} {f : Nat → Int32} (h : V k = f) : gs V k f = V := by
  funext q
  unfold gs
  split
  · rename_i e; rw [e, h]
  · rfl
theorem gs_gs {V : gV} {k : Nat} {f g : Nat → Int32} : gs (gs V k f) k g = gs V k g := by
  funext q
  unfold gs
  split <;> rfl
theorem gu_gs {V : gV} {k j : Nat} {f : Nat → Int32} {x : Int32} : gu (gs V k f) k j x = gs V k (upd f j x) := by
  unfold gu
  rw [gs_gs, gs_at]
theorem mw_copies {V : gV} {u z : Nat} (hu : gk u = 246 + 11) (hz : gk z = 246 + 11) (hne : u ≠ z) : PX9_copies u z V ∧ MX9_copies u z V = gs V z (fl (V z) (V u) 0 246) := by
  unfold PX9_copies MX9_copies
  have key := pu_loop (fun f i => PX9_copies_2 u z f (nI i) (gs V z (fl (V z) (V u) 0 i)) ∧ BX9_copies_2 u z f (nI i) (gs V z (fl (V z) (V u) 0 i)) = gs V z (fl (V z) (V u) 0 246)) 246 (fun f => ?_) (fun f i hi ih => ?_) 246 1000 0 (by omega) (by omega)
  · rw [fl_0, gs_self rfl] at key
    exact key
  · have e : (246 : Int32) ≤ nI 246 := nI_le (a := 246) (Nat.le_refl _) (by omega)
    simp only [PX9_copies_2, BX9_copies_2]
    simp [e]
  · have e : ¬ (246 : Int32) ≤ nI i := nI_ge (b := 246) hi (by omega)
    have p := pu_in hi (show 246 < 2 ^ 31 by omega)
    have st : upd (fl (V z) (V u) 0 i) i (V u i) = fl (V z) (V u) 0 (i + 1) := by
      have := fl_s (V z) (V u) 0 i
      rw [Nat.zero_add] at this
      exact this
    simp only [PX9_copies_2, BX9_copies_2, PX9_copies_15, BX9_copies_15, hu, hz, Nat.add_sub_cancel, nI_clamp (show i < 2 ^ 31 by omega), gu_gs, gs_ne hne, st, nI_1]
    simp [e, p, ih]
/-- the reference's past, with a row more (of four the oldest goes) -/
def pastPush (hn : Nat) (f g : Nat → Int32) : Nat → Int32 := if hn = 4 then fl (fl f (fun j => f (j + 246)) 0 738) g 738 246 else fl f g (246 * hn) 246
theorem mw_push {V : gV} {p : Nat} (hp : p < 4) (h4 : V 213 4 = nI p) : PX9_changes_51 1000 0 V ∧ BX9_changes_51 1000 0 V = gu (gs V 215 (fl (V 215) (V 214) (246 * p) 246)) 213 4 (nI (p + 1)) := by
  have key := pu_loop (fun f i => PX9_changes_51 f (nI i) (gs V 215 (fl (V 215) (V 214) (246 * p) i)) ∧ BX9_changes_51 f (nI i) (gs V 215 (fl (V 215) (V 214) (246 * p) i)) = gu (gs V 215 (fl (V 215) (V 214) (246 * p) 246)) 213 4 (nI (p + 1))) 246 (fun f => ?_) (fun f i hi ih => ?_) 246 1000 0 (by omega) (by omega)
  · rw [fl_0, gs_self rfl] at key
    exact key
  · have e : (246 : Int32) ≤ nI 246 := nI_le (a := 246) (Nat.le_refl _) (by omega)
    have e4 : gs V 215 (fl (V 215) (V 214) (246 * p) 246) 213 4 = nI p := by rw [gs_ne (by omega), h4]
    simp only [PX9_changes_51, BX9_changes_51, e4, nI_1]
    simp [e]
  · have e : ¬ (246 : Int32) ≤ nI i := nI_ge (b := 246) hi (by omega)
    have p1 := pu_in hi (show 246 < 2 ^ 31 by omega)
    have p2 := pu_in (show 246 * p + i < 984 by omega) (show 984 < 2 ^ 31 by omega)
    simp only [PX9_changes_51, BX9_changes_51, PX9_changes_79, BX9_changes_79, gs_ne (show 213 ≠ 215 by omega), gs_ne (show 214 ≠ 215 by omega), h4, show (246 : Int32) * nI p = nI (246 * p) from pu_mul 246 p, nI_add, nI_clamp (show i < 2 ^ 31 by omega), nI_clamp (show 246 * p + i < 2 ^ 31 by omega), gu_gs, fl_s, nI_1]
    simp [e, p1, p2, ih]
theorem mw_shiftp {V : gV} (h4 : V 213 4 = nI 4) : (PX9_changes_10 1000 0 V ↔ PX9_changes_51 1000 0 (gu (gs V 215 (fl (V 215) (fun j => V 215 (j + 246)) 0 738)) 213 4 (nI 3))) ∧ BX9_changes_10 1000 0 V = BX9_changes_51 1000 0 (gu (gs V 215 (fl (V 215) (fun j => V 215 (j + 246)) 0 738)) 213 4 (nI 3)) := by
  have key := pu_loop (fun f i => (PX9_changes_10 f (nI i) (gs V 215 (fl (V 215) (fun j => V 215 (j + 246)) 0 i)) ↔ PX9_changes_51 1000 0 (gu (gs V 215 (fl (V 215) (fun j => V 215 (j + 246)) 0 738)) 213 4 (nI 3))) ∧ BX9_changes_10 f (nI i) (gs V 215 (fl (V 215) (fun j => V 215 (j + 246)) 0 i)) = BX9_changes_51 1000 0 (gu (gs V 215 (fl (V 215) (fun j => V 215 (j + 246)) 0 738)) 213 4 (nI 3))) 738 (fun f => ?_) (fun f i hi ih => ?_) 738 1000 0 (by omega) (by omega)
  · rw [fl_0, gs_self rfl] at key
    exact key
  · have e : (738 : Int32) ≤ nI 738 := nI_le (a := 738) (Nat.le_refl _) (by omega)
    have e4 : gs V 215 (fl (V 215) (fun j => V 215 (j + 246)) 0 738) 213 4 - 1 = nI 3 := by rw [gs_ne (by omega), h4]; rfl
    simp only [PX9_changes_10, BX9_changes_10, PX9_changes_49, BX9_changes_49, e4]
    simp [e]
  · have e : ¬ (738 : Int32) ≤ nI i := nI_ge (b := 738) hi (by omega)
    have p1 := pu_in (show i < 984 by omega) (show 984 < 2 ^ 31 by omega)
    have p2 := pu_in (show i + 246 < 984 by omega) (show 984 < 2 ^ 31 by omega)
    have rd : fl (V 215) (fun j => V 215 (j + 246)) 0 i (i + 246) = V 215 (i + 246) := fl_out (Or.inr (by omega))
    have st : upd (fl (V 215) (fun j => V 215 (j + 246)) 0 i) i (V 215 (i + 246)) = fl (V 215) (fun j => V 215 (j + 246)) 0 (i + 1) := by
      have := fl_s (V 215) (fun j => V 215 (j + 246)) 0 i
      rw [Nat.zero_add] at this
      exact this
    simp only [PX9_changes_10, BX9_changes_10, PX9_changes_33, BX9_changes_33, show nI i + (246 : Int32) = nI (i + 246) from nI_add i 246, nI_clamp (show i < 2 ^ 31 by omega), nI_clamp (show i + 246 < 2 ^ 31 by omega), gs_at, rd, gu_gs, st, nI_1]
    simp [e, p1, p2, ih]
theorem mw_changes {V : gV} {hn : Nat} (hh : hn ≤ 4) (h4 : V 213 4 = nI hn) : PX9_changes V ∧ (∀ x, x ≠ 213 → x ≠ 215 → MX9_changes V x = V x) ∧ (∀ j, j ≠ 4 → MX9_changes V 213 j = V 213 j) ∧ MX9_changes V 213 4 = nI (if hn = 4 then 4 else hn + 1) ∧ MX9_changes V 215 = pastPush hn (V 215) (V 214) := by
  unfold PX9_changes MX9_changes PX9_changes_49 BX9_changes_49 pastPush
  by_cases h : hn = 4
  · subst h
    have e : V 213 4 = 4 := h4
    obtain ⟨k1, k2⟩ := mw_shiftp h4
    obtain ⟨k3, k4⟩ := mw_push (V := gu (gs V 215 (fl (V 215) (fun j => V 215 (j + 246)) 0 738)) 213 4 (nI 3)) (p := 3) (by omega) gu_at
    rw [if_pos e, if_pos rfl, if_pos rfl, k2, k4]
    refine ⟨⟨fun _ => k1.mpr k3, fun q => absurd e q⟩, fun x h1 h2 => ?_, fun j hj => ?_, gu_at, ?_⟩
    · rw [gu_row h1, gs_ne h2, gu_row h1, gs_ne h2]
    · rw [gu_col hj, gs_ne (by omega), gu_col hj, gs_ne (by omega)]
    · rw [gu_row (by omega), gs_at, gu_row (by omega), gs_at, gu_row (by omega), gs_ne (by omega)]
  · have e : ¬ V 213 4 = 4 := by
      rw [h4]
      exact fun q => h ((nI_eq (b := 4) (by omega) (by omega)).mp q)
    obtain ⟨k3, k4⟩ := mw_push (V := V) (p := hn) (by omega) h4
    rw [if_neg e, if_neg h, if_neg h, k4]
    refine ⟨⟨fun q => absurd q e, fun _ => k3⟩, fun x h1 h2 => ?_, fun j hj => ?_, gu_at, ?_⟩
    · rw [gu_row h1, gs_ne h2]
    · rw [gu_col hj, gs_ne (by omega)]
    · rw [gu_row (by omega), gs_at]
theorem mw_undo {V : gV} {p : Nat} (hp : p < 4) (h4 : V 213 4 = nI p) : PX9_undo_20 V ∧ BX9_undo_20 V = (nI p, gs V 214 (fl (V 214) (fun j => V 215 (246 * p + j)) 0 246)) := by
  unfold PX9_undo_20 BX9_undo_20
  have key := pu_loop (fun f i => PX9_undo_22 f (nI i) (gs V 214 (fl (V 214) (fun j => V 215 (246 * p + j)) 0 i)) ∧ BX9_undo_22 f (nI i) (gs V 214 (fl (V 214) (fun j => V 215 (246 * p + j)) 0 i)) = (nI p, gs V 214 (fl (V 214) (fun j => V 215 (246 * p + j)) 0 246))) 246 (fun f => ?_) (fun f i hi ih => ?_) 246 1000 0 (by omega) (by omega)
  · rw [fl_0, gs_self rfl] at key
    exact key
  · have e : (246 : Int32) ≤ nI 246 := nI_le (a := 246) (Nat.le_refl _) (by omega)
    have e4 : gs V 214 (fl (V 214) (fun j => V 215 (246 * p + j)) 0 246) 213 4 = nI p := by rw [gs_ne (by omega), h4]
    simp only [PX9_undo_22, BX9_undo_22, e4]
    simp [e]
  · have e : ¬ (246 : Int32) ≤ nI i := nI_ge (b := 246) hi (by omega)
    have p1 := pu_in hi (show 246 < 2 ^ 31 by omega)
    have p2 := pu_in (show 246 * p + i < 984 by omega) (show 984 < 2 ^ 31 by omega)
    have st : upd (fl (V 214) (fun j => V 215 (246 * p + j)) 0 i) i (V 215 (246 * p + i)) = fl (V 214) (fun j => V 215 (246 * p + j)) 0 (i + 1) := by
      have := fl_s (V 214) (fun j => V 215 (246 * p + j)) 0 i
      rw [Nat.zero_add] at this
      exact this
    simp only [PX9_undo_22, BX9_undo_22, PX9_undo_50, BX9_undo_50, gs_ne (show 213 ≠ 214 by omega), gs_ne (show 215 ≠ 214 by omega), h4, show (246 : Int32) * nI p = nI (246 * p) from pu_mul 246 p, nI_add, nI_clamp (show i < 2 ^ 31 by omega), nI_clamp (show 246 * p + i < 2 ^ 31 by omega), gu_gs, st, nI_1]
    simp [e, p1, p2, ih]
