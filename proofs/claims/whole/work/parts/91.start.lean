/-! THE START: the world that the constructors make -/
def hvA : gV := fun k => if k < 213 then hvG k else hvM (k - 213)
theorem inv0 : gInv hvA := by
  have z : ∀ j : Nat, ¬ j < 0 := Nat.not_lt_zero
  refine ⟨⟨0, 0, 0, 1, 7, 0, fun _ => 0, fun _ => 0, fun _ _ => 0, ⟨by omega, by decide +kernel, by decide +kernel, fun w hw => absurd hw (z w)⟩, ⟨by omega, by decide +kernel, by decide +kernel, fun w hw => absurd hw (z w), fun p _ hp => ?_⟩, ⟨by omega, by decide +kernel, by decide +kernel, fun w hw => absurd hw (z w)⟩, ⟨by decide +kernel, by decide +kernel, ⟨by omega, by decide +kernel, by decide +kernel⟩, ⟨by omega, by omega, by decide +kernel, by decide +kernel⟩, by omega, by decide +kernel, by decide +kernel⟩, Or.inl ⟨by decide +kernel, by decide +kernel, fun w hw => absurd hw (z w)⟩⟩, Or.inl ⟨by decide +kernel, by decide +kernel⟩, ⟨0, 0, by omega, by omega, by decide +kernel, by decide +kernel, by decide +kernel, fun w hw => absurd hw (z w)⟩, 0, by omega, by decide +kernel, by decide +kernel, fun w hw => absurd hw (z w), fun j _ => rfl⟩
  rcases (show p = 0 ∨ p = 1 ∨ p = 2 ∨ p = 3 ∨ p = 4 by omega) with rfl | rfl | rfl | rfl | rfl <;> decide +kernel
def kdHall : List Nat := (8 :: (((gh_st ++ gh_st) ++ (1 :: 10 :: (((gh_st ++ gh_st) ++ gh_st) ++ gh_st))) ++ [6, 7, 4, 27, 4, 27, 4, 27, 4, 139, 4, 131]))
theorem kd_all : kdHall ++ [9, 257, 995, 257, 131, 171] = gh_kdL := by decide +kernel
theorem kd_len : gh_kdL.length = 219 := by decide +kernel
theorem at_eqE {D : va_G} {cl : List vw_C} {q : Nat} {e e2 : va_E} {H : Heap} (h : va_at D cl (q, e) H) (he : eqE e e2) : va_at D cl (q, e2) H := by
  rcases he with rfl | ⟨c, f, f2, rfl, rfl, h4⟩
  · exact h
  · have h : H[q]? = some (vp_cell c (4, .inr (.inr (.inr (.inr f))))) := h
    show H[q]? = some (vp_cell c (4, .inr (.inr (.inr (.inr f2)))))
    rw [h]
    have hf : (fun j : Fin 4 => va_rf (f j.val)) = (fun j : Fin 4 => va_rf (f2 j.val)) := funext fun j => by rw [h4 j.val j.isLt]
    rw [vp_cell_q, vp_cell_q]
    show some ({ cls := c, slots := Array.ofFn (n := 4) (fun j : Fin 4 => va_rf (f j.val)), vm := .none } : Cell) = some ({ cls := c, slots := Array.ofFn (n := 4) (fun j : Fin 4 => va_rf (f2 j.val)), vm := .none } : Cell)
    rw [hf]
theorem wl.world {D : va_G} {cI cS : ClassId} {L : va_W} {v : gV} {H : Heap} {A : Nat → Prop} (h : wl D cI cS L gh_kdL v) (hP : va_P D vwCl L H) (hD : va_D A L) : va_P (gD (gMk D cI cS (adL L))) vwCl (gL (gMk D cI cS (adL L)) v) H ∧ gJ (gMk D cI cS (adL L)) ∧ ∀ q, gF (gMk D cI cS (adL L)) q → A q := by
  refine ⟨fun k q hk => ?_, fun i j hi hj hij => ?_, fun q hq => ?_⟩
  · obtain ⟨h1, rfl⟩ := gL_lt hk
    obtain ⟨e, q1, q2⟩ := h.2 k (by rw [kd_len]; exact h1)
    exact at_eqE (hP k _ q1) q2
  · obtain ⟨e, q1, -⟩ := h.2 i (by rw [kd_len]; exact hi)
    obtain ⟨e2, q2, -⟩ := h.2 j (by rw [kd_len]; exact hj)
    exact hD.1 i j (adL L i, e) (adL L j, e2) q1 q2 hij
  · obtain ⟨k, hk, rfl⟩ := hq
    obtain ⟨e, q1, -⟩ := h.2 k (by rw [kd_len]; exact hk)
    exact hD.2 k (adL L k, e) q1
theorem at_0 {D : va_G} {cI cS : ClassId} {L8 L9 : va_W} (h8 : wl D cI cS L8 kdHall hvG) (h9 : wl D cI cS L9 [9, 257, 995, 257, 131, 171] hvM) : wl D cI cS (L8 ++ L9) gh_kdL hvA := by
  have hl : kdHall.length = 213 := by decide +kernel
  have w := h8.app h9 (by decide +kernel) (v := hvA) (fun k hk => if_pos (by rw [hl] at hk; exact hk)) (fun k _ => by
    rw [hl]
    unfold hvA
    rw [if_neg (by omega), Nat.add_sub_cancel_left])
  rw [kd_all] at w
  exact w
