abbrev wc_X0_init : List Cond := Cond.code yX0_init cX0_init 1 none :: wsL_law
abbrev r_X0_init : Room := { frames := 2, cells := 12, slots := 36, locals := 41 }
set_option maxHeartbeats 8000000 in
set_option maxRecDepth 100000 in
theorem cc_X0_init (l : Launch) (D : va_G) (cI cS : ClassId) (h0 sz : Nat) : Met l yX0_init wc_X0_init r_X0_init (va_Pc [.ref h0] (hB D cI cS (h0, .inr (0, [.int 0, .null, .null, .null, .null, .null, .null])) sz)) (va_Qv (fun L : va_W => wl D cI cS L [0, 4, 16, 4, 16, 4, 16, 4, 16, 4, 16, 4, 16] hz ∧ adL L 0 = h0) (fun L t => va_P D vwCl L t.heap ∧ va_D (va_A [(h0, .inr (0, [.int 0, .null, .null, .null, .null, .null, .null]))] sz) L) (va_A [(h0, .inr (0, [.int 0, .null, .null, .null, .null, .null, .null]))] sz)) 12 36 (va_A [(h0, .inr (0, [.int 0, .null, .null, .null, .null, .null, .null]))] sz) := by
  refine Met.ofW (cc := cX0_init) (maxL := 1) (ret := none) (by decide) rfl ?_
  intro p e s m args below meth c s₁ B hml hv
  obtain ⟨rfl, hsz, hP, hKK⟩ := hv
  have hx := B.exec
  have hb := B.bytes
  have hr := B.returns
  have hw := gh_hw (atoms_spec (ws := wc_X0_init) B.pre)
  have hown : s.vm.findClass RX0 = some m.cls := findClass_of_methodNamed B.named
  have hlocks := B.notSynchronized
  have hin : meth.name = "<init>" := (name_of_methodNamed B.named B.method).1
  have hK := hKK.1
  subst hsz
  have hD : va_D (va_A [(h0, .inr (0, [.int 0, .null, .null, .null, .null, .null, .null]))] s.heap.size) [(h0, .inr (0, [.int 0, .null, .null, .null, .null, .null, .null]))] := hx_one (A := va_A [(h0, .inr (0, [.int 0, .null, .null, .null, .null, .null, .null]))] s.heap.size) (Or.inl ⟨0, _, rfl⟩)
  generalize hAe : va_A [(h0, .inr (0, [.int 0, .null, .null, .null, .null, .null, .null]))] s.heap.size = A at hD ⊢
  have hA : ∀ q : Nat, s.heap.size ≤ q → A q := fun q h => by rw [← hAe]; exact Or.inr h
  have hS : va_S A s.heap s.heap [] := va_S.rf
  have hl := lv_entry ([.ref h0]) (n := 1) (Nat.le_of_ble_eq_true rfl)
  rw [lg_entry_eq]
  generalize (lg_sl ([.ref h0]) ++ List.replicate (1 - (lg_sl ([.ref h0])).length) Slot.unset).toArray = ls at hl ⊢
  have hl : lv_has ls 1 [(0, .ref h0)] := hl
  refine lv_aload_n hx hb dX0_init_0 rfl (lv_at hl 0 rfl) ?_
  refine W.objInit hx hb hown (hw _ uw72) (hw _ uw10) (hw _ uw11) rfl (by rw [hml]; exact hl.1) rfl dX0_init_1 (Nat.le_of_ble_eq_true rfl) (Nat.le_of_ble_eq_true rfl) ?_
  refine W.eq (g2 := F0 m 4 ls []) rfl ?_
  refine lv_aload_n hx hb dX0_init_4 rfl (lv_at hl 0 rfl) ?_
  refine va_new (ci := 4) (fs := [.null]) (C := RX4) (T := TX4) (N := 1) hx hb hw inlX4 tyX4 tyX4_ok hown (hw _ uw73) (hw _ uw54) (hw _ uw55) hK hP hD hS hA rfl (fun j hj => by rcases (show j = 0 by omega) with rfl <;> rfl) (Nat.le_of_ble_eq_true rfl) (Nat.le_of_ble_eq_true rfl) dX0_init_5 (fun q1 H hP hD hS => ?_)
  refine W.widen (k := 1) (n := 1) (Nat.le_of_ble_eq_true rfl) (Nat.le_of_ble_eq_true rfl) ?_
  have hP : va_P D vwCl (((h0, .inr (0, [.int 0, .null, .null, .null, .null, .null, .null])) :: []) ++ [(q1, .inr (4, [.null]))]) H := hP
  have hD : va_D A (((h0, .inr (0, [.int 0, .null, .null, .null, .null, .null, .null])) :: []) ++ [(q1, .inr (4, [.null]))]) := hD
  refine lv_dup hx hb dX0_init_8 rfl ?_
  refine lv_iconst (v := 5) hx hb dX0_init_9 (by decide) ?_
  have hPc := hx_cut hP
  have hFc := hx_free hD hS hA
  refine va_callv (va_runI (As := [.int 5]) (rest := [.ref q1, .ref h0]) ⟨hx, hb, hml, hown, hw⟩ (cc_X4_init l D cI cS q1 H.size 5 (Nat.le_of_ble_eq_true rfl)) (cwI 1 hw (gh_g1 uw62) rfl rfl rfl (hw _ uw55) (hw _ uw80) (hw _ uw61) rfl (by decide +kernel) ⟨(Nat.le_of_ble_eq_true rfl), (Nat.le_of_ble_eq_true rfl)⟩) (hx_pre hPc hKK) rfl rfl hl.1 rfl (lv_room (Nat.le_of_ble_eq_true rfl)) dX0_init_10 ⟨(Nat.le_of_ble_eq_true rfl), (Nat.le_of_ble_eq_true rfl)⟩) hS (fun q _ h => hFc q h) hFc (fun R1 t H1 locs ht _ wR1 hB1 _ hk1 hS => ?_)
  obtain ⟨hP1, hD1⟩ := hB1
  rw [ht] at hP1
  obtain ⟨hP, hD⟩ := hx_join hP hD hk1 hFc hP1 hD1
  clear hPc hFc hk1 hP1 hD1
  generalize H1 = H at hP hS ⊢
  have hP : va_P D vwCl ((h0, .inr (0, [.int 0, .null, .null, .null, .null, .null, .null])) :: R1) H := hP
  have hD : va_D A ((h0, .inr (0, [.int 0, .null, .null, .null, .null, .null, .null])) :: R1) := hD
  refine W.widen (k := 2) (n := 6) (Nat.le_of_ble_eq_true rfl) (Nat.le_of_ble_eq_true rfl) ?_
  refine va_putF (D := D) (ci := 0) (v := .ref q1) (ty := .object "GuessingHall$Row") (C := RX0) (T := TX0) (N := 7) hx hb hw inlX0 tyX0 tyX0_ok nmX0 hown hK hP hD hS 0 rfl rfl 1 (by decide) (hw _ uw74) (fun _ h9 => h9) rfl hin rfl (by decide +kernel) rfl rfl (Nat.le_of_ble_eq_true rfl) dX0_init_13 (fun H locs hP hD hS => ?_)
  have hP : va_P D vwCl ((h0, .inr (0, [.int 0, .ref q1, .null, .null, .null, .null, .null])) :: R1) H := hP
  have hD : va_D A ((h0, .inr (0, [.int 0, .ref q1, .null, .null, .null, .null, .null])) :: R1) := hD
  refine lv_aload_n hx hb dX0_init_16 rfl (lv_at hl 0 rfl) ?_
  refine va_new (ci := 4) (fs := [.null]) (C := RX4) (T := TX4) (N := 1) hx hb hw inlX4 tyX4 tyX4_ok hown (hw _ uw73) (hw _ uw54) (hw _ uw55) hK hP hD hS hA rfl (fun j hj => by rcases (show j = 0 by omega) with rfl <;> rfl) (Nat.le_of_ble_eq_true rfl) (Nat.le_of_ble_eq_true rfl) dX0_init_17 (fun q2 H hP hD hS => ?_)
  refine W.widen (k := 3) (n := 7) (Nat.le_of_ble_eq_true rfl) (Nat.le_of_ble_eq_true rfl) ?_
  have hP : va_P D vwCl (((h0, .inr (0, [.int 0, .ref q1, .null, .null, .null, .null, .null])) :: R1) ++ [(q2, .inr (4, [.null]))]) H := hP
  have hD : va_D A (((h0, .inr (0, [.int 0, .ref q1, .null, .null, .null, .null, .null])) :: R1) ++ [(q2, .inr (4, [.null]))]) := hD
  refine lv_dup hx hb dX0_init_20 rfl ?_
  refine lv_iconst (v := 5) hx hb dX0_init_21 (by decide) ?_
  have hPc := hx_cut hP
  have hFc := hx_free hD hS hA
  refine va_callv (va_runI (As := [.int 5]) (rest := [.ref q2, .ref h0]) ⟨hx, hb, hml, hown, hw⟩ (cc_X4_init l D cI cS q2 H.size 5 (Nat.le_of_ble_eq_true rfl)) (cwI 1 hw (gh_g1 uw62) rfl rfl rfl (hw _ uw55) (hw _ uw80) (hw _ uw61) rfl (by decide +kernel) ⟨(Nat.le_of_ble_eq_true rfl), (Nat.le_of_ble_eq_true rfl)⟩) (hx_pre hPc hKK) rfl rfl hl.1 rfl (lv_room (Nat.le_of_ble_eq_true rfl)) dX0_init_22 ⟨(Nat.le_of_ble_eq_true rfl), (Nat.le_of_ble_eq_true rfl)⟩) hS (fun q _ h => hFc q h) hFc (fun R2 t H1 locs ht _ wR2 hB1 _ hk1 hS => ?_)
  obtain ⟨hP1, hD1⟩ := hB1
  rw [ht] at hP1
  obtain ⟨hP, hD⟩ := hx_join hP hD hk1 hFc hP1 hD1
  clear hPc hFc hk1 hP1 hD1
  generalize H1 = H at hP hS ⊢
  have hP : va_P D vwCl ((h0, .inr (0, [.int 0, .ref q1, .null, .null, .null, .null, .null])) :: (R1 ++ R2)) H := hP
  have hD : va_D A ((h0, .inr (0, [.int 0, .ref q1, .null, .null, .null, .null, .null])) :: (R1 ++ R2)) := hD
  refine W.widen (k := 4) (n := 12) (Nat.le_of_ble_eq_true rfl) (Nat.le_of_ble_eq_true rfl) ?_
  refine va_putF (D := D) (ci := 0) (v := .ref q2) (ty := .object "GuessingHall$Row") (C := RX0) (T := TX0) (N := 7) hx hb hw inlX0 tyX0 tyX0_ok nmX0 hown hK hP hD hS 0 rfl rfl 2 (by decide) (hw _ uw75) (fun _ h9 => h9) rfl hin rfl (by decide +kernel) rfl rfl (Nat.le_of_ble_eq_true rfl) dX0_init_25 (fun H locs hP hD hS => ?_)
  have hP : va_P D vwCl ((h0, .inr (0, [.int 0, .ref q1, .ref q2, .null, .null, .null, .null])) :: (R1 ++ R2)) H := hP
  have hD : va_D A ((h0, .inr (0, [.int 0, .ref q1, .ref q2, .null, .null, .null, .null])) :: (R1 ++ R2)) := hD
  refine lv_aload_n hx hb dX0_init_28 rfl (lv_at hl 0 rfl) ?_
  refine va_new (ci := 4) (fs := [.null]) (C := RX4) (T := TX4) (N := 1) hx hb hw inlX4 tyX4 tyX4_ok hown (hw _ uw73) (hw _ uw54) (hw _ uw55) hK hP hD hS hA rfl (fun j hj => by rcases (show j = 0 by omega) with rfl <;> rfl) (Nat.le_of_ble_eq_true rfl) (Nat.le_of_ble_eq_true rfl) dX0_init_29 (fun q3 H hP hD hS => ?_)
  refine W.widen (k := 5) (n := 13) (Nat.le_of_ble_eq_true rfl) (Nat.le_of_ble_eq_true rfl) ?_
  have hP : va_P D vwCl (((h0, .inr (0, [.int 0, .ref q1, .ref q2, .null, .null, .null, .null])) :: (R1 ++ R2)) ++ [(q3, .inr (4, [.null]))]) H := hP
  have hD : va_D A (((h0, .inr (0, [.int 0, .ref q1, .ref q2, .null, .null, .null, .null])) :: (R1 ++ R2)) ++ [(q3, .inr (4, [.null]))]) := hD
  refine lv_dup hx hb dX0_init_32 rfl ?_
  refine lv_iconst (v := 5) hx hb dX0_init_33 (by decide) ?_
  have hPc := hx_cut hP
  have hFc := hx_free hD hS hA
  refine va_callv (va_runI (As := [.int 5]) (rest := [.ref q3, .ref h0]) ⟨hx, hb, hml, hown, hw⟩ (cc_X4_init l D cI cS q3 H.size 5 (Nat.le_of_ble_eq_true rfl)) (cwI 1 hw (gh_g1 uw62) rfl rfl rfl (hw _ uw55) (hw _ uw80) (hw _ uw61) rfl (by decide +kernel) ⟨(Nat.le_of_ble_eq_true rfl), (Nat.le_of_ble_eq_true rfl)⟩) (hx_pre hPc hKK) rfl rfl hl.1 rfl (lv_room (Nat.le_of_ble_eq_true rfl)) dX0_init_34 ⟨(Nat.le_of_ble_eq_true rfl), (Nat.le_of_ble_eq_true rfl)⟩) hS (fun q _ h => hFc q h) hFc (fun R3 t H1 locs ht _ wR3 hB1 _ hk1 hS => ?_)
  obtain ⟨hP1, hD1⟩ := hB1
  rw [ht] at hP1
  obtain ⟨hP, hD⟩ := hx_join hP hD hk1 hFc hP1 hD1
  clear hPc hFc hk1 hP1 hD1
  generalize H1 = H at hP hS ⊢
  have hP : va_P D vwCl ((h0, .inr (0, [.int 0, .ref q1, .ref q2, .null, .null, .null, .null])) :: ((R1 ++ R2) ++ R3)) H := hP
  have hD : va_D A ((h0, .inr (0, [.int 0, .ref q1, .ref q2, .null, .null, .null, .null])) :: ((R1 ++ R2) ++ R3)) := hD
  refine W.widen (k := 6) (n := 18) (Nat.le_of_ble_eq_true rfl) (Nat.le_of_ble_eq_true rfl) ?_
  refine va_putF (D := D) (ci := 0) (v := .ref q3) (ty := .object "GuessingHall$Row") (C := RX0) (T := TX0) (N := 7) hx hb hw inlX0 tyX0 tyX0_ok nmX0 hown hK hP hD hS 0 rfl rfl 3 (by decide) (hw _ uw76) (fun _ h9 => h9) rfl hin rfl (by decide +kernel) rfl rfl (Nat.le_of_ble_eq_true rfl) dX0_init_37 (fun H locs hP hD hS => ?_)
  have hP : va_P D vwCl ((h0, .inr (0, [.int 0, .ref q1, .ref q2, .ref q3, .null, .null, .null])) :: ((R1 ++ R2) ++ R3)) H := hP
  have hD : va_D A ((h0, .inr (0, [.int 0, .ref q1, .ref q2, .ref q3, .null, .null, .null])) :: ((R1 ++ R2) ++ R3)) := hD
  refine lv_aload_n hx hb dX0_init_40 rfl (lv_at hl 0 rfl) ?_
  refine va_new (ci := 4) (fs := [.null]) (C := RX4) (T := TX4) (N := 1) hx hb hw inlX4 tyX4 tyX4_ok hown (hw _ uw73) (hw _ uw54) (hw _ uw55) hK hP hD hS hA rfl (fun j hj => by rcases (show j = 0 by omega) with rfl <;> rfl) (Nat.le_of_ble_eq_true rfl) (Nat.le_of_ble_eq_true rfl) dX0_init_41 (fun q4 H hP hD hS => ?_)
  refine W.widen (k := 7) (n := 19) (Nat.le_of_ble_eq_true rfl) (Nat.le_of_ble_eq_true rfl) ?_
  have hP : va_P D vwCl (((h0, .inr (0, [.int 0, .ref q1, .ref q2, .ref q3, .null, .null, .null])) :: ((R1 ++ R2) ++ R3)) ++ [(q4, .inr (4, [.null]))]) H := hP
  have hD : va_D A (((h0, .inr (0, [.int 0, .ref q1, .ref q2, .ref q3, .null, .null, .null])) :: ((R1 ++ R2) ++ R3)) ++ [(q4, .inr (4, [.null]))]) := hD
  refine lv_dup hx hb dX0_init_44 rfl ?_
  refine lv_iconst (v := 5) hx hb dX0_init_45 (by decide) ?_
  have hPc := hx_cut hP
  have hFc := hx_free hD hS hA
  refine va_callv (va_runI (As := [.int 5]) (rest := [.ref q4, .ref h0]) ⟨hx, hb, hml, hown, hw⟩ (cc_X4_init l D cI cS q4 H.size 5 (Nat.le_of_ble_eq_true rfl)) (cwI 1 hw (gh_g1 uw62) rfl rfl rfl (hw _ uw55) (hw _ uw80) (hw _ uw61) rfl (by decide +kernel) ⟨(Nat.le_of_ble_eq_true rfl), (Nat.le_of_ble_eq_true rfl)⟩) (hx_pre hPc hKK) rfl rfl hl.1 rfl (lv_room (Nat.le_of_ble_eq_true rfl)) dX0_init_46 ⟨(Nat.le_of_ble_eq_true rfl), (Nat.le_of_ble_eq_true rfl)⟩) hS (fun q _ h => hFc q h) hFc (fun R4 t H1 locs ht _ wR4 hB1 _ hk1 hS => ?_)
  obtain ⟨hP1, hD1⟩ := hB1
  rw [ht] at hP1
  obtain ⟨hP, hD⟩ := hx_join hP hD hk1 hFc hP1 hD1
  clear hPc hFc hk1 hP1 hD1
  generalize H1 = H at hP hS ⊢
  have hP : va_P D vwCl ((h0, .inr (0, [.int 0, .ref q1, .ref q2, .ref q3, .null, .null, .null])) :: (((R1 ++ R2) ++ R3) ++ R4)) H := hP
  have hD : va_D A ((h0, .inr (0, [.int 0, .ref q1, .ref q2, .ref q3, .null, .null, .null])) :: (((R1 ++ R2) ++ R3) ++ R4)) := hD
  refine W.widen (k := 8) (n := 24) (Nat.le_of_ble_eq_true rfl) (Nat.le_of_ble_eq_true rfl) ?_
  refine va_putF (D := D) (ci := 0) (v := .ref q4) (ty := .object "GuessingHall$Row") (C := RX0) (T := TX0) (N := 7) hx hb hw inlX0 tyX0 tyX0_ok nmX0 hown hK hP hD hS 0 rfl rfl 4 (by decide) (hw _ uw77) (fun _ h9 => h9) rfl hin rfl (by decide +kernel) rfl rfl (Nat.le_of_ble_eq_true rfl) dX0_init_49 (fun H locs hP hD hS => ?_)
  have hP : va_P D vwCl ((h0, .inr (0, [.int 0, .ref q1, .ref q2, .ref q3, .ref q4, .null, .null])) :: (((R1 ++ R2) ++ R3) ++ R4)) H := hP
  have hD : va_D A ((h0, .inr (0, [.int 0, .ref q1, .ref q2, .ref q3, .ref q4, .null, .null])) :: (((R1 ++ R2) ++ R3) ++ R4)) := hD
  refine lv_aload_n hx hb dX0_init_52 rfl (lv_at hl 0 rfl) ?_
  refine va_new (ci := 4) (fs := [.null]) (C := RX4) (T := TX4) (N := 1) hx hb hw inlX4 tyX4 tyX4_ok hown (hw _ uw73) (hw _ uw54) (hw _ uw55) hK hP hD hS hA rfl (fun j hj => by rcases (show j = 0 by omega) with rfl <;> rfl) (Nat.le_of_ble_eq_true rfl) (Nat.le_of_ble_eq_true rfl) dX0_init_53 (fun q5 H hP hD hS => ?_)
  refine W.widen (k := 9) (n := 25) (Nat.le_of_ble_eq_true rfl) (Nat.le_of_ble_eq_true rfl) ?_
  have hP : va_P D vwCl (((h0, .inr (0, [.int 0, .ref q1, .ref q2, .ref q3, .ref q4, .null, .null])) :: (((R1 ++ R2) ++ R3) ++ R4)) ++ [(q5, .inr (4, [.null]))]) H := hP
  have hD : va_D A (((h0, .inr (0, [.int 0, .ref q1, .ref q2, .ref q3, .ref q4, .null, .null])) :: (((R1 ++ R2) ++ R3) ++ R4)) ++ [(q5, .inr (4, [.null]))]) := hD
  refine lv_dup hx hb dX0_init_56 rfl ?_
  refine lv_iconst (v := 5) hx hb dX0_init_57 (by decide) ?_
  have hPc := hx_cut hP
  have hFc := hx_free hD hS hA
  refine va_callv (va_runI (As := [.int 5]) (rest := [.ref q5, .ref h0]) ⟨hx, hb, hml, hown, hw⟩ (cc_X4_init l D cI cS q5 H.size 5 (Nat.le_of_ble_eq_true rfl)) (cwI 1 hw (gh_g1 uw62) rfl rfl rfl (hw _ uw55) (hw _ uw80) (hw _ uw61) rfl (by decide +kernel) ⟨(Nat.le_of_ble_eq_true rfl), (Nat.le_of_ble_eq_true rfl)⟩) (hx_pre hPc hKK) rfl rfl hl.1 rfl (lv_room (Nat.le_of_ble_eq_true rfl)) dX0_init_58 ⟨(Nat.le_of_ble_eq_true rfl), (Nat.le_of_ble_eq_true rfl)⟩) hS (fun q _ h => hFc q h) hFc (fun R5 t H1 locs ht _ wR5 hB1 _ hk1 hS => ?_)
  obtain ⟨hP1, hD1⟩ := hB1
  rw [ht] at hP1
  obtain ⟨hP, hD⟩ := hx_join hP hD hk1 hFc hP1 hD1
  clear hPc hFc hk1 hP1 hD1
  generalize H1 = H at hP hS ⊢
  have hP : va_P D vwCl ((h0, .inr (0, [.int 0, .ref q1, .ref q2, .ref q3, .ref q4, .null, .null])) :: ((((R1 ++ R2) ++ R3) ++ R4) ++ R5)) H := hP
  have hD : va_D A ((h0, .inr (0, [.int 0, .ref q1, .ref q2, .ref q3, .ref q4, .null, .null])) :: ((((R1 ++ R2) ++ R3) ++ R4) ++ R5)) := hD
  refine W.widen (k := 10) (n := 30) (Nat.le_of_ble_eq_true rfl) (Nat.le_of_ble_eq_true rfl) ?_
  refine va_putF (D := D) (ci := 0) (v := .ref q5) (ty := .object "GuessingHall$Row") (C := RX0) (T := TX0) (N := 7) hx hb hw inlX0 tyX0 tyX0_ok nmX0 hown hK hP hD hS 0 rfl rfl 5 (by decide) (hw _ uw78) (fun _ h9 => h9) rfl hin rfl (by decide +kernel) rfl rfl (Nat.le_of_ble_eq_true rfl) dX0_init_61 (fun H locs hP hD hS => ?_)
  have hP : va_P D vwCl ((h0, .inr (0, [.int 0, .ref q1, .ref q2, .ref q3, .ref q4, .ref q5, .null])) :: ((((R1 ++ R2) ++ R3) ++ R4) ++ R5)) H := hP
  have hD : va_D A ((h0, .inr (0, [.int 0, .ref q1, .ref q2, .ref q3, .ref q4, .ref q5, .null])) :: ((((R1 ++ R2) ++ R3) ++ R4) ++ R5)) := hD
  refine lv_aload_n hx hb dX0_init_64 rfl (lv_at hl 0 rfl) ?_
  refine va_new (ci := 4) (fs := [.null]) (C := RX4) (T := TX4) (N := 1) hx hb hw inlX4 tyX4 tyX4_ok hown (hw _ uw73) (hw _ uw54) (hw _ uw55) hK hP hD hS hA rfl (fun j hj => by rcases (show j = 0 by omega) with rfl <;> rfl) (Nat.le_of_ble_eq_true rfl) (Nat.le_of_ble_eq_true rfl) dX0_init_65 (fun q6 H hP hD hS => ?_)
  refine W.widen (k := 11) (n := 31) (Nat.le_of_ble_eq_true rfl) (Nat.le_of_ble_eq_true rfl) ?_
  have hP : va_P D vwCl (((h0, .inr (0, [.int 0, .ref q1, .ref q2, .ref q3, .ref q4, .ref q5, .null])) :: ((((R1 ++ R2) ++ R3) ++ R4) ++ R5)) ++ [(q6, .inr (4, [.null]))]) H := hP
  have hD : va_D A (((h0, .inr (0, [.int 0, .ref q1, .ref q2, .ref q3, .ref q4, .ref q5, .null])) :: ((((R1 ++ R2) ++ R3) ++ R4) ++ R5)) ++ [(q6, .inr (4, [.null]))]) := hD
  refine lv_dup hx hb dX0_init_68 rfl ?_
  refine lv_iconst (v := 5) hx hb dX0_init_69 (by decide) ?_
  have hPc := hx_cut hP
  have hFc := hx_free hD hS hA
  refine va_callv (va_runI (As := [.int 5]) (rest := [.ref q6, .ref h0]) ⟨hx, hb, hml, hown, hw⟩ (cc_X4_init l D cI cS q6 H.size 5 (Nat.le_of_ble_eq_true rfl)) (cwI 1 hw (gh_g1 uw62) rfl rfl rfl (hw _ uw55) (hw _ uw80) (hw _ uw61) rfl (by decide +kernel) ⟨(Nat.le_of_ble_eq_true rfl), (Nat.le_of_ble_eq_true rfl)⟩) (hx_pre hPc hKK) rfl rfl hl.1 rfl (lv_room (Nat.le_of_ble_eq_true rfl)) dX0_init_70 ⟨(Nat.le_of_ble_eq_true rfl), (Nat.le_of_ble_eq_true rfl)⟩) hS (fun q _ h => hFc q h) hFc (fun R6 t H1 locs ht _ wR6 hB1 _ hk1 hS => ?_)
  obtain ⟨hP1, hD1⟩ := hB1
  rw [ht] at hP1
  obtain ⟨hP, hD⟩ := hx_join hP hD hk1 hFc hP1 hD1
  clear hPc hFc hk1 hP1 hD1
  generalize H1 = H at hP hS ⊢
  have hP : va_P D vwCl ((h0, .inr (0, [.int 0, .ref q1, .ref q2, .ref q3, .ref q4, .ref q5, .null])) :: (((((R1 ++ R2) ++ R3) ++ R4) ++ R5) ++ R6)) H := hP
  have hD : va_D A ((h0, .inr (0, [.int 0, .ref q1, .ref q2, .ref q3, .ref q4, .ref q5, .null])) :: (((((R1 ++ R2) ++ R3) ++ R4) ++ R5) ++ R6)) := hD
  refine W.widen (k := 12) (n := 36) (Nat.le_of_ble_eq_true rfl) (Nat.le_of_ble_eq_true rfl) ?_
  refine va_putF (D := D) (ci := 0) (v := .ref q6) (ty := .object "GuessingHall$Row") (C := RX0) (T := TX0) (N := 7) hx hb hw inlX0 tyX0 tyX0_ok nmX0 hown hK hP hD hS 0 rfl rfl 6 (by decide) (hw _ uw79) (fun _ h9 => h9) rfl hin rfl (by decide +kernel) rfl rfl (Nat.le_of_ble_eq_true rfl) dX0_init_73 (fun H locs hP hD hS => ?_)
  have hP : va_P D vwCl ((h0, .inr (0, [.int 0, .ref q1, .ref q2, .ref q3, .ref q4, .ref q5, .ref q6])) :: (((((R1 ++ R2) ++ R3) ++ R4) ++ R5) ++ R6)) H := hP
  have hD : va_D A ((h0, .inr (0, [.int 0, .ref q1, .ref q2, .ref q3, .ref q4, .ref q5, .ref q6])) :: (((((R1 ++ R2) ++ R3) ++ R4) ++ R5) ++ R6)) := hD
  obtain ⟨wR1, aR1⟩ := wR1
  have nR1 : R1.length = 2 := wR1.1
  obtain ⟨wR2, aR2⟩ := wR2
  have nR2 : R2.length = 2 := wR2.1
  obtain ⟨wR3, aR3⟩ := wR3
  have nR3 : R3.length = 2 := wR3.1
  obtain ⟨wR4, aR4⟩ := wR4
  have nR4 : R4.length = 2 := wR4.1
  obtain ⟨wR5, aR5⟩ := wR5
  have nR5 : R5.length = 2 := wR5.1
  obtain ⟨wR6, aR6⟩ := wR6
  have nR6 : R6.length = 2 := wR6.1
  have W0 := wR1
  have W1 := W0.app wR2 (by decide +kernel) (v := hz) (fun _ _ => rfl) (fun _ _ => rfl)
  have W2 := W1.app wR3 (by decide +kernel) (v := hz) (fun _ _ => rfl) (fun _ _ => rfl)
  have W3 := W2.app wR4 (by decide +kernel) (v := hz) (fun _ _ => rfl) (fun _ _ => rfl)
  have W4 := W3.app wR5 (by decide +kernel) (v := hz) (fun _ _ => rfl) (fun _ _ => rfl)
  have W5 := W4.app wR6 (by decide +kernel) (v := hz) (fun _ _ => rfl) (fun _ _ => rfl)
  have bR1 : adL (((((R1 ++ R2) ++ R3) ++ R4) ++ R5) ++ R6) 0 = q1 := by rw [adL_l (L1 := ((((R1 ++ R2) ++ R3) ++ R4) ++ R5)) (L2 := R6) (k := 0) (by simp only [List.length_append, nR1, nR2, nR3, nR4, nR5, nR6]; omega), adL_l (L1 := (((R1 ++ R2) ++ R3) ++ R4)) (L2 := R5) (k := 0) (by simp only [List.length_append, nR1, nR2, nR3, nR4, nR5, nR6]; omega), adL_l (L1 := ((R1 ++ R2) ++ R3)) (L2 := R4) (k := 0) (by simp only [List.length_append, nR1, nR2, nR3, nR4, nR5, nR6]; omega), adL_l (L1 := (R1 ++ R2)) (L2 := R3) (k := 0) (by simp only [List.length_append, nR1, nR2, nR3, nR4, nR5, nR6]; omega), adL_l (L1 := R1) (L2 := R2) (k := 0) (by simp only [List.length_append, nR1, nR2, nR3, nR4, nR5, nR6]; omega)]; exact aR1
  have bR2 : adL (((((R1 ++ R2) ++ R3) ++ R4) ++ R5) ++ R6) 2 = q2 := by rw [adL_l (L1 := ((((R1 ++ R2) ++ R3) ++ R4) ++ R5)) (L2 := R6) (k := 2) (by simp only [List.length_append, nR1, nR2, nR3, nR4, nR5, nR6]; omega), adL_l (L1 := (((R1 ++ R2) ++ R3) ++ R4)) (L2 := R5) (k := 2) (by simp only [List.length_append, nR1, nR2, nR3, nR4, nR5, nR6]; omega), adL_l (L1 := ((R1 ++ R2) ++ R3)) (L2 := R4) (k := 2) (by simp only [List.length_append, nR1, nR2, nR3, nR4, nR5, nR6]; omega), adL_l (L1 := (R1 ++ R2)) (L2 := R3) (k := 2) (by simp only [List.length_append, nR1, nR2, nR3, nR4, nR5, nR6]; omega), (adL_r (k := 0) (n := 2) (L1 := R1) (L2 := R2) (by simp only [List.length_append, nR1, nR2, nR3, nR4, nR5, nR6]) : adL (R1 ++ R2) 2 = adL R2 0)]; exact aR2
  have bR3 : adL (((((R1 ++ R2) ++ R3) ++ R4) ++ R5) ++ R6) 4 = q3 := by rw [adL_l (L1 := ((((R1 ++ R2) ++ R3) ++ R4) ++ R5)) (L2 := R6) (k := 4) (by simp only [List.length_append, nR1, nR2, nR3, nR4, nR5, nR6]; omega), adL_l (L1 := (((R1 ++ R2) ++ R3) ++ R4)) (L2 := R5) (k := 4) (by simp only [List.length_append, nR1, nR2, nR3, nR4, nR5, nR6]; omega), adL_l (L1 := ((R1 ++ R2) ++ R3)) (L2 := R4) (k := 4) (by simp only [List.length_append, nR1, nR2, nR3, nR4, nR5, nR6]; omega), (adL_r (k := 0) (n := 4) (L1 := (R1 ++ R2)) (L2 := R3) (by simp only [List.length_append, nR1, nR2, nR3, nR4, nR5, nR6]) : adL ((R1 ++ R2) ++ R3) 4 = adL R3 0)]; exact aR3
  have bR4 : adL (((((R1 ++ R2) ++ R3) ++ R4) ++ R5) ++ R6) 6 = q4 := by rw [adL_l (L1 := ((((R1 ++ R2) ++ R3) ++ R4) ++ R5)) (L2 := R6) (k := 6) (by simp only [List.length_append, nR1, nR2, nR3, nR4, nR5, nR6]; omega), adL_l (L1 := (((R1 ++ R2) ++ R3) ++ R4)) (L2 := R5) (k := 6) (by simp only [List.length_append, nR1, nR2, nR3, nR4, nR5, nR6]; omega), (adL_r (k := 0) (n := 6) (L1 := ((R1 ++ R2) ++ R3)) (L2 := R4) (by simp only [List.length_append, nR1, nR2, nR3, nR4, nR5, nR6]) : adL (((R1 ++ R2) ++ R3) ++ R4) 6 = adL R4 0)]; exact aR4
  have bR5 : adL (((((R1 ++ R2) ++ R3) ++ R4) ++ R5) ++ R6) 8 = q5 := by rw [adL_l (L1 := ((((R1 ++ R2) ++ R3) ++ R4) ++ R5)) (L2 := R6) (k := 8) (by simp only [List.length_append, nR1, nR2, nR3, nR4, nR5, nR6]; omega), (adL_r (k := 0) (n := 8) (L1 := (((R1 ++ R2) ++ R3) ++ R4)) (L2 := R5) (by simp only [List.length_append, nR1, nR2, nR3, nR4, nR5, nR6]) : adL ((((R1 ++ R2) ++ R3) ++ R4) ++ R5) 8 = adL R5 0)]; exact aR5
  have bR6 : adL (((((R1 ++ R2) ++ R3) ++ R4) ++ R5) ++ R6) 10 = q6 := by rw [(adL_r (k := 0) (n := 10) (L1 := ((((R1 ++ R2) ++ R3) ++ R4) ++ R5)) (L2 := R6) (by simp only [List.length_append, nR1, nR2, nR3, nR4, nR5, nR6]) : adL (((((R1 ++ R2) ++ R3) ++ R4) ++ R5) ++ R6) 10 = adL R6 0)]; exact aR6
  have WW : wl D cI cS ((h0, .inr (0, [.int 0, .ref q1, .ref q2, .ref q3, .ref q4, .ref q5, .ref q6])) :: (((((R1 ++ R2) ++ R3) ++ R4) ++ R5) ++ R6)) [0, 4, 16, 4, 16, 4, 16, 4, 16, 4, 16, 4, 16] hz := W5.cons (v := hz) (fun _ _ => rfl) (Or.inl (by
    show (.inr (0, [.int 0, .ref q1, .ref q2, .ref q3, .ref q4, .ref q5, .ref q6]) : va_E) = .inr (0, [.int 0, .ref (adL (((((R1 ++ R2) ++ R3) ++ R4) ++ R5) ++ R6) 0), .ref (adL (((((R1 ++ R2) ++ R3) ++ R4) ++ R5) ++ R6) 2), .ref (adL (((((R1 ++ R2) ++ R3) ++ R4) ++ R5) ++ R6) 4), .ref (adL (((((R1 ++ R2) ++ R3) ++ R4) ++ R5) ++ R6) 6), .ref (adL (((((R1 ++ R2) ++ R3) ++ R4) ++ R5) ++ R6) 8), .ref (adL (((((R1 ++ R2) ++ R3) ++ R4) ++ R5) ++ R6) 10)])
    rw [bR1, bR2, bR3, bR4, bR5, bR6]))
  exact W.vret hx hb hr (fun t ht hW => ⟨⟨((h0, .inr (0, [.int 0, .ref q1, .ref q2, .ref q3, .ref q4, .ref q5, .ref q6])) :: (((((R1 ++ R2) ++ R3) ++ R4) ++ R5) ++ R6)), rfl, ⟨WW, rfl⟩, by rw [ht]; exact hP, hD⟩, hS.F ht⟩) hS.2.2 dX0_init_76 hlocks
abbrev wc_X2_init : List Cond := Cond.code yX2_init cX2_init 1 none :: wsL_law
abbrev r_X2_init : Room := { frames := 2, cells := 8, slots := 28, locals := 41 }
set_option maxHeartbeats 8000000 in
set_option maxRecDepth 100000 in
theorem cc_X2_init (l : Launch) (D : va_G) (cI cS : ClassId) (h0 sz : Nat) : Met l yX2_init wc_X2_init r_X2_init (va_Pc [.ref h0] (hB D cI cS (h0, .inr (2, [.int 0, .null, .null, .null, .null])) sz)) (va_Qv (fun L : va_W => wl D cI cS L [2, 4, 17, 4, 17, 4, 17, 4, 17] hz ∧ adL L 0 = h0) (fun L t => va_P D vwCl L t.heap ∧ va_D (va_A [(h0, .inr (2, [.int 0, .null, .null, .null, .null]))] sz) L) (va_A [(h0, .inr (2, [.int 0, .null, .null, .null, .null]))] sz)) 8 28 (va_A [(h0, .inr (2, [.int 0, .null, .null, .null, .null]))] sz) := by
  refine Met.ofW (cc := cX2_init) (maxL := 1) (ret := none) (by decide) rfl ?_
  intro p e s m args below meth c s₁ B hml hv
  obtain ⟨rfl, hsz, hP, hKK⟩ := hv
  have hx := B.exec
  have hb := B.bytes
  have hr := B.returns
  have hw := gh_hw (atoms_spec (ws := wc_X2_init) B.pre)
  have hown : s.vm.findClass RX2 = some m.cls := findClass_of_methodNamed B.named
  have hlocks := B.notSynchronized
  have hin : meth.name = "<init>" := (name_of_methodNamed B.named B.method).1
  have hK := hKK.1
  subst hsz
  have hD : va_D (va_A [(h0, .inr (2, [.int 0, .null, .null, .null, .null]))] s.heap.size) [(h0, .inr (2, [.int 0, .null, .null, .null, .null]))] := hx_one (A := va_A [(h0, .inr (2, [.int 0, .null, .null, .null, .null]))] s.heap.size) (Or.inl ⟨0, _, rfl⟩)
  generalize hAe : va_A [(h0, .inr (2, [.int 0, .null, .null, .null, .null]))] s.heap.size = A at hD ⊢
  have hA : ∀ q : Nat, s.heap.size ≤ q → A q := fun q h => by rw [← hAe]; exact Or.inr h
  have hS : va_S A s.heap s.heap [] := va_S.rf
  have hl := lv_entry ([.ref h0]) (n := 1) (Nat.le_of_ble_eq_true rfl)
  rw [lg_entry_eq]
  generalize (lg_sl ([.ref h0]) ++ List.replicate (1 - (lg_sl ([.ref h0])).length) Slot.unset).toArray = ls at hl ⊢
  have hl : lv_has ls 1 [(0, .ref h0)] := hl
  refine lv_aload_n hx hb dX2_init_0 rfl (lv_at hl 0 rfl) ?_
  refine W.objInit hx hb hown (hw _ uw86) (hw _ uw10) (hw _ uw11) rfl (by rw [hml]; exact hl.1) rfl dX2_init_1 (Nat.le_of_ble_eq_true rfl) (Nat.le_of_ble_eq_true rfl) ?_
  refine W.eq (g2 := F0 m 4 ls []) rfl ?_
  refine lv_aload_n hx hb dX2_init_4 rfl (lv_at hl 0 rfl) ?_
  refine va_new (ci := 4) (fs := [.null]) (C := RX4) (T := TX4) (N := 1) hx hb hw inlX4 tyX4 tyX4_ok hown (hw _ uw87) (hw _ uw54) (hw _ uw55) hK hP hD hS hA rfl (fun j hj => by rcases (show j = 0 by omega) with rfl <;> rfl) (Nat.le_of_ble_eq_true rfl) (Nat.le_of_ble_eq_true rfl) dX2_init_5 (fun q1 H hP hD hS => ?_)
  refine W.widen (k := 1) (n := 1) (Nat.le_of_ble_eq_true rfl) (Nat.le_of_ble_eq_true rfl) ?_
  have hP : va_P D vwCl (((h0, .inr (2, [.int 0, .null, .null, .null, .null])) :: []) ++ [(q1, .inr (4, [.null]))]) H := hP
  have hD : va_D A (((h0, .inr (2, [.int 0, .null, .null, .null, .null])) :: []) ++ [(q1, .inr (4, [.null]))]) := hD
  refine lv_dup hx hb dX2_init_8 rfl ?_
  refine lv_bipush (v := 6) hx hb dX2_init_9 (by decide) ?_
  have hPc := hx_cut hP
  have hFc := hx_free hD hS hA
  refine va_callv (va_runI (As := [.int 6]) (rest := [.ref q1, .ref h0]) ⟨hx, hb, hml, hown, hw⟩ (cc_X4_init l D cI cS q1 H.size 6 (Nat.le_of_ble_eq_true rfl)) (cwI 1 hw (gh_g1 uw62) rfl rfl rfl (hw _ uw55) (hw _ uw92) (hw _ uw61) rfl (by decide +kernel) ⟨(Nat.le_of_ble_eq_true rfl), (Nat.le_of_ble_eq_true rfl)⟩) (hx_pre hPc hKK) rfl rfl hl.1 rfl (lv_room (Nat.le_of_ble_eq_true rfl)) dX2_init_11 ⟨(Nat.le_of_ble_eq_true rfl), (Nat.le_of_ble_eq_true rfl)⟩) hS (fun q _ h => hFc q h) hFc (fun R1 t H1 locs ht _ wR1 hB1 _ hk1 hS => ?_)
  obtain ⟨hP1, hD1⟩ := hB1
  rw [ht] at hP1
  obtain ⟨hP, hD⟩ := hx_join hP hD hk1 hFc hP1 hD1
  clear hPc hFc hk1 hP1 hD1
  generalize H1 = H at hP hS ⊢
  have hP : va_P D vwCl ((h0, .inr (2, [.int 0, .null, .null, .null, .null])) :: R1) H := hP
  have hD : va_D A ((h0, .inr (2, [.int 0, .null, .null, .null, .null])) :: R1) := hD
  refine W.widen (k := 2) (n := 7) (Nat.le_of_ble_eq_true rfl) (Nat.le_of_ble_eq_true rfl) ?_
  refine va_putF (D := D) (ci := 2) (v := .ref q1) (ty := .object "GuessingHall$Row") (C := RX2) (T := TX2) (N := 5) hx hb hw inlX2 tyX2 tyX2_ok nmX2 hown hK hP hD hS 0 rfl rfl 1 (by decide) (hw _ uw88) (fun _ h9 => h9) rfl hin rfl (by decide +kernel) rfl rfl (Nat.le_of_ble_eq_true rfl) dX2_init_14 (fun H locs hP hD hS => ?_)
  have hP : va_P D vwCl ((h0, .inr (2, [.int 0, .ref q1, .null, .null, .null])) :: R1) H := hP
  have hD : va_D A ((h0, .inr (2, [.int 0, .ref q1, .null, .null, .null])) :: R1) := hD
  refine lv_aload_n hx hb dX2_init_17 rfl (lv_at hl 0 rfl) ?_
  refine va_new (ci := 4) (fs := [.null]) (C := RX4) (T := TX4) (N := 1) hx hb hw inlX4 tyX4 tyX4_ok hown (hw _ uw87) (hw _ uw54) (hw _ uw55) hK hP hD hS hA rfl (fun j hj => by rcases (show j = 0 by omega) with rfl <;> rfl) (Nat.le_of_ble_eq_true rfl) (Nat.le_of_ble_eq_true rfl) dX2_init_18 (fun q2 H hP hD hS => ?_)
  refine W.widen (k := 3) (n := 8) (Nat.le_of_ble_eq_true rfl) (Nat.le_of_ble_eq_true rfl) ?_
  have hP : va_P D vwCl (((h0, .inr (2, [.int 0, .ref q1, .null, .null, .null])) :: R1) ++ [(q2, .inr (4, [.null]))]) H := hP
  have hD : va_D A (((h0, .inr (2, [.int 0, .ref q1, .null, .null, .null])) :: R1) ++ [(q2, .inr (4, [.null]))]) := hD
  refine lv_dup hx hb dX2_init_21 rfl ?_
  refine lv_bipush (v := 6) hx hb dX2_init_22 (by decide) ?_
  have hPc := hx_cut hP
  have hFc := hx_free hD hS hA
  refine va_callv (va_runI (As := [.int 6]) (rest := [.ref q2, .ref h0]) ⟨hx, hb, hml, hown, hw⟩ (cc_X4_init l D cI cS q2 H.size 6 (Nat.le_of_ble_eq_true rfl)) (cwI 1 hw (gh_g1 uw62) rfl rfl rfl (hw _ uw55) (hw _ uw92) (hw _ uw61) rfl (by decide +kernel) ⟨(Nat.le_of_ble_eq_true rfl), (Nat.le_of_ble_eq_true rfl)⟩) (hx_pre hPc hKK) rfl rfl hl.1 rfl (lv_room (Nat.le_of_ble_eq_true rfl)) dX2_init_24 ⟨(Nat.le_of_ble_eq_true rfl), (Nat.le_of_ble_eq_true rfl)⟩) hS (fun q _ h => hFc q h) hFc (fun R2 t H1 locs ht _ wR2 hB1 _ hk1 hS => ?_)
  obtain ⟨hP1, hD1⟩ := hB1
  rw [ht] at hP1
  obtain ⟨hP, hD⟩ := hx_join hP hD hk1 hFc hP1 hD1
  clear hPc hFc hk1 hP1 hD1
  generalize H1 = H at hP hS ⊢
  have hP : va_P D vwCl ((h0, .inr (2, [.int 0, .ref q1, .null, .null, .null])) :: (R1 ++ R2)) H := hP
  have hD : va_D A ((h0, .inr (2, [.int 0, .ref q1, .null, .null, .null])) :: (R1 ++ R2)) := hD
  refine W.widen (k := 4) (n := 14) (Nat.le_of_ble_eq_true rfl) (Nat.le_of_ble_eq_true rfl) ?_
  refine va_putF (D := D) (ci := 2) (v := .ref q2) (ty := .object "GuessingHall$Row") (C := RX2) (T := TX2) (N := 5) hx hb hw inlX2 tyX2 tyX2_ok nmX2 hown hK hP hD hS 0 rfl rfl 2 (by decide) (hw _ uw89) (fun _ h9 => h9) rfl hin rfl (by decide +kernel) rfl rfl (Nat.le_of_ble_eq_true rfl) dX2_init_27 (fun H locs hP hD hS => ?_)
  have hP : va_P D vwCl ((h0, .inr (2, [.int 0, .ref q1, .ref q2, .null, .null])) :: (R1 ++ R2)) H := hP
  have hD : va_D A ((h0, .inr (2, [.int 0, .ref q1, .ref q2, .null, .null])) :: (R1 ++ R2)) := hD
  refine lv_aload_n hx hb dX2_init_30 rfl (lv_at hl 0 rfl) ?_
  refine va_new (ci := 4) (fs := [.null]) (C := RX4) (T := TX4) (N := 1) hx hb hw inlX4 tyX4 tyX4_ok hown (hw _ uw87) (hw _ uw54) (hw _ uw55) hK hP hD hS hA rfl (fun j hj => by rcases (show j = 0 by omega) with rfl <;> rfl) (Nat.le_of_ble_eq_true rfl) (Nat.le_of_ble_eq_true rfl) dX2_init_31 (fun q3 H hP hD hS => ?_)
  refine W.widen (k := 5) (n := 15) (Nat.le_of_ble_eq_true rfl) (Nat.le_of_ble_eq_true rfl) ?_
  have hP : va_P D vwCl (((h0, .inr (2, [.int 0, .ref q1, .ref q2, .null, .null])) :: (R1 ++ R2)) ++ [(q3, .inr (4, [.null]))]) H := hP
  have hD : va_D A (((h0, .inr (2, [.int 0, .ref q1, .ref q2, .null, .null])) :: (R1 ++ R2)) ++ [(q3, .inr (4, [.null]))]) := hD
  refine lv_dup hx hb dX2_init_34 rfl ?_
  refine lv_bipush (v := 6) hx hb dX2_init_35 (by decide) ?_
  have hPc := hx_cut hP
  have hFc := hx_free hD hS hA
  refine va_callv (va_runI (As := [.int 6]) (rest := [.ref q3, .ref h0]) ⟨hx, hb, hml, hown, hw⟩ (cc_X4_init l D cI cS q3 H.size 6 (Nat.le_of_ble_eq_true rfl)) (cwI 1 hw (gh_g1 uw62) rfl rfl rfl (hw _ uw55) (hw _ uw92) (hw _ uw61) rfl (by decide +kernel) ⟨(Nat.le_of_ble_eq_true rfl), (Nat.le_of_ble_eq_true rfl)⟩) (hx_pre hPc hKK) rfl rfl hl.1 rfl (lv_room (Nat.le_of_ble_eq_true rfl)) dX2_init_37 ⟨(Nat.le_of_ble_eq_true rfl), (Nat.le_of_ble_eq_true rfl)⟩) hS (fun q _ h => hFc q h) hFc (fun R3 t H1 locs ht _ wR3 hB1 _ hk1 hS => ?_)
  obtain ⟨hP1, hD1⟩ := hB1
  rw [ht] at hP1
  obtain ⟨hP, hD⟩ := hx_join hP hD hk1 hFc hP1 hD1
  clear hPc hFc hk1 hP1 hD1
  generalize H1 = H at hP hS ⊢
  have hP : va_P D vwCl ((h0, .inr (2, [.int 0, .ref q1, .ref q2, .null, .null])) :: ((R1 ++ R2) ++ R3)) H := hP
  have hD : va_D A ((h0, .inr (2, [.int 0, .ref q1, .ref q2, .null, .null])) :: ((R1 ++ R2) ++ R3)) := hD
  refine W.widen (k := 6) (n := 21) (Nat.le_of_ble_eq_true rfl) (Nat.le_of_ble_eq_true rfl) ?_
  refine va_putF (D := D) (ci := 2) (v := .ref q3) (ty := .object "GuessingHall$Row") (C := RX2) (T := TX2) (N := 5) hx hb hw inlX2 tyX2 tyX2_ok nmX2 hown hK hP hD hS 0 rfl rfl 3 (by decide) (hw _ uw90) (fun _ h9 => h9) rfl hin rfl (by decide +kernel) rfl rfl (Nat.le_of_ble_eq_true rfl) dX2_init_40 (fun H locs hP hD hS => ?_)
  have hP : va_P D vwCl ((h0, .inr (2, [.int 0, .ref q1, .ref q2, .ref q3, .null])) :: ((R1 ++ R2) ++ R3)) H := hP
  have hD : va_D A ((h0, .inr (2, [.int 0, .ref q1, .ref q2, .ref q3, .null])) :: ((R1 ++ R2) ++ R3)) := hD
  refine lv_aload_n hx hb dX2_init_43 rfl (lv_at hl 0 rfl) ?_
  refine va_new (ci := 4) (fs := [.null]) (C := RX4) (T := TX4) (N := 1) hx hb hw inlX4 tyX4 tyX4_ok hown (hw _ uw87) (hw _ uw54) (hw _ uw55) hK hP hD hS hA rfl (fun j hj => by rcases (show j = 0 by omega) with rfl <;> rfl) (Nat.le_of_ble_eq_true rfl) (Nat.le_of_ble_eq_true rfl) dX2_init_44 (fun q4 H hP hD hS => ?_)
  refine W.widen (k := 7) (n := 22) (Nat.le_of_ble_eq_true rfl) (Nat.le_of_ble_eq_true rfl) ?_
  have hP : va_P D vwCl (((h0, .inr (2, [.int 0, .ref q1, .ref q2, .ref q3, .null])) :: ((R1 ++ R2) ++ R3)) ++ [(q4, .inr (4, [.null]))]) H := hP
  have hD : va_D A (((h0, .inr (2, [.int 0, .ref q1, .ref q2, .ref q3, .null])) :: ((R1 ++ R2) ++ R3)) ++ [(q4, .inr (4, [.null]))]) := hD
  refine lv_dup hx hb dX2_init_47 rfl ?_
  refine lv_bipush (v := 6) hx hb dX2_init_48 (by decide) ?_
  have hPc := hx_cut hP
  have hFc := hx_free hD hS hA
  refine va_callv (va_runI (As := [.int 6]) (rest := [.ref q4, .ref h0]) ⟨hx, hb, hml, hown, hw⟩ (cc_X4_init l D cI cS q4 H.size 6 (Nat.le_of_ble_eq_true rfl)) (cwI 1 hw (gh_g1 uw62) rfl rfl rfl (hw _ uw55) (hw _ uw92) (hw _ uw61) rfl (by decide +kernel) ⟨(Nat.le_of_ble_eq_true rfl), (Nat.le_of_ble_eq_true rfl)⟩) (hx_pre hPc hKK) rfl rfl hl.1 rfl (lv_room (Nat.le_of_ble_eq_true rfl)) dX2_init_50 ⟨(Nat.le_of_ble_eq_true rfl), (Nat.le_of_ble_eq_true rfl)⟩) hS (fun q _ h => hFc q h) hFc (fun R4 t H1 locs ht _ wR4 hB1 _ hk1 hS => ?_)
  obtain ⟨hP1, hD1⟩ := hB1
  rw [ht] at hP1
  obtain ⟨hP, hD⟩ := hx_join hP hD hk1 hFc hP1 hD1
  clear hPc hFc hk1 hP1 hD1
  generalize H1 = H at hP hS ⊢
  have hP : va_P D vwCl ((h0, .inr (2, [.int 0, .ref q1, .ref q2, .ref q3, .null])) :: (((R1 ++ R2) ++ R3) ++ R4)) H := hP
  have hD : va_D A ((h0, .inr (2, [.int 0, .ref q1, .ref q2, .ref q3, .null])) :: (((R1 ++ R2) ++ R3) ++ R4)) := hD
  refine W.widen (k := 8) (n := 28) (Nat.le_of_ble_eq_true rfl) (Nat.le_of_ble_eq_true rfl) ?_
  refine va_putF (D := D) (ci := 2) (v := .ref q4) (ty := .object "GuessingHall$Row") (C := RX2) (T := TX2) (N := 5) hx hb hw inlX2 tyX2 tyX2_ok nmX2 hown hK hP hD hS 0 rfl rfl 4 (by decide) (hw _ uw91) (fun _ h9 => h9) rfl hin rfl (by decide +kernel) rfl rfl (Nat.le_of_ble_eq_true rfl) dX2_init_53 (fun H locs hP hD hS => ?_)
  have hP : va_P D vwCl ((h0, .inr (2, [.int 0, .ref q1, .ref q2, .ref q3, .ref q4])) :: (((R1 ++ R2) ++ R3) ++ R4)) H := hP
  have hD : va_D A ((h0, .inr (2, [.int 0, .ref q1, .ref q2, .ref q3, .ref q4])) :: (((R1 ++ R2) ++ R3) ++ R4)) := hD
  obtain ⟨wR1, aR1⟩ := wR1
  have nR1 : R1.length = 2 := wR1.1
  obtain ⟨wR2, aR2⟩ := wR2
  have nR2 : R2.length = 2 := wR2.1
  obtain ⟨wR3, aR3⟩ := wR3
  have nR3 : R3.length = 2 := wR3.1
  obtain ⟨wR4, aR4⟩ := wR4
  have nR4 : R4.length = 2 := wR4.1
  have W0 := wR1
  have W1 := W0.app wR2 (by decide +kernel) (v := hz) (fun _ _ => rfl) (fun _ _ => rfl)
  have W2 := W1.app wR3 (by decide +kernel) (v := hz) (fun _ _ => rfl) (fun _ _ => rfl)
  have W3 := W2.app wR4 (by decide +kernel) (v := hz) (fun _ _ => rfl) (fun _ _ => rfl)
  have bR1 : adL (((R1 ++ R2) ++ R3) ++ R4) 0 = q1 := by rw [adL_l (L1 := ((R1 ++ R2) ++ R3)) (L2 := R4) (k := 0) (by simp only [List.length_append, nR1, nR2, nR3, nR4]; omega), adL_l (L1 := (R1 ++ R2)) (L2 := R3) (k := 0) (by simp only [List.length_append, nR1, nR2, nR3, nR4]; omega), adL_l (L1 := R1) (L2 := R2) (k := 0) (by simp only [List.length_append, nR1, nR2, nR3, nR4]; omega)]; exact aR1
  have bR2 : adL (((R1 ++ R2) ++ R3) ++ R4) 2 = q2 := by rw [adL_l (L1 := ((R1 ++ R2) ++ R3)) (L2 := R4) (k := 2) (by simp only [List.length_append, nR1, nR2, nR3, nR4]; omega), adL_l (L1 := (R1 ++ R2)) (L2 := R3) (k := 2) (by simp only [List.length_append, nR1, nR2, nR3, nR4]; omega), (adL_r (k := 0) (n := 2) (L1 := R1) (L2 := R2) (by simp only [List.length_append, nR1, nR2, nR3, nR4]) : adL (R1 ++ R2) 2 = adL R2 0)]; exact aR2
  have bR3 : adL (((R1 ++ R2) ++ R3) ++ R4) 4 = q3 := by rw [adL_l (L1 := ((R1 ++ R2) ++ R3)) (L2 := R4) (k := 4) (by simp only [List.length_append, nR1, nR2, nR3, nR4]; omega), (adL_r (k := 0) (n := 4) (L1 := (R1 ++ R2)) (L2 := R3) (by simp only [List.length_append, nR1, nR2, nR3, nR4]) : adL ((R1 ++ R2) ++ R3) 4 = adL R3 0)]; exact aR3
  have bR4 : adL (((R1 ++ R2) ++ R3) ++ R4) 6 = q4 := by rw [(adL_r (k := 0) (n := 6) (L1 := ((R1 ++ R2) ++ R3)) (L2 := R4) (by simp only [List.length_append, nR1, nR2, nR3, nR4]) : adL (((R1 ++ R2) ++ R3) ++ R4) 6 = adL R4 0)]; exact aR4
  have WW : wl D cI cS ((h0, .inr (2, [.int 0, .ref q1, .ref q2, .ref q3, .ref q4])) :: (((R1 ++ R2) ++ R3) ++ R4)) [2, 4, 17, 4, 17, 4, 17, 4, 17] hz := W3.cons (v := hz) (fun _ _ => rfl) (Or.inl (by
    show (.inr (2, [.int 0, .ref q1, .ref q2, .ref q3, .ref q4]) : va_E) = .inr (2, [.int 0, .ref (adL (((R1 ++ R2) ++ R3) ++ R4) 0), .ref (adL (((R1 ++ R2) ++ R3) ++ R4) 2), .ref (adL (((R1 ++ R2) ++ R3) ++ R4) 4), .ref (adL (((R1 ++ R2) ++ R3) ++ R4) 6)])
    rw [bR1, bR2, bR3, bR4]))
  exact W.vret hx hb hr (fun t ht hW => ⟨⟨((h0, .inr (2, [.int 0, .ref q1, .ref q2, .ref q3, .ref q4])) :: (((R1 ++ R2) ++ R3) ++ R4)), rfl, ⟨WW, rfl⟩, by rw [ht]; exact hP, hD⟩, hS.F ht⟩) hS.2.2 dX2_init_56 hlocks
abbrev wc_X3_init : List Cond := Cond.code yX3_init cX3_init 1 none :: wsL_law
abbrev r_X3_init : Room := { frames := 1, cells := 0, slots := 0, locals := 12 }
set_option maxHeartbeats 8000000 in
set_option maxRecDepth 100000 in
theorem cc_X3_init (l : Launch) (D : va_G) (cI cS : ClassId) (h0 sz : Nat) : Met l yX3_init wc_X3_init r_X3_init (va_Pc [.ref h0] (hB D cI cS (h0, .inr (3, [.int 0, .int 0, .int 0, .int 0, .int 0, .int 0, .int 0])) sz)) (va_Qv (fun L : va_W => wl D cI cS L [3] hz ∧ adL L 0 = h0) (fun L t => va_P D vwCl L t.heap ∧ va_D (va_A [(h0, .inr (3, [.int 0, .int 0, .int 0, .int 0, .int 0, .int 0, .int 0]))] sz) L) (va_A [(h0, .inr (3, [.int 0, .int 0, .int 0, .int 0, .int 0, .int 0, .int 0]))] sz)) 0 0 (va_A [(h0, .inr (3, [.int 0, .int 0, .int 0, .int 0, .int 0, .int 0, .int 0]))] sz) := by
  refine Met.ofW (cc := cX3_init) (maxL := 1) (ret := none) (by decide) rfl ?_
  intro p e s m args below meth c s₁ B hml hv
  obtain ⟨rfl, hsz, hP, hKK⟩ := hv
  have hx := B.exec
  have hb := B.bytes
  have hr := B.returns
  have hw := gh_hw (atoms_spec (ws := wc_X3_init) B.pre)
  have hown : s.vm.findClass RX3 = some m.cls := findClass_of_methodNamed B.named
  have hlocks := B.notSynchronized
  have hin : meth.name = "<init>" := (name_of_methodNamed B.named B.method).1
  have hK := hKK.1
  subst hsz
  have hD : va_D (va_A [(h0, .inr (3, [.int 0, .int 0, .int 0, .int 0, .int 0, .int 0, .int 0]))] s.heap.size) [(h0, .inr (3, [.int 0, .int 0, .int 0, .int 0, .int 0, .int 0, .int 0]))] := hx_one (A := va_A [(h0, .inr (3, [.int 0, .int 0, .int 0, .int 0, .int 0, .int 0, .int 0]))] s.heap.size) (Or.inl ⟨0, _, rfl⟩)
  generalize hAe : va_A [(h0, .inr (3, [.int 0, .int 0, .int 0, .int 0, .int 0, .int 0, .int 0]))] s.heap.size = A at hD ⊢
  have hA : ∀ q : Nat, s.heap.size ≤ q → A q := fun q h => by rw [← hAe]; exact Or.inr h
  have hS : va_S A s.heap s.heap [] := va_S.rf
  have hl := lv_entry ([.ref h0]) (n := 1) (Nat.le_of_ble_eq_true rfl)
  rw [lg_entry_eq]
  generalize (lg_sl ([.ref h0]) ++ List.replicate (1 - (lg_sl ([.ref h0])).length) Slot.unset).toArray = ls at hl ⊢
  have hl : lv_has ls 1 [(0, .ref h0)] := hl
  refine lv_aload_n hx hb dX3_init_0 rfl (lv_at hl 0 rfl) ?_
  refine W.objInit hx hb hown (hw _ uw83) (hw _ uw10) (hw _ uw11) rfl (by rw [hml]; exact hl.1) rfl dX3_init_1 (Nat.le_of_ble_eq_true rfl) (Nat.le_of_ble_eq_true rfl) ?_
  refine W.eq (g2 := F0 m 4 ls []) rfl ?_
  have WW : wl D cI cS ((h0, .inr (3, [.int 0, .int 0, .int 0, .int 0, .int 0, .int 0, .int 0])) :: []) [3] hz := wl.nil.cons (v := hz) (vT := hz) (fun _ _ => rfl) (Or.inl rfl)
  exact W.vret hx hb hr (fun t ht hW => ⟨⟨((h0, .inr (3, [.int 0, .int 0, .int 0, .int 0, .int 0, .int 0, .int 0])) :: []), rfl, ⟨WW, rfl⟩, by rw [ht]; exact hP, hD⟩, hS.F ht⟩) hS.2.2 dX3_init_4 hlocks
