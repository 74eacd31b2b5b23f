def hvT : gV := fun k => if k = 0 ∨ k = 33 ∨ k = 68 ∨ k = 101 ∨ k = 134 ∨ k = 167 then hv0 else fun _ => 0
def hvG : gV := fun k => if k = 1 ∨ k = 34 ∨ k = 69 ∨ k = 102 ∨ k = 135 ∨ k = 168 then hv0 else fun _ => 0
abbrev wc_X8_init : List Cond := Cond.code yX8_init cX8_init 1 none :: wsL_law
abbrev r_X8_init : Room := { frames := 5, cells := 212, slots := 1981, locals := 120 }
set_option maxHeartbeats 8000000 in
set_option maxRecDepth 100000 in
theorem cc_X8_init (l : Launch) (D : va_G) (cI cS : ClassId) (h0 sz : Nat) : Met l yX8_init wc_X8_init r_X8_init (va_Pc [.ref h0] (hB D cI cS (h0, .inr (8, [.null, .null, .null, .null, .int 0])) sz)) (va_Qv (fun L : va_W => wl D cI cS L (8 :: (((gh_st ++ gh_st) ++ (1 :: 10 :: (((gh_st ++ gh_st) ++ gh_st) ++ gh_st))) ++ [6, 7, 4, 27, 4, 27, 4, 27, 4, 139, 4, 131])) hvG ∧ adL L 0 = h0) (fun L t => va_P D vwCl L t.heap ∧ va_D (va_A [(h0, .inr (8, [.null, .null, .null, .null, .int 0]))] sz) L) (va_A [(h0, .inr (8, [.null, .null, .null, .null, .int 0]))] sz)) 212 1981 (va_A [(h0, .inr (8, [.null, .null, .null, .null, .int 0]))] sz) := by
  refine Met.ofW (cc := cX8_init) (maxL := 1) (ret := none) (by decide) rfl ?_
  intro p e s m args below meth c s₁ B hml hv
  obtain ⟨rfl, hsz, hP, hKK⟩ := hv
  have hx := B.exec
  have hb := B.bytes
  have hr := B.returns
  have hw := gh_hw (atoms_spec (ws := wc_X8_init) B.pre)
  have hown : s.vm.findClass RX8 = some m.cls := findClass_of_methodNamed B.named
  have hlocks := B.notSynchronized
  have hin : meth.name = "<init>" := (name_of_methodNamed B.named B.method).1
  have hK := hKK.1
  subst hsz
  have hD : va_D (va_A [(h0, .inr (8, [.null, .null, .null, .null, .int 0]))] s.heap.size) [(h0, .inr (8, [.null, .null, .null, .null, .int 0]))] := hx_one (A := va_A [(h0, .inr (8, [.null, .null, .null, .null, .int 0]))] s.heap.size) (Or.inl ⟨0, _, rfl⟩)
  generalize hAe : va_A [(h0, .inr (8, [.null, .null, .null, .null, .int 0]))] s.heap.size = A at hD ⊢
  have hA : ∀ q : Nat, s.heap.size ≤ q → A q := fun q h => by rw [← hAe]; exact Or.inr h
  have hS : va_S A s.heap s.heap [] := va_S.rf
  have hl := lv_entry ([.ref h0]) (n := 1) (Nat.le_of_ble_eq_true rfl)
  rw [lg_entry_eq]
  generalize (lg_sl ([.ref h0]) ++ List.replicate (1 - (lg_sl ([.ref h0])).length) Slot.unset).toArray = ls at hl ⊢
  have hl : lv_has ls 1 [(0, .ref h0)] := hl
  refine lv_aload_n hx hb dX8_init_0 rfl (lv_at hl 0 rfl) ?_
  refine W.objInit hx hb hown (hw _ uw9) (hw _ uw10) (hw _ uw11) rfl (by rw [hml]; exact hl.1) rfl dX8_init_1 (Nat.le_of_ble_eq_true rfl) (Nat.le_of_ble_eq_true rfl) ?_
  refine W.eq (g2 := F0 m 4 ls []) rfl ?_
  refine lv_aload_n hx hb dX8_init_4 rfl (lv_at hl 0 rfl) ?_
  refine va_new (ci := 5) (fs := [.null, .null, .null, .null, .int 0, .int 0, .int 0, .int 0, .int 0]) (C := RX5) (T := TX5) (N := 9) hx hb hw inlX5 tyX5 tyX5_ok hown (hw _ uw12) (hw _ uw13) (hw _ uw14) hK hP hD hS hA rfl (fun j hj => by rcases (show j = 0 ∨ j = 1 ∨ j = 2 ∨ j = 3 ∨ j = 4 ∨ j = 5 ∨ j = 6 ∨ j = 7 ∨ j = 8 by omega) with rfl | rfl | rfl | rfl | rfl | rfl | rfl | rfl | rfl <;> rfl) (Nat.le_of_ble_eq_true rfl) (Nat.le_of_ble_eq_true rfl) dX8_init_5 (fun q1 H hP hD hS => ?_)
  refine W.widen (k := 1) (n := 9) (Nat.le_of_ble_eq_true rfl) (Nat.le_of_ble_eq_true rfl) ?_
  have hP : va_P D vwCl (((h0, .inr (8, [.null, .null, .null, .null, .int 0])) :: []) ++ [(q1, .inr (5, [.null, .null, .null, .null, .int 0, .int 0, .int 0, .int 0, .int 0]))]) H := hP
  have hD : va_D A (((h0, .inr (8, [.null, .null, .null, .null, .int 0])) :: []) ++ [(q1, .inr (5, [.null, .null, .null, .null, .int 0, .int 0, .int 0, .int 0, .int 0]))]) := hD
  refine lv_dup hx hb dX8_init_8 rfl ?_
  have hPc := hx_cut hP
  have hFc := hx_free hD hS hA
  refine va_callv (va_runIN (As := []) (rest := [.ref q1, .ref h0]) ⟨hx, hb, hml, hown, hw⟩ (cc_X5_init l D cI cS q1 H.size) ⟨va_cnB 0 hw (gh_g1 uw27) rfl rfl rfl (hKK.2.1.2.2.2.2.2.1) (hw _ uw14) (by decide +kernel) ⟨(Nat.le_of_ble_eq_true rfl), (Nat.le_of_ble_eq_true rfl)⟩, rfl, (hw _ uw26)⟩ (hx_pre hPc hKK) rfl rfl hl.1 rfl (lv_room (Nat.le_of_ble_eq_true rfl)) dX8_init_9 ⟨(Nat.le_of_ble_eq_true rfl), (Nat.le_of_ble_eq_true rfl)⟩) hS (fun q _ h => hFc q h) hFc (fun R1 t H1 locs ht _ wR1 hB1 _ hk1 hS => ?_)
  obtain ⟨hP1, hD1⟩ := hB1
  rw [ht] at hP1
  obtain ⟨hP, hD⟩ := hx_join hP hD hk1 hFc hP1 hD1
  clear hPc hFc hk1 hP1 hD1
  generalize H1 = H at hP hS ⊢
  have hP : va_P D vwCl ((h0, .inr (8, [.null, .null, .null, .null, .int 0])) :: R1) H := hP
  have hD : va_D A ((h0, .inr (8, [.null, .null, .null, .null, .int 0])) :: R1) := hD
  refine W.widen (k := 33) (n := 277) (Nat.le_of_ble_eq_true rfl) (Nat.le_of_ble_eq_true rfl) ?_
  refine va_putF (D := D) (ci := 8) (v := .ref q1) (ty := .object "GuessingHall$State") (C := RX8) (T := TX8) (N := 5) hx hb hw inlX8 tyX8 tyX8_ok nmX8 hown hK hP hD hS 0 rfl rfl 0 (by decide) (hw _ uw15) (fun _ h9 => h9) rfl hin rfl (by decide +kernel) rfl rfl (Nat.le_of_ble_eq_true rfl) dX8_init_12 (fun H locs hP hD hS => ?_)
  have hP : va_P D vwCl ((h0, .inr (8, [.ref q1, .null, .null, .null, .int 0])) :: R1) H := hP
  have hD : va_D A ((h0, .inr (8, [.ref q1, .null, .null, .null, .int 0])) :: R1) := hD
  refine lv_aload_n hx hb dX8_init_15 rfl (lv_at hl 0 rfl) ?_
  refine va_new (ci := 5) (fs := [.null, .null, .null, .null, .int 0, .int 0, .int 0, .int 0, .int 0]) (C := RX5) (T := TX5) (N := 9) hx hb hw inlX5 tyX5 tyX5_ok hown (hw _ uw12) (hw _ uw13) (hw _ uw14) hK hP hD hS hA rfl (fun j hj => by rcases (show j = 0 ∨ j = 1 ∨ j = 2 ∨ j = 3 ∨ j = 4 ∨ j = 5 ∨ j = 6 ∨ j = 7 ∨ j = 8 by omega) with rfl | rfl | rfl | rfl | rfl | rfl | rfl | rfl | rfl <;> rfl) (Nat.le_of_ble_eq_true rfl) (Nat.le_of_ble_eq_true rfl) dX8_init_16 (fun q2 H hP hD hS => ?_)
  refine W.widen (k := 34) (n := 286) (Nat.le_of_ble_eq_true rfl) (Nat.le_of_ble_eq_true rfl) ?_
  have hP : va_P D vwCl (((h0, .inr (8, [.ref q1, .null, .null, .null, .int 0])) :: R1) ++ [(q2, .inr (5, [.null, .null, .null, .null, .int 0, .int 0, .int 0, .int 0, .int 0]))]) H := hP
  have hD : va_D A (((h0, .inr (8, [.ref q1, .null, .null, .null, .int 0])) :: R1) ++ [(q2, .inr (5, [.null, .null, .null, .null, .int 0, .int 0, .int 0, .int 0, .int 0]))]) := hD
  refine lv_dup hx hb dX8_init_19 rfl ?_
  have hPc := hx_cut hP
  have hFc := hx_free hD hS hA
  refine va_callv (va_runIN (As := []) (rest := [.ref q2, .ref h0]) ⟨hx, hb, hml, hown, hw⟩ (cc_X5_init l D cI cS q2 H.size) ⟨va_cnB 0 hw (gh_g1 uw27) rfl rfl rfl (hKK.2.1.2.2.2.2.2.1) (hw _ uw14) (by decide +kernel) ⟨(Nat.le_of_ble_eq_true rfl), (Nat.le_of_ble_eq_true rfl)⟩, rfl, (hw _ uw26)⟩ (hx_pre hPc hKK) rfl rfl hl.1 rfl (lv_room (Nat.le_of_ble_eq_true rfl)) dX8_init_20 ⟨(Nat.le_of_ble_eq_true rfl), (Nat.le_of_ble_eq_true rfl)⟩) hS (fun q _ h => hFc q h) hFc (fun R2 t H1 locs ht _ wR2 hB1 _ hk1 hS => ?_)
  obtain ⟨hP1, hD1⟩ := hB1
  rw [ht] at hP1
  obtain ⟨hP, hD⟩ := hx_join hP hD hk1 hFc hP1 hD1
  clear hPc hFc hk1 hP1 hD1
  generalize H1 = H at hP hS ⊢
  have hP : va_P D vwCl ((h0, .inr (8, [.ref q1, .null, .null, .null, .int 0])) :: (R1 ++ R2)) H := hP
  have hD : va_D A ((h0, .inr (8, [.ref q1, .null, .null, .null, .int 0])) :: (R1 ++ R2)) := hD
  refine W.widen (k := 66) (n := 554) (Nat.le_of_ble_eq_true rfl) (Nat.le_of_ble_eq_true rfl) ?_
  refine va_putF (D := D) (ci := 8) (v := .ref q2) (ty := .object "GuessingHall$State") (C := RX8) (T := TX8) (N := 5) hx hb hw inlX8 tyX8 tyX8_ok nmX8 hown hK hP hD hS 0 rfl rfl 1 (by decide) (hw _ uw16) (fun _ h9 => h9) rfl hin rfl (by decide +kernel) rfl rfl (Nat.le_of_ble_eq_true rfl) dX8_init_23 (fun H locs hP hD hS => ?_)
  have hP : va_P D vwCl ((h0, .inr (8, [.ref q1, .ref q2, .null, .null, .int 0])) :: (R1 ++ R2)) H := hP
  have hD : va_D A ((h0, .inr (8, [.ref q1, .ref q2, .null, .null, .int 0])) :: (R1 ++ R2)) := hD
  refine lv_aload_n hx hb dX8_init_26 rfl (lv_at hl 0 rfl) ?_
  refine va_new (ci := 1) (fs := [.int 0, .int 0, .null]) (C := RX1) (T := TX1) (N := 3) hx hb hw inlX1 tyX1 tyX1_ok hown (hw _ uw17) (hw _ uw18) (hw _ uw19) hK hP hD hS hA rfl (fun j hj => by rcases (show j = 0 ∨ j = 1 ∨ j = 2 by omega) with rfl | rfl | rfl <;> rfl) (Nat.le_of_ble_eq_true rfl) (Nat.le_of_ble_eq_true rfl) dX8_init_27 (fun q3 H hP hD hS => ?_)
  refine W.widen (k := 67) (n := 557) (Nat.le_of_ble_eq_true rfl) (Nat.le_of_ble_eq_true rfl) ?_
  have hP : va_P D vwCl (((h0, .inr (8, [.ref q1, .ref q2, .null, .null, .int 0])) :: (R1 ++ R2)) ++ [(q3, .inr (1, [.int 0, .int 0, .null]))]) H := hP
  have hD : va_D A (((h0, .inr (8, [.ref q1, .ref q2, .null, .null, .int 0])) :: (R1 ++ R2)) ++ [(q3, .inr (1, [.int 0, .int 0, .null]))]) := hD
  refine lv_dup hx hb dX8_init_30 rfl ?_
  have hPc := hx_cut hP
  have hFc := hx_free hD hS hA
  refine va_callv (va_runI (As := []) (rest := [.ref q3, .ref h0]) ⟨hx, hb, hml, hown, hw⟩ (cc_X1_init l D cI cS q3 H.size) (cwI 0 hw (gh_g1 uw95) rfl rfl rfl (hw _ uw19) (hw _ uw93) (hw _ uw94) rfl (by decide +kernel) ⟨(Nat.le_of_ble_eq_true rfl), (Nat.le_of_ble_eq_true rfl)⟩) (hx_pre hPc hKK) rfl rfl hl.1 rfl (lv_room (Nat.le_of_ble_eq_true rfl)) dX8_init_31 ⟨(Nat.le_of_ble_eq_true rfl), (Nat.le_of_ble_eq_true rfl)⟩) hS (fun q _ h => hFc q h) hFc (fun R3 t H1 locs ht _ wR3 hB1 _ hk1 hS => ?_)
  obtain ⟨hP1, hD1⟩ := hB1
  rw [ht] at hP1
  obtain ⟨hP, hD⟩ := hx_join hP hD hk1 hFc hP1 hD1
  clear hPc hFc hk1 hP1 hD1
  generalize H1 = H at hP hS ⊢
  have hP : va_P D vwCl ((h0, .inr (8, [.ref q1, .ref q2, .null, .null, .int 0])) :: ((R1 ++ R2) ++ R3)) H := hP
  have hD : va_D A ((h0, .inr (8, [.ref q1, .ref q2, .null, .null, .int 0])) :: ((R1 ++ R2) ++ R3)) := hD
  refine W.widen (k := 200) (n := 1669) (Nat.le_of_ble_eq_true rfl) (Nat.le_of_ble_eq_true rfl) ?_
  refine va_putF (D := D) (ci := 8) (v := .ref q3) (ty := .object "GuessingHall$History") (C := RX8) (T := TX8) (N := 5) hx hb hw inlX8 tyX8 tyX8_ok nmX8 hown hK hP hD hS 0 rfl rfl 2 (by decide) (hw _ uw20) (fun _ h9 => h9) rfl hin rfl (by decide +kernel) rfl rfl (Nat.le_of_ble_eq_true rfl) dX8_init_34 (fun H locs hP hD hS => ?_)
  have hP : va_P D vwCl ((h0, .inr (8, [.ref q1, .ref q2, .ref q3, .null, .int 0])) :: ((R1 ++ R2) ++ R3)) H := hP
  have hD : va_D A ((h0, .inr (8, [.ref q1, .ref q2, .ref q3, .null, .int 0])) :: ((R1 ++ R2) ++ R3)) := hD
  refine lv_aload_n hx hb dX8_init_37 rfl (lv_at hl 0 rfl) ?_
  refine va_new (ci := 6) (fs := [.int 0, .int 0, .int 0, .null, .null, .int 0]) (C := RX6) (T := TX6) (N := 6) hx hb hw inlX6 tyX6 tyX6_ok hown (hw _ uw21) (hw _ uw22) (hw _ uw23) hK hP hD hS hA rfl (fun j hj => by rcases (show j = 0 ∨ j = 1 ∨ j = 2 ∨ j = 3 ∨ j = 4 ∨ j = 5 by omega) with rfl | rfl | rfl | rfl | rfl | rfl <;> rfl) (Nat.le_of_ble_eq_true rfl) (Nat.le_of_ble_eq_true rfl) dX8_init_38 (fun q4 H hP hD hS => ?_)
  refine W.widen (k := 201) (n := 1675) (Nat.le_of_ble_eq_true rfl) (Nat.le_of_ble_eq_true rfl) ?_
  have hP : va_P D vwCl (((h0, .inr (8, [.ref q1, .ref q2, .ref q3, .null, .int 0])) :: ((R1 ++ R2) ++ R3)) ++ [(q4, .inr (6, [.int 0, .int 0, .int 0, .null, .null, .int 0]))]) H := hP
  have hD : va_D A (((h0, .inr (8, [.ref q1, .ref q2, .ref q3, .null, .int 0])) :: ((R1 ++ R2) ++ R3)) ++ [(q4, .inr (6, [.int 0, .int 0, .int 0, .null, .null, .int 0]))]) := hD
  refine lv_dup hx hb dX8_init_41 rfl ?_
  have hPc := hx_cut hP
  have hFc := hx_free hD hS hA
  refine va_callv (va_runIN (As := []) (rest := [.ref q4, .ref h0]) ⟨hx, hb, hml, hown, hw⟩ (cc_X6_init l D cI cS q4 H.size) ⟨va_cnB 0 hw (gh_g1 uw102) rfl rfl rfl (hKK.2.1.2.2.2.2.2.2.2.2.2.2.2.1) (hw _ uw23) (by decide +kernel) ⟨(Nat.le_of_ble_eq_true rfl), (Nat.le_of_ble_eq_true rfl)⟩, rfl, (hw _ uw101)⟩ (hx_pre hPc hKK) rfl rfl hl.1 rfl (lv_room (Nat.le_of_ble_eq_true rfl)) dX8_init_42 ⟨(Nat.le_of_ble_eq_true rfl), (Nat.le_of_ble_eq_true rfl)⟩) hS (fun q _ h => hFc q h) hFc (fun R4 t H1 locs ht _ wR4 hB1 _ hk1 hS => ?_)
  obtain ⟨hP1, hD1⟩ := hB1
  rw [ht] at hP1
  obtain ⟨hP, hD⟩ := hx_join hP hD hk1 hFc hP1 hD1
  clear hPc hFc hk1 hP1 hD1
  generalize H1 = H at hP hS ⊢
  have hP : va_P D vwCl ((h0, .inr (8, [.ref q1, .ref q2, .ref q3, .null, .int 0])) :: (((R1 ++ R2) ++ R3) ++ R4)) H := hP
  have hD : va_D A ((h0, .inr (8, [.ref q1, .ref q2, .ref q3, .null, .int 0])) :: (((R1 ++ R2) ++ R3) ++ R4)) := hD
  refine W.widen (k := 212) (n := 1981) (Nat.le_of_ble_eq_true rfl) (Nat.le_of_ble_eq_true rfl) ?_
  refine va_putF (D := D) (ci := 8) (v := .ref q4) (ty := .object "GuessingHall$Text") (C := RX8) (T := TX8) (N := 5) hx hb hw inlX8 tyX8 tyX8_ok nmX8 hown hK hP hD hS 0 rfl rfl 3 (by decide) (hw _ uw24) (fun _ h9 => h9) rfl hin rfl (by decide +kernel) rfl rfl (Nat.le_of_ble_eq_true rfl) dX8_init_45 (fun H locs hP hD hS => ?_)
  have hP : va_P D vwCl ((h0, .inr (8, [.ref q1, .ref q2, .ref q3, .ref q4, .int 0])) :: (((R1 ++ R2) ++ R3) ++ R4)) H := hP
  have hD : va_D A ((h0, .inr (8, [.ref q1, .ref q2, .ref q3, .ref q4, .int 0])) :: (((R1 ++ R2) ++ R3) ++ R4)) := hD
  refine lv_aload_n hx hb dX8_init_48 rfl (lv_at hl 0 rfl) ?_
  refine lv_iconst (v := 0) hx hb dX8_init_49 (by decide) ?_
  refine va_put (D := D) (ci := 8) (v := .int 0) (ty := .boolean) (C := RX8) (T := TX8) (N := 5) hx hb hw inlX8 tyX8 tyX8_ok nmX8 hown hK hP hD hS 0 rfl rfl 4 (by decide) (hw _ uw25) (fun _ h9 => h9) rfl (by decide +kernel) rfl rfl (Nat.le_of_ble_eq_true rfl) dX8_init_50 (fun H locs hP hD hS => ?_)
  have hP : va_P D vwCl ((h0, .inr (8, [.ref q1, .ref q2, .ref q3, .ref q4, .int 0])) :: (((R1 ++ R2) ++ R3) ++ R4)) H := hP
  have hD : va_D A ((h0, .inr (8, [.ref q1, .ref q2, .ref q3, .ref q4, .int 0])) :: (((R1 ++ R2) ++ R3) ++ R4)) := hD
  obtain ⟨wR1, aR1⟩ := wR1
  have nR1 : R1.length = 33 := wR1.1
  obtain ⟨wR2, aR2⟩ := wR2
  have nR2 : R2.length = 33 := wR2.1
  obtain ⟨wR3, aR3⟩ := wR3
  have nR3 : R3.length = 134 := wR3.1
  obtain ⟨wR4, aR4⟩ := wR4
  have nR4 : R4.length = 12 := wR4.1
  have W0 := wR1
  have W1 := W0.app wR2 (by decide +kernel) (v := hv2) (fun k hk => by have hk : k < 33 := hk; rw [hvS_if]; unfold hv2; split <;> (try split) <;> first | rfl | (exfalso; omega)) (fun k hk => by have hk : k < 33 := hk; show hv2 (33 + k) = _; rw [hvS_if]; unfold hv2; split <;> (try split) <;> first | rfl | (exfalso; omega))
  have W2 := W1.app wR3 (by decide +kernel) (v := hvT) (fun k hk => by have hk : k < 66 := hk; unfold hvT hv2; split <;> (try split) <;> first | rfl | (exfalso; omega)) (fun k hk => by have hk : k < 134 := hk; show hvT (66 + k) = _; unfold hvT hvH; split <;> (try split) <;> first | rfl | (exfalso; omega))
  have W3 := W2.app wR4 (by decide +kernel) (v := hvT) (fun _ _ => rfl) (fun k hk => by have hk : k < 12 := hk; show hvT (200 + k) = fun _ => 0; unfold hvT; split <;> first | rfl | (exfalso; omega))
  have bR1 : adL (((R1 ++ R2) ++ R3) ++ R4) 0 = q1 := by rw [adL_l (L1 := ((R1 ++ R2) ++ R3)) (L2 := R4) (k := 0) (by simp only [List.length_append, nR1, nR2, nR3, nR4]; omega), adL_l (L1 := (R1 ++ R2)) (L2 := R3) (k := 0) (by simp only [List.length_append, nR1, nR2, nR3, nR4]; omega), adL_l (L1 := R1) (L2 := R2) (k := 0) (by simp only [List.length_append, nR1, nR2, nR3, nR4]; omega)]; exact aR1
  have bR2 : adL (((R1 ++ R2) ++ R3) ++ R4) 33 = q2 := by rw [adL_l (L1 := ((R1 ++ R2) ++ R3)) (L2 := R4) (k := 33) (by simp only [List.length_append, nR1, nR2, nR3, nR4]; omega), adL_l (L1 := (R1 ++ R2)) (L2 := R3) (k := 33) (by simp only [List.length_append, nR1, nR2, nR3, nR4]; omega), (adL_r (k := 0) (n := 33) (L1 := R1) (L2 := R2) (by simp only [List.length_append, nR1, nR2, nR3, nR4]) : adL (R1 ++ R2) 33 = adL R2 0)]; exact aR2
  have bR3 : adL (((R1 ++ R2) ++ R3) ++ R4) 66 = q3 := by rw [adL_l (L1 := ((R1 ++ R2) ++ R3)) (L2 := R4) (k := 66) (by simp only [List.length_append, nR1, nR2, nR3, nR4]; omega), (adL_r (k := 0) (n := 66) (L1 := (R1 ++ R2)) (L2 := R3) (by simp only [List.length_append, nR1, nR2, nR3, nR4]) : adL ((R1 ++ R2) ++ R3) 66 = adL R3 0)]; exact aR3
  have bR4 : adL (((R1 ++ R2) ++ R3) ++ R4) 200 = q4 := by rw [(adL_r (k := 0) (n := 200) (L1 := ((R1 ++ R2) ++ R3)) (L2 := R4) (by simp only [List.length_append, nR1, nR2, nR3, nR4]) : adL (((R1 ++ R2) ++ R3) ++ R4) 200 = adL R4 0)]; exact aR4
  have WW : wl D cI cS ((h0, .inr (8, [.ref q1, .ref q2, .ref q3, .ref q4, .int 0])) :: (((R1 ++ R2) ++ R3) ++ R4)) (8 :: (((gh_st ++ gh_st) ++ (1 :: 10 :: (((gh_st ++ gh_st) ++ gh_st) ++ gh_st))) ++ [6, 7, 4, 27, 4, 27, 4, 27, 4, 139, 4, 131])) hvG := W3.cons (v := hvG) (fun k hk => by unfold hvG hvT; split <;> (try split) <;> first | rfl | (exfalso; omega)) (Or.inl (by
    show (.inr (8, [.ref q1, .ref q2, .ref q3, .ref q4, .int 0]) : va_E) = .inr (8, [.ref (adL (((R1 ++ R2) ++ R3) ++ R4) 0), .ref (adL (((R1 ++ R2) ++ R3) ++ R4) 33), .ref (adL (((R1 ++ R2) ++ R3) ++ R4) 66), .ref (adL (((R1 ++ R2) ++ R3) ++ R4) 200), .int 0])
    rw [bR1, bR2, bR3, bR4]))
  exact W.vret hx hb hr (fun t ht hW => ⟨⟨((h0, .inr (8, [.ref q1, .ref q2, .ref q3, .ref q4, .int 0])) :: (((R1 ++ R2) ++ R3) ++ R4)), rfl, ⟨WW, rfl⟩, by rw [ht]; exact hP, hD⟩, hS.F ht⟩) hS.2.2 dX8_init_53 hlocks
