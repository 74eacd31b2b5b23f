def hv0 : Nat → Int32 := fun j => match j with
  | 5 => -1
  | 7 => 1
  | 8 => 7
  | _ => 0
def hvS : gV := fun k => match k with
  | 0 => hv0
  | _ + 1 => fun _ => 0
theorem hvS_if (k : Nat) : hvS k = if k = 0 then hv0 else fun _ => 0 := by cases k with | zero => rfl | succ k => rfl
theorem ln_st : gh_st.length = 33 := rfl
abbrev wc_X5_init : List Cond := Cond.code yX5_init cX5_init 1 none :: wsL_law
abbrev r_X5_init : Room := { frames := 3, cells := 32, slots := 268, locals := 61 }
set_option maxHeartbeats 8000000 in
set_option maxRecDepth 100000 in
theorem cc_X5_init (l : Launch) (D : va_G) (cI cS : ClassId) (h0 sz : Nat) : Met l yX5_init wc_X5_init r_X5_init (va_Pc [.ref h0] (hB D cI cS (h0, .inr (5, [.null, .null, .null, .null, .int 0, .int 0, .int 0, .int 0, .int 0])) sz)) (va_Qv (fun L : va_W => wl D cI cS L gh_st hvS ∧ adL L 0 = h0) (fun L t => va_P D vwCl L t.heap ∧ va_D (va_A [(h0, .inr (5, [.null, .null, .null, .null, .int 0, .int 0, .int 0, .int 0, .int 0]))] sz) L) (va_A [(h0, .inr (5, [.null, .null, .null, .null, .int 0, .int 0, .int 0, .int 0, .int 0]))] sz)) 32 268 (va_A [(h0, .inr (5, [.null, .null, .null, .null, .int 0, .int 0, .int 0, .int 0, .int 0]))] sz) := by
  refine Met.ofW (cc := cX5_init) (maxL := 1) (ret := none) (by decide) rfl ?_
  intro p e s m args below meth c s₁ B hml hv
  obtain ⟨rfl, hsz, hP, hKK⟩ := hv
  have hx := B.exec
  have hb := B.bytes
  have hr := B.returns
  have hw := gh_hw (atoms_spec (ws := wc_X5_init) B.pre)
  have hown : s.vm.findClass RX5 = some m.cls := findClass_of_methodNamed B.named
  have hlocks := B.notSynchronized
  have hin : meth.name = "<init>" := (name_of_methodNamed B.named B.method).1
  have hK := hKK.1
  subst hsz
  have hD : va_D (va_A [(h0, .inr (5, [.null, .null, .null, .null, .int 0, .int 0, .int 0, .int 0, .int 0]))] s.heap.size) [(h0, .inr (5, [.null, .null, .null, .null, .int 0, .int 0, .int 0, .int 0, .int 0]))] := hx_one (A := va_A [(h0, .inr (5, [.null, .null, .null, .null, .int 0, .int 0, .int 0, .int 0, .int 0]))] s.heap.size) (Or.inl ⟨0, _, rfl⟩)
  generalize hAe : va_A [(h0, .inr (5, [.null, .null, .null, .null, .int 0, .int 0, .int 0, .int 0, .int 0]))] s.heap.size = A at hD ⊢
  have hA : ∀ q : Nat, s.heap.size ≤ q → A q := fun q h => by rw [← hAe]; exact Or.inr h
  have hS : va_S A s.heap s.heap [] := va_S.rf
  have hl := lv_entry ([.ref h0]) (n := 1) (Nat.le_of_ble_eq_true rfl)
  rw [lg_entry_eq]
  generalize (lg_sl ([.ref h0]) ++ List.replicate (1 - (lg_sl ([.ref h0])).length) Slot.unset).toArray = ls at hl ⊢
  have hl : lv_has ls 1 [(0, .ref h0)] := hl
  refine lv_aload_n hx hb dX5_init_0 rfl (lv_at hl 0 rfl) ?_
  refine W.objInit hx hb hown (hw _ uw28) (hw _ uw10) (hw _ uw11) rfl (by rw [hml]; exact hl.1) rfl dX5_init_1 (Nat.le_of_ble_eq_true rfl) (Nat.le_of_ble_eq_true rfl) ?_
  refine W.eq (g2 := F0 m 4 ls []) rfl ?_
  refine lv_aload_n hx hb dX5_init_4 rfl (lv_at hl 0 rfl) ?_
  refine va_new (ci := 7) (fs := [.int 0, .null, .null, .null, .null]) (C := RX7) (T := TX7) (N := 5) hx hb hw inlX7 tyX7 tyX7_ok hown (hw _ uw29) (hw _ uw30) (hw _ uw31) hK hP hD hS hA rfl (fun j hj => by rcases (show j = 0 ∨ j = 1 ∨ j = 2 ∨ j = 3 ∨ j = 4 by omega) with rfl | rfl | rfl | rfl | rfl <;> rfl) (Nat.le_of_ble_eq_true rfl) (Nat.le_of_ble_eq_true rfl) dX5_init_5 (fun q1 H hP hD hS => ?_)
  refine W.widen (k := 1) (n := 5) (Nat.le_of_ble_eq_true rfl) (Nat.le_of_ble_eq_true rfl) ?_
  have hP : va_P D vwCl (((h0, .inr (5, [.null, .null, .null, .null, .int 0, .int 0, .int 0, .int 0, .int 0])) :: []) ++ [(q1, .inr (7, [.int 0, .null, .null, .null, .null]))]) H := hP
  have hD : va_D A (((h0, .inr (5, [.null, .null, .null, .null, .int 0, .int 0, .int 0, .int 0, .int 0])) :: []) ++ [(q1, .inr (7, [.int 0, .null, .null, .null, .null]))]) := hD
  refine lv_dup hx hb dX5_init_8 rfl ?_
  have hPc := hx_cut hP
  have hFc := hx_free hD hS hA
  refine va_callv (va_runIN (As := []) (rest := [.ref q1, .ref h0]) ⟨hx, hb, hml, hown, hw⟩ (cc_X7_init l D cI cS q1 H.size) ⟨va_cnB 0 hw (gh_g1 uw51) rfl rfl rfl (hKK.2.1.2.2.2.2.2.2.1) (hw _ uw31) (by decide +kernel) ⟨(Nat.le_of_ble_eq_true rfl), (Nat.le_of_ble_eq_true rfl)⟩, rfl, (hw _ uw50)⟩ (hx_pre hPc hKK) rfl rfl hl.1 rfl (lv_room (Nat.le_of_ble_eq_true rfl)) dX5_init_9 ⟨(Nat.le_of_ble_eq_true rfl), (Nat.le_of_ble_eq_true rfl)⟩) hS (fun q _ h => hFc q h) hFc (fun R1 t H1 locs ht _ wR1 hB1 _ hk1 hS => ?_)
  obtain ⟨hP1, hD1⟩ := hB1
  rw [ht] at hP1
  obtain ⟨hP, hD⟩ := hx_join hP hD hk1 hFc hP1 hD1
  clear hPc hFc hk1 hP1 hD1
  generalize H1 = H at hP hS ⊢
  have hP : va_P D vwCl ((h0, .inr (5, [.null, .null, .null, .null, .int 0, .int 0, .int 0, .int 0, .int 0])) :: R1) H := hP
  have hD : va_D A ((h0, .inr (5, [.null, .null, .null, .null, .int 0, .int 0, .int 0, .int 0, .int 0])) :: R1) := hD
  refine W.widen (k := 9) (n := 185) (Nat.le_of_ble_eq_true rfl) (Nat.le_of_ble_eq_true rfl) ?_
  refine va_putF (D := D) (ci := 5) (v := .ref q1) (ty := .object "GuessingHall$Words") (C := RX5) (T := TX5) (N := 9) hx hb hw inlX5 tyX5 tyX5_ok nmX5 hown hK hP hD hS 0 rfl rfl 0 (by decide) (hw _ uw32) (fun _ h9 => h9) rfl hin rfl (by decide +kernel) rfl rfl (Nat.le_of_ble_eq_true rfl) dX5_init_12 (fun H locs hP hD hS => ?_)
  have hP : va_P D vwCl ((h0, .inr (5, [.ref q1, .null, .null, .null, .int 0, .int 0, .int 0, .int 0, .int 0])) :: R1) H := hP
  have hD : va_D A ((h0, .inr (5, [.ref q1, .null, .null, .null, .int 0, .int 0, .int 0, .int 0, .int 0])) :: R1) := hD
  refine lv_aload_n hx hb dX5_init_15 rfl (lv_at hl 0 rfl) ?_
  refine va_new (ci := 0) (fs := [.int 0, .null, .null, .null, .null, .null, .null]) (C := RX0) (T := TX0) (N := 7) hx hb hw inlX0 tyX0 tyX0_ok hown (hw _ uw33) (hw _ uw34) (hw _ uw35) hK hP hD hS hA rfl (fun j hj => by rcases (show j = 0 ∨ j = 1 ∨ j = 2 ∨ j = 3 ∨ j = 4 ∨ j = 5 ∨ j = 6 by omega) with rfl | rfl | rfl | rfl | rfl | rfl | rfl <;> rfl) (Nat.le_of_ble_eq_true rfl) (Nat.le_of_ble_eq_true rfl) dX5_init_16 (fun q2 H hP hD hS => ?_)
  refine W.widen (k := 10) (n := 192) (Nat.le_of_ble_eq_true rfl) (Nat.le_of_ble_eq_true rfl) ?_
  have hP : va_P D vwCl (((h0, .inr (5, [.ref q1, .null, .null, .null, .int 0, .int 0, .int 0, .int 0, .int 0])) :: R1) ++ [(q2, .inr (0, [.int 0, .null, .null, .null, .null, .null, .null]))]) H := hP
  have hD : va_D A (((h0, .inr (5, [.ref q1, .null, .null, .null, .int 0, .int 0, .int 0, .int 0, .int 0])) :: R1) ++ [(q2, .inr (0, [.int 0, .null, .null, .null, .null, .null, .null]))]) := hD
  refine lv_dup hx hb dX5_init_19 rfl ?_
  have hPc := hx_cut hP
  have hFc := hx_free hD hS hA
  refine va_callv (va_runIN (As := []) (rest := [.ref q2, .ref h0]) ⟨hx, hb, hml, hown, hw⟩ (cc_X0_init l D cI cS q2 H.size) ⟨va_cnB 0 hw (gh_g1 uw71) rfl rfl rfl (hKK.2.1.2.2.2.2.2.2.2.1) (hw _ uw35) (by decide +kernel) ⟨(Nat.le_of_ble_eq_true rfl), (Nat.le_of_ble_eq_true rfl)⟩, rfl, (hw _ uw70)⟩ (hx_pre hPc hKK) rfl rfl hl.1 rfl (lv_room (Nat.le_of_ble_eq_true rfl)) dX5_init_20 ⟨(Nat.le_of_ble_eq_true rfl), (Nat.le_of_ble_eq_true rfl)⟩) hS (fun q _ h => hFc q h) hFc (fun R2 t H1 locs ht _ wR2 hB1 _ hk1 hS => ?_)
  obtain ⟨hP1, hD1⟩ := hB1
  rw [ht] at hP1
  obtain ⟨hP, hD⟩ := hx_join hP hD hk1 hFc hP1 hD1
  clear hPc hFc hk1 hP1 hD1
  generalize H1 = H at hP hS ⊢
  have hP : va_P D vwCl ((h0, .inr (5, [.ref q1, .null, .null, .null, .int 0, .int 0, .int 0, .int 0, .int 0])) :: (R1 ++ R2)) H := hP
  have hD : va_D A ((h0, .inr (5, [.ref q1, .null, .null, .null, .int 0, .int 0, .int 0, .int 0, .int 0])) :: (R1 ++ R2)) := hD
  refine W.widen (k := 22) (n := 228) (Nat.le_of_ble_eq_true rfl) (Nat.le_of_ble_eq_true rfl) ?_
  refine va_putF (D := D) (ci := 5) (v := .ref q2) (ty := .object "GuessingHall$Bench") (C := RX5) (T := TX5) (N := 9) hx hb hw inlX5 tyX5 tyX5_ok nmX5 hown hK hP hD hS 0 rfl rfl 1 (by decide) (hw _ uw36) (fun _ h9 => h9) rfl hin rfl (by decide +kernel) rfl rfl (Nat.le_of_ble_eq_true rfl) dX5_init_23 (fun H locs hP hD hS => ?_)
  have hP : va_P D vwCl ((h0, .inr (5, [.ref q1, .ref q2, .null, .null, .int 0, .int 0, .int 0, .int 0, .int 0])) :: (R1 ++ R2)) H := hP
  have hD : va_D A ((h0, .inr (5, [.ref q1, .ref q2, .null, .null, .int 0, .int 0, .int 0, .int 0, .int 0])) :: (R1 ++ R2)) := hD
  refine lv_aload_n hx hb dX5_init_26 rfl (lv_at hl 0 rfl) ?_
  refine va_new (ci := 3) (fs := [.int 0, .int 0, .int 0, .int 0, .int 0, .int 0, .int 0]) (C := RX3) (T := TX3) (N := 7) hx hb hw inlX3 tyX3 tyX3_ok hown (hw _ uw37) (hw _ uw38) (hw _ uw39) hK hP hD hS hA rfl (fun j hj => by rcases (show j = 0 ∨ j = 1 ∨ j = 2 ∨ j = 3 ∨ j = 4 ∨ j = 5 ∨ j = 6 by omega) with rfl | rfl | rfl | rfl | rfl | rfl | rfl <;> rfl) (Nat.le_of_ble_eq_true rfl) (Nat.le_of_ble_eq_true rfl) dX5_init_27 (fun q3 H hP hD hS => ?_)
  refine W.widen (k := 23) (n := 235) (Nat.le_of_ble_eq_true rfl) (Nat.le_of_ble_eq_true rfl) ?_
  have hP : va_P D vwCl (((h0, .inr (5, [.ref q1, .ref q2, .null, .null, .int 0, .int 0, .int 0, .int 0, .int 0])) :: (R1 ++ R2)) ++ [(q3, .inr (3, [.int 0, .int 0, .int 0, .int 0, .int 0, .int 0, .int 0]))]) H := hP
  have hD : va_D A (((h0, .inr (5, [.ref q1, .ref q2, .null, .null, .int 0, .int 0, .int 0, .int 0, .int 0])) :: (R1 ++ R2)) ++ [(q3, .inr (3, [.int 0, .int 0, .int 0, .int 0, .int 0, .int 0, .int 0]))]) := hD
  refine lv_dup hx hb dX5_init_30 rfl ?_
  have hPc := hx_cut hP
  have hFc := hx_free hD hS hA
  refine va_callv (va_runIN (As := []) (rest := [.ref q3, .ref h0]) ⟨hx, hb, hml, hown, hw⟩ (cc_X3_init l D cI cS q3 H.size) ⟨va_cnB 0 hw (gh_g1 uw82) rfl rfl rfl (hKK.2.1.2.2.2.2.2.2.2.2.1) (hw _ uw39) (by decide +kernel) ⟨(Nat.le_of_ble_eq_true rfl), (Nat.le_of_ble_eq_true rfl)⟩, rfl, (hw _ uw81)⟩ (hx_pre hPc hKK) rfl rfl hl.1 rfl (lv_room (Nat.le_of_ble_eq_true rfl)) dX5_init_31 ⟨(Nat.le_of_ble_eq_true rfl), (Nat.le_of_ble_eq_true rfl)⟩) hS (fun q _ h => hFc q h) hFc (fun R3 t H1 locs ht _ wR3 hB1 _ hk1 hS => ?_)
  obtain ⟨hP1, hD1⟩ := hB1
  rw [ht] at hP1
  obtain ⟨hP, hD⟩ := hx_join hP hD hk1 hFc hP1 hD1
  clear hPc hFc hk1 hP1 hD1
  generalize H1 = H at hP hS ⊢
  have hP : va_P D vwCl ((h0, .inr (5, [.ref q1, .ref q2, .null, .null, .int 0, .int 0, .int 0, .int 0, .int 0])) :: ((R1 ++ R2) ++ R3)) H := hP
  have hD : va_D A ((h0, .inr (5, [.ref q1, .ref q2, .null, .null, .int 0, .int 0, .int 0, .int 0, .int 0])) :: ((R1 ++ R2) ++ R3)) := hD
  refine W.widen (k := 23) (n := 235) (Nat.le_of_ble_eq_true rfl) (Nat.le_of_ble_eq_true rfl) ?_
  refine va_putF (D := D) (ci := 5) (v := .ref q3) (ty := .object "GuessingHall$Round") (C := RX5) (T := TX5) (N := 9) hx hb hw inlX5 tyX5 tyX5_ok nmX5 hown hK hP hD hS 0 rfl rfl 2 (by decide) (hw _ uw40) (fun _ h9 => h9) rfl hin rfl (by decide +kernel) rfl rfl (Nat.le_of_ble_eq_true rfl) dX5_init_34 (fun H locs hP hD hS => ?_)
  have hP : va_P D vwCl ((h0, .inr (5, [.ref q1, .ref q2, .ref q3, .null, .int 0, .int 0, .int 0, .int 0, .int 0])) :: ((R1 ++ R2) ++ R3)) H := hP
  have hD : va_D A ((h0, .inr (5, [.ref q1, .ref q2, .ref q3, .null, .int 0, .int 0, .int 0, .int 0, .int 0])) :: ((R1 ++ R2) ++ R3)) := hD
  refine lv_aload_n hx hb dX5_init_37 rfl (lv_at hl 0 rfl) ?_
  refine va_new (ci := 2) (fs := [.int 0, .null, .null, .null, .null]) (C := RX2) (T := TX2) (N := 5) hx hb hw inlX2 tyX2 tyX2_ok hown (hw _ uw41) (hw _ uw42) (hw _ uw43) hK hP hD hS hA rfl (fun j hj => by rcases (show j = 0 ∨ j = 1 ∨ j = 2 ∨ j = 3 ∨ j = 4 by omega) with rfl | rfl | rfl | rfl | rfl <;> rfl) (Nat.le_of_ble_eq_true rfl) (Nat.le_of_ble_eq_true rfl) dX5_init_38 (fun q4 H hP hD hS => ?_)
  refine W.widen (k := 24) (n := 240) (Nat.le_of_ble_eq_true rfl) (Nat.le_of_ble_eq_true rfl) ?_
  have hP : va_P D vwCl (((h0, .inr (5, [.ref q1, .ref q2, .ref q3, .null, .int 0, .int 0, .int 0, .int 0, .int 0])) :: ((R1 ++ R2) ++ R3)) ++ [(q4, .inr (2, [.int 0, .null, .null, .null, .null]))]) H := hP
  have hD : va_D A (((h0, .inr (5, [.ref q1, .ref q2, .ref q3, .null, .int 0, .int 0, .int 0, .int 0, .int 0])) :: ((R1 ++ R2) ++ R3)) ++ [(q4, .inr (2, [.int 0, .null, .null, .null, .null]))]) := hD
  refine lv_dup hx hb dX5_init_41 rfl ?_
  have hPc := hx_cut hP
  have hFc := hx_free hD hS hA
  refine va_callv (va_runIN (As := []) (rest := [.ref q4, .ref h0]) ⟨hx, hb, hml, hown, hw⟩ (cc_X2_init l D cI cS q4 H.size) ⟨va_cnB 0 hw (gh_g1 uw85) rfl rfl rfl (hKK.2.1.2.2.2.2.2.2.2.2.2.1) (hw _ uw43) (by decide +kernel) ⟨(Nat.le_of_ble_eq_true rfl), (Nat.le_of_ble_eq_true rfl)⟩, rfl, (hw _ uw84)⟩ (hx_pre hPc hKK) rfl rfl hl.1 rfl (lv_room (Nat.le_of_ble_eq_true rfl)) dX5_init_42 ⟨(Nat.le_of_ble_eq_true rfl), (Nat.le_of_ble_eq_true rfl)⟩) hS (fun q _ h => hFc q h) hFc (fun R4 t H1 locs ht _ wR4 hB1 _ hk1 hS => ?_)
  obtain ⟨hP1, hD1⟩ := hB1
  rw [ht] at hP1
  obtain ⟨hP, hD⟩ := hx_join hP hD hk1 hFc hP1 hD1
  clear hPc hFc hk1 hP1 hD1
  generalize H1 = H at hP hS ⊢
  have hP : va_P D vwCl ((h0, .inr (5, [.ref q1, .ref q2, .ref q3, .null, .int 0, .int 0, .int 0, .int 0, .int 0])) :: (((R1 ++ R2) ++ R3) ++ R4)) H := hP
  have hD : va_D A ((h0, .inr (5, [.ref q1, .ref q2, .ref q3, .null, .int 0, .int 0, .int 0, .int 0, .int 0])) :: (((R1 ++ R2) ++ R3) ++ R4)) := hD
  refine W.widen (k := 32) (n := 268) (Nat.le_of_ble_eq_true rfl) (Nat.le_of_ble_eq_true rfl) ?_
  refine va_putF (D := D) (ci := 5) (v := .ref q4) (ty := .object "GuessingHall$PastRounds") (C := RX5) (T := TX5) (N := 9) hx hb hw inlX5 tyX5 tyX5_ok nmX5 hown hK hP hD hS 0 rfl rfl 3 (by decide) (hw _ uw44) (fun _ h9 => h9) rfl hin rfl (by decide +kernel) rfl rfl (Nat.le_of_ble_eq_true rfl) dX5_init_45 (fun H locs hP hD hS => ?_)
  have hP : va_P D vwCl ((h0, .inr (5, [.ref q1, .ref q2, .ref q3, .ref q4, .int 0, .int 0, .int 0, .int 0, .int 0])) :: (((R1 ++ R2) ++ R3) ++ R4)) H := hP
  have hD : va_D A ((h0, .inr (5, [.ref q1, .ref q2, .ref q3, .ref q4, .int 0, .int 0, .int 0, .int 0, .int 0])) :: (((R1 ++ R2) ++ R3) ++ R4)) := hD
  refine lv_aload_n hx hb dX5_init_48 rfl (lv_at hl 0 rfl) ?_
  refine lv_iconst (v := 0) hx hb dX5_init_49 (by decide) ?_
  refine va_put (D := D) (ci := 5) (v := .int 0) (ty := .int) (C := RX5) (T := TX5) (N := 9) hx hb hw inlX5 tyX5 tyX5_ok nmX5 hown hK hP hD hS 0 rfl rfl 4 (by decide) (hw _ uw45) (fun _ h9 => h9) rfl (by decide +kernel) rfl rfl (Nat.le_of_ble_eq_true rfl) dX5_init_50 (fun H locs hP hD hS => ?_)
  have hP : va_P D vwCl ((h0, .inr (5, [.ref q1, .ref q2, .ref q3, .ref q4, .int 0, .int 0, .int 0, .int 0, .int 0])) :: (((R1 ++ R2) ++ R3) ++ R4)) H := hP
  have hD : va_D A ((h0, .inr (5, [.ref q1, .ref q2, .ref q3, .ref q4, .int 0, .int 0, .int 0, .int 0, .int 0])) :: (((R1 ++ R2) ++ R3) ++ R4)) := hD
  refine lv_aload_n hx hb dX5_init_53 rfl (lv_at hl 0 rfl) ?_
  refine lv_iconst (v := (-1)) hx hb dX5_init_54 (by decide) ?_
  refine va_put (D := D) (ci := 5) (v := .int (-1)) (ty := .int) (C := RX5) (T := TX5) (N := 9) hx hb hw inlX5 tyX5 tyX5_ok nmX5 hown hK hP hD hS 0 rfl rfl 5 (by decide) (hw _ uw46) (fun _ h9 => h9) rfl (by decide +kernel) rfl rfl (Nat.le_of_ble_eq_true rfl) dX5_init_55 (fun H locs hP hD hS => ?_)
  have hP : va_P D vwCl ((h0, .inr (5, [.ref q1, .ref q2, .ref q3, .ref q4, .int 0, .int (-1), .int 0, .int 0, .int 0])) :: (((R1 ++ R2) ++ R3) ++ R4)) H := hP
  have hD : va_D A ((h0, .inr (5, [.ref q1, .ref q2, .ref q3, .ref q4, .int 0, .int (-1), .int 0, .int 0, .int 0])) :: (((R1 ++ R2) ++ R3) ++ R4)) := hD
  refine lv_aload_n hx hb dX5_init_58 rfl (lv_at hl 0 rfl) ?_
  refine lv_iconst (v := 0) hx hb dX5_init_59 (by decide) ?_
  refine va_put (D := D) (ci := 5) (v := .int 0) (ty := .int) (C := RX5) (T := TX5) (N := 9) hx hb hw inlX5 tyX5 tyX5_ok nmX5 hown hK hP hD hS 0 rfl rfl 6 (by decide) (hw _ uw47) (fun _ h9 => h9) rfl (by decide +kernel) rfl rfl (Nat.le_of_ble_eq_true rfl) dX5_init_60 (fun H locs hP hD hS => ?_)
  have hP : va_P D vwCl ((h0, .inr (5, [.ref q1, .ref q2, .ref q3, .ref q4, .int 0, .int (-1), .int 0, .int 0, .int 0])) :: (((R1 ++ R2) ++ R3) ++ R4)) H := hP
  have hD : va_D A ((h0, .inr (5, [.ref q1, .ref q2, .ref q3, .ref q4, .int 0, .int (-1), .int 0, .int 0, .int 0])) :: (((R1 ++ R2) ++ R3) ++ R4)) := hD
  refine lv_aload_n hx hb dX5_init_63 rfl (lv_at hl 0 rfl) ?_
  refine lv_iconst (v := 1) hx hb dX5_init_64 (by decide) ?_
  refine va_put (D := D) (ci := 5) (v := .int 1) (ty := .int) (C := RX5) (T := TX5) (N := 9) hx hb hw inlX5 tyX5 tyX5_ok nmX5 hown hK hP hD hS 0 rfl rfl 7 (by decide) (hw _ uw48) (fun _ h9 => h9) rfl (by decide +kernel) rfl rfl (Nat.le_of_ble_eq_true rfl) dX5_init_65 (fun H locs hP hD hS => ?_)
  have hP : va_P D vwCl ((h0, .inr (5, [.ref q1, .ref q2, .ref q3, .ref q4, .int 0, .int (-1), .int 0, .int 1, .int 0])) :: (((R1 ++ R2) ++ R3) ++ R4)) H := hP
  have hD : va_D A ((h0, .inr (5, [.ref q1, .ref q2, .ref q3, .ref q4, .int 0, .int (-1), .int 0, .int 1, .int 0])) :: (((R1 ++ R2) ++ R3) ++ R4)) := hD
  refine lv_aload_n hx hb dX5_init_68 rfl (lv_at hl 0 rfl) ?_
  refine lv_bipush (v := 7) hx hb dX5_init_69 (by decide) ?_
  refine va_put (D := D) (ci := 5) (v := .int 7) (ty := .int) (C := RX5) (T := TX5) (N := 9) hx hb hw inlX5 tyX5 tyX5_ok nmX5 hown hK hP hD hS 0 rfl rfl 8 (by decide) (hw _ uw49) (fun _ h9 => h9) rfl (by decide +kernel) rfl rfl (Nat.le_of_ble_eq_true rfl) dX5_init_71 (fun H locs hP hD hS => ?_)
  have hP : va_P D vwCl ((h0, .inr (5, [.ref q1, .ref q2, .ref q3, .ref q4, .int 0, .int (-1), .int 0, .int 1, .int 7])) :: (((R1 ++ R2) ++ R3) ++ R4)) H := hP
  have hD : va_D A ((h0, .inr (5, [.ref q1, .ref q2, .ref q3, .ref q4, .int 0, .int (-1), .int 0, .int 1, .int 7])) :: (((R1 ++ R2) ++ R3) ++ R4)) := hD
  obtain ⟨wR1, aR1⟩ := wR1
  have nR1 : R1.length = 9 := wR1.1
  obtain ⟨wR2, aR2⟩ := wR2
  have nR2 : R2.length = 13 := wR2.1
  obtain ⟨wR3, aR3⟩ := wR3
  have nR3 : R3.length = 1 := wR3.1
  obtain ⟨wR4, aR4⟩ := wR4
  have nR4 : R4.length = 9 := wR4.1
  have W0 := wR1
  have W1 := W0.app wR2 (by decide +kernel) (v := hz) (fun _ _ => rfl) (fun _ _ => rfl)
  have W2 := W1.app wR3 (by decide +kernel) (v := hz) (fun _ _ => rfl) (fun _ _ => rfl)
  have W3 := W2.app wR4 (by decide +kernel) (v := hz) (fun _ _ => rfl) (fun _ _ => rfl)
  have bR1 : adL (((R1 ++ R2) ++ R3) ++ R4) 0 = q1 := by rw [adL_l (L1 := ((R1 ++ R2) ++ R3)) (L2 := R4) (k := 0) (by simp only [List.length_append, nR1, nR2, nR3, nR4]; omega), adL_l (L1 := (R1 ++ R2)) (L2 := R3) (k := 0) (by simp only [List.length_append, nR1, nR2, nR3, nR4]; omega), adL_l (L1 := R1) (L2 := R2) (k := 0) (by simp only [List.length_append, nR1, nR2, nR3, nR4]; omega)]; exact aR1
  have bR2 : adL (((R1 ++ R2) ++ R3) ++ R4) 9 = q2 := by rw [adL_l (L1 := ((R1 ++ R2) ++ R3)) (L2 := R4) (k := 9) (by simp only [List.length_append, nR1, nR2, nR3, nR4]; omega), adL_l (L1 := (R1 ++ R2)) (L2 := R3) (k := 9) (by simp only [List.length_append, nR1, nR2, nR3, nR4]; omega), (adL_r (k := 0) (n := 9) (L1 := R1) (L2 := R2) (by simp only [List.length_append, nR1, nR2, nR3, nR4]) : adL (R1 ++ R2) 9 = adL R2 0)]; exact aR2
  have bR3 : adL (((R1 ++ R2) ++ R3) ++ R4) 22 = q3 := by rw [adL_l (L1 := ((R1 ++ R2) ++ R3)) (L2 := R4) (k := 22) (by simp only [List.length_append, nR1, nR2, nR3, nR4]; omega), (adL_r (k := 0) (n := 22) (L1 := (R1 ++ R2)) (L2 := R3) (by simp only [List.length_append, nR1, nR2, nR3, nR4]) : adL ((R1 ++ R2) ++ R3) 22 = adL R3 0)]; exact aR3
  have bR4 : adL (((R1 ++ R2) ++ R3) ++ R4) 23 = q4 := by rw [(adL_r (k := 0) (n := 23) (L1 := ((R1 ++ R2) ++ R3)) (L2 := R4) (by simp only [List.length_append, nR1, nR2, nR3, nR4]) : adL (((R1 ++ R2) ++ R3) ++ R4) 23 = adL R4 0)]; exact aR4
  have WW : wl D cI cS ((h0, .inr (5, [.ref q1, .ref q2, .ref q3, .ref q4, .int 0, .int (-1), .int 0, .int 1, .int 7])) :: (((R1 ++ R2) ++ R3) ++ R4)) gh_st hvS := W3.cons (v := hvS) (fun _ _ => rfl) (Or.inl (by
    show (.inr (5, [.ref q1, .ref q2, .ref q3, .ref q4, .int 0, .int (-1), .int 0, .int 1, .int 7]) : va_E) = .inr (5, [.ref (adL (((R1 ++ R2) ++ R3) ++ R4) 0), .ref (adL (((R1 ++ R2) ++ R3) ++ R4) 9), .ref (adL (((R1 ++ R2) ++ R3) ++ R4) 22), .ref (adL (((R1 ++ R2) ++ R3) ++ R4) 23), .int 0, .int (-1), .int 0, .int 1, .int 7])
    rw [bR1, bR2, bR3, bR4]))
  exact W.vret hx hb hr (fun t ht hW => ⟨⟨((h0, .inr (5, [.ref q1, .ref q2, .ref q3, .ref q4, .int 0, .int (-1), .int 0, .int 1, .int 7])) :: (((R1 ++ R2) ++ R3) ++ R4)), rfl, ⟨WW, rfl⟩, by rw [ht]; exact hP, hD⟩, hS.F ht⟩) hS.2.2 dX5_init_74 hlocks
theorem wl.root {D : va_G} {cI cS : ClassId} {L : va_W} {kd : List Nat} {v : gV} (h : wl D cI cS L (5 :: kd) v) : ∃ vs, L[0]? = some (adL L 0, .inr (5, vs)) := by
  obtain ⟨e, h1, h2⟩ := h.2 0 (Nat.zero_lt_succ _)
  rcases h2 with rfl | ⟨_, _, _, _, h3, _⟩
  · exact ⟨_, h1⟩
  · cases h3
