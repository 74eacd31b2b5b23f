abbrev wc_X6_init : List Cond := Cond.code yX6_init cX6_init 1 none :: wsL_law
abbrev r_X6_init : Room := { frames := 3, cells := 11, slots := 306, locals := 61 }
set_option maxHeartbeats 8000000 in
set_option maxRecDepth 100000 in
theorem cc_X6_init (l : Launch) (D : va_G) (cI cS : ClassId) (h0 sz : Nat) : Met l yX6_init wc_X6_init r_X6_init (va_Pc [.ref h0] (hB D cI cS (h0, .inr (6, [.int 0, .int 0, .int 0, .null, .null, .int 0])) sz)) (va_Qv (fun L : va_W => wl D cI cS L [6, 7, 4, 27, 4, 27, 4, 27, 4, 139, 4, 131] hz ∧ adL L 0 = h0) (fun L t => va_P D vwCl L t.heap ∧ va_D (va_A [(h0, .inr (6, [.int 0, .int 0, .int 0, .null, .null, .int 0]))] sz) L) (va_A [(h0, .inr (6, [.int 0, .int 0, .int 0, .null, .null, .int 0]))] sz)) 11 306 (va_A [(h0, .inr (6, [.int 0, .int 0, .int 0, .null, .null, .int 0]))] sz) := by
  refine Met.ofW (cc := cX6_init) (maxL := 1) (ret := none) (by decide) rfl ?_
  intro p e s m args below meth c s₁ B hml hv
  obtain ⟨rfl, hsz, hP, hKK⟩ := hv
  have hx := B.exec
  have hb := B.bytes
  have hr := B.returns
  have hw := gh_hw (atoms_spec (ws := wc_X6_init) B.pre)
  have hown : s.vm.findClass RX6 = some m.cls := findClass_of_methodNamed B.named
  have hlocks := B.notSynchronized
  have hin : meth.name = "<init>" := (name_of_methodNamed B.named B.method).1
  have hK := hKK.1
  subst hsz
  have hD : va_D (va_A [(h0, .inr (6, [.int 0, .int 0, .int 0, .null, .null, .int 0]))] s.heap.size) [(h0, .inr (6, [.int 0, .int 0, .int 0, .null, .null, .int 0]))] := hx_one (A := va_A [(h0, .inr (6, [.int 0, .int 0, .int 0, .null, .null, .int 0]))] s.heap.size) (Or.inl ⟨0, _, rfl⟩)
  generalize hAe : va_A [(h0, .inr (6, [.int 0, .int 0, .int 0, .null, .null, .int 0]))] s.heap.size = A at hD ⊢
  have hA : ∀ q : Nat, s.heap.size ≤ q → A q := fun q h => by rw [← hAe]; exact Or.inr h
  have hS : va_S A s.heap s.heap [] := va_S.rf
  have hl := lv_entry ([.ref h0]) (n := 1) (Nat.le_of_ble_eq_true rfl)
  rw [lg_entry_eq]
  generalize (lg_sl ([.ref h0]) ++ List.replicate (1 - (lg_sl ([.ref h0])).length) Slot.unset).toArray = ls at hl ⊢
  have hl : lv_has ls 1 [(0, .ref h0)] := hl
  refine lv_aload_n hx hb dX6_init_0 rfl (lv_at hl 0 rfl) ?_
  refine W.objInit hx hb hown (hw _ uw103) (hw _ uw10) (hw _ uw11) rfl (by rw [hml]; exact hl.1) rfl dX6_init_1 (Nat.le_of_ble_eq_true rfl) (Nat.le_of_ble_eq_true rfl) ?_
  refine W.eq (g2 := F0 m 4 ls []) rfl ?_
  refine lv_aload_n hx hb dX6_init_4 rfl (lv_at hl 0 rfl) ?_
  refine lv_iconst (v := 0) hx hb dX6_init_5 (by decide) ?_
  refine va_put (D := D) (ci := 6) (v := .int 0) (ty := .int) (C := RX6) (T := TX6) (N := 6) hx hb hw inlX6 tyX6 tyX6_ok nmX6 hown hK hP hD hS 0 rfl rfl 0 (by decide) (hw _ uw104) (fun _ h9 => h9) rfl (by decide +kernel) rfl rfl (Nat.le_of_ble_eq_true rfl) dX6_init_6 (fun H locs hP hD hS => ?_)
  have hP : va_P D vwCl ((h0, .inr (6, [.int 0, .int 0, .int 0, .null, .null, .int 0])) :: []) H := hP
  have hD : va_D A ((h0, .inr (6, [.int 0, .int 0, .int 0, .null, .null, .int 0])) :: []) := hD
  refine lv_aload_n hx hb dX6_init_9 rfl (lv_at hl 0 rfl) ?_
  refine lv_iconst (v := 0) hx hb dX6_init_10 (by decide) ?_
  refine va_put (D := D) (ci := 6) (v := .int 0) (ty := .int) (C := RX6) (T := TX6) (N := 6) hx hb hw inlX6 tyX6 tyX6_ok nmX6 hown hK hP hD hS 0 rfl rfl 1 (by decide) (hw _ uw105) (fun _ h9 => h9) rfl (by decide +kernel) rfl rfl (Nat.le_of_ble_eq_true rfl) dX6_init_11 (fun H locs hP hD hS => ?_)
  have hP : va_P D vwCl ((h0, .inr (6, [.int 0, .int 0, .int 0, .null, .null, .int 0])) :: []) H := hP
  have hD : va_D A ((h0, .inr (6, [.int 0, .int 0, .int 0, .null, .null, .int 0])) :: []) := hD
  refine lv_aload_n hx hb dX6_init_14 rfl (lv_at hl 0 rfl) ?_
  refine lv_iconst (v := 0) hx hb dX6_init_15 (by decide) ?_
  refine va_put (D := D) (ci := 6) (v := .int 0) (ty := .int) (C := RX6) (T := TX6) (N := 6) hx hb hw inlX6 tyX6 tyX6_ok nmX6 hown hK hP hD hS 0 rfl rfl 2 (by decide) (hw _ uw106) (fun _ h9 => h9) rfl (by decide +kernel) rfl rfl (Nat.le_of_ble_eq_true rfl) dX6_init_16 (fun H locs hP hD hS => ?_)
  have hP : va_P D vwCl ((h0, .inr (6, [.int 0, .int 0, .int 0, .null, .null, .int 0])) :: []) H := hP
  have hD : va_D A ((h0, .inr (6, [.int 0, .int 0, .int 0, .null, .null, .int 0])) :: []) := hD
  refine lv_aload_n hx hb dX6_init_19 rfl (lv_at hl 0 rfl) ?_
  refine va_new (ci := 7) (fs := [.int 0, .null, .null, .null, .null]) (C := RX7) (T := TX7) (N := 5) hx hb hw inlX7 tyX7 tyX7_ok hown (hw _ uw107) (hw _ uw30) (hw _ uw31) hK hP hD hS hA rfl (fun j hj => by rcases (show j = 0 ∨ j = 1 ∨ j = 2 ∨ j = 3 ∨ j = 4 by omega) with rfl | rfl | rfl | rfl | rfl <;> rfl) (Nat.le_of_ble_eq_true rfl) (Nat.le_of_ble_eq_true rfl) dX6_init_20 (fun q1 H hP hD hS => ?_)
  refine W.widen (k := 1) (n := 5) (Nat.le_of_ble_eq_true rfl) (Nat.le_of_ble_eq_true rfl) ?_
  have hP : va_P D vwCl (((h0, .inr (6, [.int 0, .int 0, .int 0, .null, .null, .int 0])) :: []) ++ [(q1, .inr (7, [.int 0, .null, .null, .null, .null]))]) H := hP
  have hD : va_D A (((h0, .inr (6, [.int 0, .int 0, .int 0, .null, .null, .int 0])) :: []) ++ [(q1, .inr (7, [.int 0, .null, .null, .null, .null]))]) := hD
  refine lv_dup hx hb dX6_init_23 rfl ?_
  have hPc := hx_cut hP
  have hFc := hx_free hD hS hA
  refine va_callv (va_runIN (As := []) (rest := [.ref q1, .ref h0]) ⟨hx, hb, hml, hown, hw⟩ (cc_X7_init l D cI cS q1 H.size) ⟨va_cnB 0 hw (gh_g1 uw51) rfl rfl rfl (hKK.2.1.2.2.2.2.2.2.2.2.2.2.2.2) (hw _ uw31) (by decide +kernel) ⟨(Nat.le_of_ble_eq_true rfl), (Nat.le_of_ble_eq_true rfl)⟩, rfl, (hw _ uw50)⟩ (hx_pre hPc hKK) rfl rfl hl.1 rfl (lv_room (Nat.le_of_ble_eq_true rfl)) dX6_init_24 ⟨(Nat.le_of_ble_eq_true rfl), (Nat.le_of_ble_eq_true rfl)⟩) hS (fun q _ h => hFc q h) hFc (fun R1 t H1 locs ht _ wR1 hB1 _ hk1 hS => ?_)
  obtain ⟨hP1, hD1⟩ := hB1
  rw [ht] at hP1
  obtain ⟨hP, hD⟩ := hx_join hP hD hk1 hFc hP1 hD1
  clear hPc hFc hk1 hP1 hD1
  generalize H1 = H at hP hS ⊢
  have hP : va_P D vwCl ((h0, .inr (6, [.int 0, .int 0, .int 0, .null, .null, .int 0])) :: R1) H := hP
  have hD : va_D A ((h0, .inr (6, [.int 0, .int 0, .int 0, .null, .null, .int 0])) :: R1) := hD
  refine W.widen (k := 9) (n := 185) (Nat.le_of_ble_eq_true rfl) (Nat.le_of_ble_eq_true rfl) ?_
  refine va_putF (D := D) (ci := 6) (v := .ref q1) (ty := .object "GuessingHall$Words") (C := RX6) (T := TX6) (N := 6) hx hb hw inlX6 tyX6 tyX6_ok nmX6 hown hK hP hD hS 0 rfl rfl 3 (by decide) (hw _ uw108) (fun _ h9 => h9) rfl hin rfl (by decide +kernel) rfl rfl (Nat.le_of_ble_eq_true rfl) dX6_init_27 (fun H locs hP hD hS => ?_)
  have hP : va_P D vwCl ((h0, .inr (6, [.int 0, .int 0, .int 0, .ref q1, .null, .int 0])) :: R1) H := hP
  have hD : va_D A ((h0, .inr (6, [.int 0, .int 0, .int 0, .ref q1, .null, .int 0])) :: R1) := hD
  refine lv_aload_n hx hb dX6_init_30 rfl (lv_at hl 0 rfl) ?_
  refine va_new (ci := 4) (fs := [.null]) (C := RX4) (T := TX4) (N := 1) hx hb hw inlX4 tyX4 tyX4_ok hown (hw _ uw109) (hw _ uw54) (hw _ uw55) hK hP hD hS hA rfl (fun j hj => by rcases (show j = 0 by omega) with rfl <;> rfl) (Nat.le_of_ble_eq_true rfl) (Nat.le_of_ble_eq_true rfl) dX6_init_31 (fun q2 H hP hD hS => ?_)
  refine W.widen (k := 10) (n := 186) (Nat.le_of_ble_eq_true rfl) (Nat.le_of_ble_eq_true rfl) ?_
  have hP : va_P D vwCl (((h0, .inr (6, [.int 0, .int 0, .int 0, .ref q1, .null, .int 0])) :: R1) ++ [(q2, .inr (4, [.null]))]) H := hP
  have hD : va_D A (((h0, .inr (6, [.int 0, .int 0, .int 0, .ref q1, .null, .int 0])) :: R1) ++ [(q2, .inr (4, [.null]))]) := hD
  refine lv_dup hx hb dX6_init_34 rfl ?_
  refine lv_bipush (v := 120) hx hb dX6_init_35 (by decide) ?_
  have hPc := hx_cut hP
  have hFc := hx_free hD hS hA
  refine va_callv (va_runI (As := [.int 120]) (rest := [.ref q2, .ref h0]) ⟨hx, hb, hml, hown, hw⟩ (cc_X4_init l D cI cS q2 H.size 120 (Nat.le_of_ble_eq_true rfl)) (cwI 1 hw (gh_g1 uw62) rfl rfl rfl (hw _ uw55) (hw _ uw112) (hw _ uw61) rfl (by decide +kernel) ⟨(Nat.le_of_ble_eq_true rfl), (Nat.le_of_ble_eq_true rfl)⟩) (hx_pre hPc hKK) rfl rfl hl.1 rfl (lv_room (Nat.le_of_ble_eq_true rfl)) dX6_init_37 ⟨(Nat.le_of_ble_eq_true rfl), (Nat.le_of_ble_eq_true rfl)⟩) hS (fun q _ h => hFc q h) hFc (fun R2 t H1 locs ht _ wR2 hB1 _ hk1 hS => ?_)
  obtain ⟨hP1, hD1⟩ := hB1
  rw [ht] at hP1
  obtain ⟨hP, hD⟩ := hx_join hP hD hk1 hFc hP1 hD1
  clear hPc hFc hk1 hP1 hD1
  generalize H1 = H at hP hS ⊢
  have hP : va_P D vwCl ((h0, .inr (6, [.int 0, .int 0, .int 0, .ref q1, .null, .int 0])) :: (R1 ++ R2)) H := hP
  have hD : va_D A ((h0, .inr (6, [.int 0, .int 0, .int 0, .ref q1, .null, .int 0])) :: (R1 ++ R2)) := hD
  refine W.widen (k := 11) (n := 306) (Nat.le_of_ble_eq_true rfl) (Nat.le_of_ble_eq_true rfl) ?_
  refine va_putF (D := D) (ci := 6) (v := .ref q2) (ty := .object "GuessingHall$Row") (C := RX6) (T := TX6) (N := 6) hx hb hw inlX6 tyX6 tyX6_ok nmX6 hown hK hP hD hS 0 rfl rfl 4 (by decide) (hw _ uw110) (fun _ h9 => h9) rfl hin rfl (by decide +kernel) rfl rfl (Nat.le_of_ble_eq_true rfl) dX6_init_40 (fun H locs hP hD hS => ?_)
  have hP : va_P D vwCl ((h0, .inr (6, [.int 0, .int 0, .int 0, .ref q1, .ref q2, .int 0])) :: (R1 ++ R2)) H := hP
  have hD : va_D A ((h0, .inr (6, [.int 0, .int 0, .int 0, .ref q1, .ref q2, .int 0])) :: (R1 ++ R2)) := hD
  refine lv_aload_n hx hb dX6_init_43 rfl (lv_at hl 0 rfl) ?_
  refine lv_iconst (v := 0) hx hb dX6_init_44 (by decide) ?_
  refine va_put (D := D) (ci := 6) (v := .int 0) (ty := .int) (C := RX6) (T := TX6) (N := 6) hx hb hw inlX6 tyX6 tyX6_ok nmX6 hown hK hP hD hS 0 rfl rfl 5 (by decide) (hw _ uw111) (fun _ h9 => h9) rfl (by decide +kernel) rfl rfl (Nat.le_of_ble_eq_true rfl) dX6_init_45 (fun H locs hP hD hS => ?_)
  have hP : va_P D vwCl ((h0, .inr (6, [.int 0, .int 0, .int 0, .ref q1, .ref q2, .int 0])) :: (R1 ++ R2)) H := hP
  have hD : va_D A ((h0, .inr (6, [.int 0, .int 0, .int 0, .ref q1, .ref q2, .int 0])) :: (R1 ++ R2)) := hD
  obtain ⟨wR1, aR1⟩ := wR1
  have nR1 : R1.length = 9 := wR1.1
  obtain ⟨wR2, aR2⟩ := wR2
  have nR2 : R2.length = 2 := wR2.1
  have W0 := wR1
  have W1 := W0.app wR2 (by decide +kernel) (v := hz) (fun _ _ => rfl) (fun _ _ => rfl)
  have bR1 : adL (R1 ++ R2) 0 = q1 := by rw [adL_l (L1 := R1) (L2 := R2) (k := 0) (by simp only [List.length_append, nR1, nR2]; omega)]; exact aR1
  have bR2 : adL (R1 ++ R2) 9 = q2 := by rw [(adL_r (k := 0) (n := 9) (L1 := R1) (L2 := R2) (by simp only [List.length_append, nR1, nR2]) : adL (R1 ++ R2) 9 = adL R2 0)]; exact aR2
  have WW : wl D cI cS ((h0, .inr (6, [.int 0, .int 0, .int 0, .ref q1, .ref q2, .int 0])) :: (R1 ++ R2)) [6, 7, 4, 27, 4, 27, 4, 27, 4, 139, 4, 131] hz := W1.cons (v := hz) (fun _ _ => rfl) (Or.inl (by
    show (.inr (6, [.int 0, .int 0, .int 0, .ref q1, .ref q2, .int 0]) : va_E) = .inr (6, [.int 0, .int 0, .int 0, .ref (adL (R1 ++ R2) 0), .ref (adL (R1 ++ R2) 9), .int 0])
    rw [bR1, bR2]))
  exact W.vret hx hb hr (fun t ht hW => ⟨⟨((h0, .inr (6, [.int 0, .int 0, .int 0, .ref q1, .ref q2, .int 0])) :: (R1 ++ R2)), rfl, ⟨WW, rfl⟩, by rw [ht]; exact hP, hD⟩, hS.F ht⟩) hS.2.2 dX6_init_48 hlocks
def hvM : gV := fun k => match k with
  | 1 => upd (upd (upd (fun _ => 0) 10 1) 11 7) 12 (-1)
  | _ => fun _ => 0
abbrev wc_X9_init : List Cond := Cond.code yX9_init cX9_init 1 none :: wsL_law
abbrev r_X9_init : Room := { frames := 1, cells := 5, slots := 1756, locals := 20 }
set_option maxHeartbeats 8000000 in
set_option maxRecDepth 100000 in
theorem cc_X9_init (l : Launch) (D : va_G) (cI cS : ClassId) (h0 sz : Nat) : Met l yX9_init wc_X9_init r_X9_init (va_Pc [.ref h0] (hB D cI cS (h0, .inr (9, [.null, .null, .null, .int 0, .int 0, .null, .int 0, .int 0, .int 0, .int 0, .null])) sz)) (va_Qv (fun L : va_W => wl D cI cS L [9, 257, 995, 257, 131, 171] hvM ∧ adL L 0 = h0) (fun L t => va_P D vwCl L t.heap ∧ va_D (va_A [(h0, .inr (9, [.null, .null, .null, .int 0, .int 0, .null, .int 0, .int 0, .int 0, .int 0, .null]))] sz) L) (va_A [(h0, .inr (9, [.null, .null, .null, .int 0, .int 0, .null, .int 0, .int 0, .int 0, .int 0, .null]))] sz)) 5 1756 (va_A [(h0, .inr (9, [.null, .null, .null, .int 0, .int 0, .null, .int 0, .int 0, .int 0, .int 0, .null]))] sz) := by
  refine Met.ofW (cc := cX9_init) (maxL := 1) (ret := none) (by decide) rfl ?_
  intro p e s m args below meth c s₁ B hml hv
  obtain ⟨rfl, hsz, hP, hKK⟩ := hv
  have hx := B.exec
  have hb := B.bytes
  have hr := B.returns
  have hw := gh_hw (atoms_spec (ws := wc_X9_init) B.pre)
  have hown : s.vm.findClass RX9 = some m.cls := findClass_of_methodNamed B.named
  have hlocks := B.notSynchronized
  have hin : meth.name = "<init>" := (name_of_methodNamed B.named B.method).1
  have hK := hKK.1
  subst hsz
  have hD : va_D (va_A [(h0, .inr (9, [.null, .null, .null, .int 0, .int 0, .null, .int 0, .int 0, .int 0, .int 0, .null]))] s.heap.size) [(h0, .inr (9, [.null, .null, .null, .int 0, .int 0, .null, .int 0, .int 0, .int 0, .int 0, .null]))] := hx_one (A := va_A [(h0, .inr (9, [.null, .null, .null, .int 0, .int 0, .null, .int 0, .int 0, .int 0, .int 0, .null]))] s.heap.size) (Or.inl ⟨0, _, rfl⟩)
  generalize hAe : va_A [(h0, .inr (9, [.null, .null, .null, .int 0, .int 0, .null, .int 0, .int 0, .int 0, .int 0, .null]))] s.heap.size = A at hD ⊢
  have hA : ∀ q : Nat, s.heap.size ≤ q → A q := fun q h => by rw [← hAe]; exact Or.inr h
  have hS : va_S A s.heap s.heap [] := va_S.rf
  have hl := lv_entry ([.ref h0]) (n := 1) (Nat.le_of_ble_eq_true rfl)
  rw [lg_entry_eq]
  generalize (lg_sl ([.ref h0]) ++ List.replicate (1 - (lg_sl ([.ref h0])).length) Slot.unset).toArray = ls at hl ⊢
  have hl : lv_has ls 1 [(0, .ref h0)] := hl
  refine lv_aload_n hx hb dX9_init_0 rfl (lv_at hl 0 rfl) ?_
  refine W.objInit hx hb hown (hw _ uw116) (hw _ uw10) (hw _ uw11) rfl (by rw [hml]; exact hl.1) rfl dX9_init_1 (Nat.le_of_ble_eq_true rfl) (Nat.le_of_ble_eq_true rfl) ?_
  refine W.eq (g2 := F0 m 4 ls []) rfl ?_
  refine lv_aload_n hx hb dX9_init_4 rfl (lv_at hl 0 rfl) ?_
  refine lv_sipush (v := 246) hx hb dX9_init_5 (by decide) ?_
  refine va_newa (atype := .int) (ty := .int) (a0 := (246, .inl (fun _ => 0))) hx hb (hw _ uw68) rfl hK hP hD hS hA (fun _ => rfl) (by decide) (by decide) (Nat.le_of_ble_eq_true rfl) (Nat.le_of_ble_eq_true rfl) (Nat.le_of_ble_eq_true rfl) dX9_init_8 (fun q1 cA H hK1 hP hD hS => ?_)
  have eA := hx_cI hKK hK1
  rw [eA] at hP hD
  clear hK1 eA
  refine W.widen (k := 1) (n := 246) (Nat.le_of_ble_eq_true rfl) (Nat.le_of_ble_eq_true rfl) ?_
  have hP : va_P D vwCl ((h0, .inr (9, [.null, .null, .null, .int 0, .int 0, .null, .int 0, .int 0, .int 0, .int 0, .null])) :: [(q1, .inl (cI, 246, .inl (fun _ => 0)))]) H := hP
  have hD : va_D A ((h0, .inr (9, [.null, .null, .null, .int 0, .int 0, .null, .int 0, .int 0, .int 0, .int 0, .null])) :: [(q1, .inl (cI, 246, .inl (fun _ => 0)))]) := hD
  refine va_putF (D := D) (ci := 9) (v := .ref q1) (ty := .array .int) (C := RX9) (T := TX9) (N := 11) hx hb hw inlX9 tyX9 tyX9_ok nmX9 hown hK hP hD hS 0 rfl rfl 0 (by decide) (hw _ uw117) (fun _ h9 => h9) rfl hin rfl (by decide +kernel) rfl rfl (Nat.le_of_ble_eq_true rfl) dX9_init_10 (fun H locs hP hD hS => ?_)
  have hP : va_P D vwCl ((h0, .inr (9, [.ref q1, .null, .null, .int 0, .int 0, .null, .int 0, .int 0, .int 0, .int 0, .null])) :: [(q1, .inl (cI, 246, .inl (fun _ => 0)))]) H := hP
  have hD : va_D A ((h0, .inr (9, [.ref q1, .null, .null, .int 0, .int 0, .null, .int 0, .int 0, .int 0, .int 0, .null])) :: [(q1, .inl (cI, 246, .inl (fun _ => 0)))]) := hD
  refine lv_aload_n hx hb dX9_init_13 rfl (lv_at hl 0 rfl) ?_
  refine lv_sipush (v := 984) hx hb dX9_init_14 (by decide) ?_
  refine va_newa (atype := .int) (ty := .int) (a0 := (984, .inl (fun _ => 0))) hx hb (hw _ uw68) rfl hK hP hD hS hA (fun _ => rfl) (by decide) (by decide) (Nat.le_of_ble_eq_true rfl) (Nat.le_of_ble_eq_true rfl) (Nat.le_of_ble_eq_true rfl) dX9_init_17 (fun q2 cA H hK1 hP hD hS => ?_)
  have eA := hx_cI hKK hK1
  rw [eA] at hP hD
  clear hK1 eA
  refine W.widen (k := 2) (n := 1230) (Nat.le_of_ble_eq_true rfl) (Nat.le_of_ble_eq_true rfl) ?_
  have hP : va_P D vwCl ((h0, .inr (9, [.ref q1, .null, .null, .int 0, .int 0, .null, .int 0, .int 0, .int 0, .int 0, .null])) :: [(q1, .inl (cI, 246, .inl (fun _ => 0))), (q2, .inl (cI, 984, .inl (fun _ => 0)))]) H := hP
  have hD : va_D A ((h0, .inr (9, [.ref q1, .null, .null, .int 0, .int 0, .null, .int 0, .int 0, .int 0, .int 0, .null])) :: [(q1, .inl (cI, 246, .inl (fun _ => 0))), (q2, .inl (cI, 984, .inl (fun _ => 0)))]) := hD
  refine va_putF (D := D) (ci := 9) (v := .ref q2) (ty := .array .int) (C := RX9) (T := TX9) (N := 11) hx hb hw inlX9 tyX9 tyX9_ok nmX9 hown hK hP hD hS 0 rfl rfl 1 (by decide) (hw _ uw118) (fun _ h9 => h9) rfl hin rfl (by decide +kernel) rfl rfl (Nat.le_of_ble_eq_true rfl) dX9_init_19 (fun H locs hP hD hS => ?_)
  have hP : va_P D vwCl ((h0, .inr (9, [.ref q1, .ref q2, .null, .int 0, .int 0, .null, .int 0, .int 0, .int 0, .int 0, .null])) :: [(q1, .inl (cI, 246, .inl (fun _ => 0))), (q2, .inl (cI, 984, .inl (fun _ => 0)))]) H := hP
  have hD : va_D A ((h0, .inr (9, [.ref q1, .ref q2, .null, .int 0, .int 0, .null, .int 0, .int 0, .int 0, .int 0, .null])) :: [(q1, .inl (cI, 246, .inl (fun _ => 0))), (q2, .inl (cI, 984, .inl (fun _ => 0)))]) := hD
  refine lv_aload_n hx hb dX9_init_22 rfl (lv_at hl 0 rfl) ?_
  refine lv_sipush (v := 246) hx hb dX9_init_23 (by decide) ?_
  refine va_newa (atype := .int) (ty := .int) (a0 := (246, .inl (fun _ => 0))) hx hb (hw _ uw68) rfl hK hP hD hS hA (fun _ => rfl) (by decide) (by decide) (Nat.le_of_ble_eq_true rfl) (Nat.le_of_ble_eq_true rfl) (Nat.le_of_ble_eq_true rfl) dX9_init_26 (fun q3 cA H hK1 hP hD hS => ?_)
  have eA := hx_cI hKK hK1
  rw [eA] at hP hD
  clear hK1 eA
  refine W.widen (k := 3) (n := 1476) (Nat.le_of_ble_eq_true rfl) (Nat.le_of_ble_eq_true rfl) ?_
  have hP : va_P D vwCl ((h0, .inr (9, [.ref q1, .ref q2, .null, .int 0, .int 0, .null, .int 0, .int 0, .int 0, .int 0, .null])) :: [(q1, .inl (cI, 246, .inl (fun _ => 0))), (q2, .inl (cI, 984, .inl (fun _ => 0))), (q3, .inl (cI, 246, .inl (fun _ => 0)))]) H := hP
  have hD : va_D A ((h0, .inr (9, [.ref q1, .ref q2, .null, .int 0, .int 0, .null, .int 0, .int 0, .int 0, .int 0, .null])) :: [(q1, .inl (cI, 246, .inl (fun _ => 0))), (q2, .inl (cI, 984, .inl (fun _ => 0))), (q3, .inl (cI, 246, .inl (fun _ => 0)))]) := hD
  refine va_putF (D := D) (ci := 9) (v := .ref q3) (ty := .array .int) (C := RX9) (T := TX9) (N := 11) hx hb hw inlX9 tyX9 tyX9_ok nmX9 hown hK hP hD hS 0 rfl rfl 2 (by decide) (hw _ uw119) (fun _ h9 => h9) rfl hin rfl (by decide +kernel) rfl rfl (Nat.le_of_ble_eq_true rfl) dX9_init_28 (fun H locs hP hD hS => ?_)
  have hP : va_P D vwCl ((h0, .inr (9, [.ref q1, .ref q2, .ref q3, .int 0, .int 0, .null, .int 0, .int 0, .int 0, .int 0, .null])) :: [(q1, .inl (cI, 246, .inl (fun _ => 0))), (q2, .inl (cI, 984, .inl (fun _ => 0))), (q3, .inl (cI, 246, .inl (fun _ => 0)))]) H := hP
  have hD : va_D A ((h0, .inr (9, [.ref q1, .ref q2, .ref q3, .int 0, .int 0, .null, .int 0, .int 0, .int 0, .int 0, .null])) :: [(q1, .inl (cI, 246, .inl (fun _ => 0))), (q2, .inl (cI, 984, .inl (fun _ => 0))), (q3, .inl (cI, 246, .inl (fun _ => 0)))]) := hD
  refine lv_aload_n hx hb dX9_init_31 rfl (lv_at hl 0 rfl) ?_
  refine lv_bipush (v := 120) hx hb dX9_init_32 (by decide) ?_
  refine va_newa (atype := .int) (ty := .int) (a0 := (120, .inl (fun _ => 0))) hx hb (hw _ uw68) rfl hK hP hD hS hA (fun _ => rfl) (by decide) (by decide) (Nat.le_of_ble_eq_true rfl) (Nat.le_of_ble_eq_true rfl) (Nat.le_of_ble_eq_true rfl) dX9_init_34 (fun q4 cA H hK1 hP hD hS => ?_)
  have eA := hx_cI hKK hK1
  rw [eA] at hP hD
  clear hK1 eA
  refine W.widen (k := 4) (n := 1596) (Nat.le_of_ble_eq_true rfl) (Nat.le_of_ble_eq_true rfl) ?_
  have hP : va_P D vwCl ((h0, .inr (9, [.ref q1, .ref q2, .ref q3, .int 0, .int 0, .null, .int 0, .int 0, .int 0, .int 0, .null])) :: [(q1, .inl (cI, 246, .inl (fun _ => 0))), (q2, .inl (cI, 984, .inl (fun _ => 0))), (q3, .inl (cI, 246, .inl (fun _ => 0))), (q4, .inl (cI, 120, .inl (fun _ => 0)))]) H := hP
  have hD : va_D A ((h0, .inr (9, [.ref q1, .ref q2, .ref q3, .int 0, .int 0, .null, .int 0, .int 0, .int 0, .int 0, .null])) :: [(q1, .inl (cI, 246, .inl (fun _ => 0))), (q2, .inl (cI, 984, .inl (fun _ => 0))), (q3, .inl (cI, 246, .inl (fun _ => 0))), (q4, .inl (cI, 120, .inl (fun _ => 0)))]) := hD
  refine va_putF (D := D) (ci := 9) (v := .ref q4) (ty := .array .int) (C := RX9) (T := TX9) (N := 11) hx hb hw inlX9 tyX9 tyX9_ok nmX9 hown hK hP hD hS 0 rfl rfl 5 (by decide) (hw _ uw120) (fun _ h9 => h9) rfl hin rfl (by decide +kernel) rfl rfl (Nat.le_of_ble_eq_true rfl) dX9_init_36 (fun H locs hP hD hS => ?_)
  have hP : va_P D vwCl ((h0, .inr (9, [.ref q1, .ref q2, .ref q3, .int 0, .int 0, .ref q4, .int 0, .int 0, .int 0, .int 0, .null])) :: [(q1, .inl (cI, 246, .inl (fun _ => 0))), (q2, .inl (cI, 984, .inl (fun _ => 0))), (q3, .inl (cI, 246, .inl (fun _ => 0))), (q4, .inl (cI, 120, .inl (fun _ => 0)))]) H := hP
  have hD : va_D A ((h0, .inr (9, [.ref q1, .ref q2, .ref q3, .int 0, .int 0, .ref q4, .int 0, .int 0, .int 0, .int 0, .null])) :: [(q1, .inl (cI, 246, .inl (fun _ => 0))), (q2, .inl (cI, 984, .inl (fun _ => 0))), (q3, .inl (cI, 246, .inl (fun _ => 0))), (q4, .inl (cI, 120, .inl (fun _ => 0)))]) := hD
  refine lv_aload_n hx hb dX9_init_39 rfl (lv_at hl 0 rfl) ?_
  refine lv_sipush (v := 160) hx hb dX9_init_40 (by decide) ?_
  refine va_newa (atype := .int) (ty := .int) (a0 := (160, .inl (fun _ => 0))) hx hb (hw _ uw68) rfl hK hP hD hS hA (fun _ => rfl) (by decide) (by decide) (Nat.le_of_ble_eq_true rfl) (Nat.le_of_ble_eq_true rfl) (Nat.le_of_ble_eq_true rfl) dX9_init_43 (fun q5 cA H hK1 hP hD hS => ?_)
  have eA := hx_cI hKK hK1
  rw [eA] at hP hD
  clear hK1 eA
  refine W.widen (k := 5) (n := 1756) (Nat.le_of_ble_eq_true rfl) (Nat.le_of_ble_eq_true rfl) ?_
  have hP : va_P D vwCl ((h0, .inr (9, [.ref q1, .ref q2, .ref q3, .int 0, .int 0, .ref q4, .int 0, .int 0, .int 0, .int 0, .null])) :: [(q1, .inl (cI, 246, .inl (fun _ => 0))), (q2, .inl (cI, 984, .inl (fun _ => 0))), (q3, .inl (cI, 246, .inl (fun _ => 0))), (q4, .inl (cI, 120, .inl (fun _ => 0))), (q5, .inl (cI, 160, .inl (fun _ => 0)))]) H := hP
  have hD : va_D A ((h0, .inr (9, [.ref q1, .ref q2, .ref q3, .int 0, .int 0, .ref q4, .int 0, .int 0, .int 0, .int 0, .null])) :: [(q1, .inl (cI, 246, .inl (fun _ => 0))), (q2, .inl (cI, 984, .inl (fun _ => 0))), (q3, .inl (cI, 246, .inl (fun _ => 0))), (q4, .inl (cI, 120, .inl (fun _ => 0))), (q5, .inl (cI, 160, .inl (fun _ => 0)))]) := hD
  refine va_putF (D := D) (ci := 9) (v := .ref q5) (ty := .array .int) (C := RX9) (T := TX9) (N := 11) hx hb hw inlX9 tyX9 tyX9_ok nmX9 hown hK hP hD hS 0 rfl rfl 10 (by decide) (hw _ uw121) (fun _ h9 => h9) rfl hin rfl (by decide +kernel) rfl rfl (Nat.le_of_ble_eq_true rfl) dX9_init_45 (fun H locs hP hD hS => ?_)
  have hP : va_P D vwCl ((h0, .inr (9, [.ref q1, .ref q2, .ref q3, .int 0, .int 0, .ref q4, .int 0, .int 0, .int 0, .int 0, .ref q5])) :: [(q1, .inl (cI, 246, .inl (fun _ => 0))), (q2, .inl (cI, 984, .inl (fun _ => 0))), (q3, .inl (cI, 246, .inl (fun _ => 0))), (q4, .inl (cI, 120, .inl (fun _ => 0))), (q5, .inl (cI, 160, .inl (fun _ => 0)))]) H := hP
  have hD : va_D A ((h0, .inr (9, [.ref q1, .ref q2, .ref q3, .int 0, .int 0, .ref q4, .int 0, .int 0, .int 0, .int 0, .ref q5])) :: [(q1, .inl (cI, 246, .inl (fun _ => 0))), (q2, .inl (cI, 984, .inl (fun _ => 0))), (q3, .inl (cI, 246, .inl (fun _ => 0))), (q4, .inl (cI, 120, .inl (fun _ => 0))), (q5, .inl (cI, 160, .inl (fun _ => 0)))]) := hD
  refine lv_aload_n hx hb dX9_init_48 rfl (lv_at hl 0 rfl) ?_
  refine va_get (D := D) (ci := 9) (v := .ref q1) (C := RX9) (T := TX9) (N := 11) hx hb hw inlX9 hown hK hP 0 rfl rfl 0 (by decide) (hw _ uw117) (fun _ h9 => h9) rfl dX9_init_49 ?_
  refine lv_bipush (v := 10) hx hb dX9_init_52 (by decide) ?_
  refine lv_iconst (v := 1) hx hb dX9_init_54 (by decide) ?_
  refine va_iast hx hb hK hP hD hS 1 0 rfl rfl (pu_in (n := 10) (by omega) (by omega)) dX9_init_55 (fun H locs hP hD hS => ?_)
  have hP : va_P D vwCl ((h0, .inr (9, [.ref q1, .ref q2, .ref q3, .int 0, .int 0, .ref q4, .int 0, .int 0, .int 0, .int 0, .ref q5])) :: [(q1, .inl (cI, 246, .inl (upd (fun _ => 0) 10 1))), (q2, .inl (cI, 984, .inl (fun _ => 0))), (q3, .inl (cI, 246, .inl (fun _ => 0))), (q4, .inl (cI, 120, .inl (fun _ => 0))), (q5, .inl (cI, 160, .inl (fun _ => 0)))]) H := hP
  have hD : va_D A ((h0, .inr (9, [.ref q1, .ref q2, .ref q3, .int 0, .int 0, .ref q4, .int 0, .int 0, .int 0, .int 0, .ref q5])) :: [(q1, .inl (cI, 246, .inl (upd (fun _ => 0) 10 1))), (q2, .inl (cI, 984, .inl (fun _ => 0))), (q3, .inl (cI, 246, .inl (fun _ => 0))), (q4, .inl (cI, 120, .inl (fun _ => 0))), (q5, .inl (cI, 160, .inl (fun _ => 0)))]) := hD
  refine lv_aload_n hx hb dX9_init_56 rfl (lv_at hl 0 rfl) ?_
  refine va_get (D := D) (ci := 9) (v := .ref q1) (C := RX9) (T := TX9) (N := 11) hx hb hw inlX9 hown hK hP 0 rfl rfl 0 (by decide) (hw _ uw117) (fun _ h9 => h9) rfl dX9_init_57 ?_
  refine lv_bipush (v := 11) hx hb dX9_init_60 (by decide) ?_
  refine lv_bipush (v := 7) hx hb dX9_init_62 (by decide) ?_
  refine va_iast hx hb hK hP hD hS 1 0 rfl rfl (pu_in (n := 11) (by omega) (by omega)) dX9_init_64 (fun H locs hP hD hS => ?_)
  have hP : va_P D vwCl ((h0, .inr (9, [.ref q1, .ref q2, .ref q3, .int 0, .int 0, .ref q4, .int 0, .int 0, .int 0, .int 0, .ref q5])) :: [(q1, .inl (cI, 246, .inl (upd (upd (fun _ => 0) 10 1) 11 7))), (q2, .inl (cI, 984, .inl (fun _ => 0))), (q3, .inl (cI, 246, .inl (fun _ => 0))), (q4, .inl (cI, 120, .inl (fun _ => 0))), (q5, .inl (cI, 160, .inl (fun _ => 0)))]) H := hP
  have hD : va_D A ((h0, .inr (9, [.ref q1, .ref q2, .ref q3, .int 0, .int 0, .ref q4, .int 0, .int 0, .int 0, .int 0, .ref q5])) :: [(q1, .inl (cI, 246, .inl (upd (upd (fun _ => 0) 10 1) 11 7))), (q2, .inl (cI, 984, .inl (fun _ => 0))), (q3, .inl (cI, 246, .inl (fun _ => 0))), (q4, .inl (cI, 120, .inl (fun _ => 0))), (q5, .inl (cI, 160, .inl (fun _ => 0)))]) := hD
  refine lv_aload_n hx hb dX9_init_65 rfl (lv_at hl 0 rfl) ?_
  refine va_get (D := D) (ci := 9) (v := .ref q1) (C := RX9) (T := TX9) (N := 11) hx hb hw inlX9 hown hK hP 0 rfl rfl 0 (by decide) (hw _ uw117) (fun _ h9 => h9) rfl dX9_init_66 ?_
  refine lv_bipush (v := 12) hx hb dX9_init_69 (by decide) ?_
  refine lv_iconst (v := (-1)) hx hb dX9_init_71 (by decide) ?_
  refine va_iast hx hb hK hP hD hS 1 0 rfl rfl (pu_in (n := 12) (by omega) (by omega)) dX9_init_72 (fun H locs hP hD hS => ?_)
  have hP : va_P D vwCl ((h0, .inr (9, [.ref q1, .ref q2, .ref q3, .int 0, .int 0, .ref q4, .int 0, .int 0, .int 0, .int 0, .ref q5])) :: [(q1, .inl (cI, 246, .inl (upd (upd (upd (fun _ => 0) 10 1) 11 7) 12 (-1)))), (q2, .inl (cI, 984, .inl (fun _ => 0))), (q3, .inl (cI, 246, .inl (fun _ => 0))), (q4, .inl (cI, 120, .inl (fun _ => 0))), (q5, .inl (cI, 160, .inl (fun _ => 0)))]) H := hP
  have hD : va_D A ((h0, .inr (9, [.ref q1, .ref q2, .ref q3, .int 0, .int 0, .ref q4, .int 0, .int 0, .int 0, .int 0, .ref q5])) :: [(q1, .inl (cI, 246, .inl (upd (upd (upd (fun _ => 0) 10 1) 11 7) 12 (-1)))), (q2, .inl (cI, 984, .inl (fun _ => 0))), (q3, .inl (cI, 246, .inl (fun _ => 0))), (q4, .inl (cI, 120, .inl (fun _ => 0))), (q5, .inl (cI, 160, .inl (fun _ => 0)))]) := hD
  have WW : wl D cI cS ((h0, .inr (9, [.ref q1, .ref q2, .ref q3, .int 0, .int 0, .ref q4, .int 0, .int 0, .int 0, .int 0, .ref q5])) :: [(q1, .inl (cI, 246, .inl (upd (upd (upd (fun _ => 0) 10 1) 11 7) 12 (-1)))), (q2, .inl (cI, 984, .inl (fun _ => 0))), (q3, .inl (cI, 246, .inl (fun _ => 0))), (q4, .inl (cI, 120, .inl (fun _ => 0))), (q5, .inl (cI, 160, .inl (fun _ => 0)))]) [9, 257, 995, 257, 131, 171] hvM := by
    refine ⟨rfl, fun k hk => ?_⟩
    have hk : k < 6 := hk
    rcases (show k = 0 ∨ k = 1 ∨ k = 2 ∨ k = 3 ∨ k = 4 ∨ k = 5 by omega) with rfl | rfl | rfl | rfl | rfl | rfl <;> exact ⟨_, rfl, Or.inl rfl⟩
  exact W.vret hx hb hr (fun t ht hW => ⟨⟨((h0, .inr (9, [.ref q1, .ref q2, .ref q3, .int 0, .int 0, .ref q4, .int 0, .int 0, .int 0, .int 0, .ref q5])) :: [(q1, .inl (cI, 246, .inl (upd (upd (upd (fun _ => 0) 10 1) 11 7) 12 (-1)))), (q2, .inl (cI, 984, .inl (fun _ => 0))), (q3, .inl (cI, 246, .inl (fun _ => 0))), (q4, .inl (cI, 120, .inl (fun _ => 0))), (q5, .inl (cI, 160, .inl (fun _ => 0)))]), rfl, ⟨WW, rfl⟩, by rw [ht]; exact hP, hD⟩, hS.F ht⟩) hS.2.2 dX9_init_73 hlocks
