def hz : gV := fun _ _ => 0
abbrev wc_X4_init : List Cond := Cond.code yX4_init cX4_init 2 none :: wsL_law
abbrev r_X4_init (n : Nat) : Room := { frames := 1, cells := 1, slots := n, locals := 20 }
set_option maxHeartbeats 8000000 in
set_option maxRecDepth 100000 in
theorem cc_X4_init (l : Launch) (D : va_G) (cI cS : ClassId) (h0 sz n : Nat) (hn : n ≤ 1000) : Met l yX4_init wc_X4_init (r_X4_init n) (va_Pc [.ref h0, .int (nI n)] (hB D cI cS (h0, .inr (4, [.null])) sz)) (va_Qv (fun L : va_W => wl D cI cS L [4, n + 11] hz ∧ adL L 0 = h0) (fun L t => va_P D vwCl L t.heap ∧ va_D (va_A [(h0, .inr (4, [.null]))] sz) L) (va_A [(h0, .inr (4, [.null]))] sz)) 1 n (va_A [(h0, .inr (4, [.null]))] sz) := by
  refine Met.ofW (cc := cX4_init) (maxL := 2) (ret := none) (by decide) rfl ?_
  intro p e s m args below meth c s₁ B hml hv
  obtain ⟨rfl, hsz, hP, hKK⟩ := hv
  have hx := B.exec
  have hb := B.bytes
  have hr := B.returns
  have hw := gh_hw (atoms_spec (ws := wc_X4_init) B.pre)
  have hown : s.vm.findClass RX4 = some m.cls := findClass_of_methodNamed B.named
  have hlocks := B.notSynchronized
  have hin : meth.name = "<init>" := (name_of_methodNamed B.named B.method).1
  have hK := hKK.1
  subst hsz
  have hD : va_D (va_A [(h0, .inr (4, [.null]))] s.heap.size) [(h0, .inr (4, [.null]))] := hx_one (A := va_A [(h0, .inr (4, [.null]))] s.heap.size) (Or.inl ⟨0, _, rfl⟩)
  generalize hAe : va_A [(h0, .inr (4, [.null]))] s.heap.size = A at hD ⊢
  have hA : ∀ q : Nat, s.heap.size ≤ q → A q := fun q h => by rw [← hAe]; exact Or.inr h
  have hS : va_S A s.heap s.heap [] := va_S.rf
  have hl := lv_entry ([.ref h0, .int (nI n)]) (n := 2) (Nat.le_of_ble_eq_true rfl)
  rw [lg_entry_eq]
  generalize (lg_sl ([.ref h0, .int (nI n)]) ++ List.replicate (2 - (lg_sl ([.ref h0, .int (nI n)])).length) Slot.unset).toArray = ls at hl ⊢
  have hl : lv_has ls 2 [(0, .ref h0), (1, .int (nI n))] := hl
  refine lv_aload_n hx hb dX4_init_0 rfl (lv_at hl 0 rfl) ?_
  refine W.objInit hx hb hown (hw _ uw63) (hw _ uw10) (hw _ uw11) rfl (by rw [hml]; exact hl.1) rfl dX4_init_1 (Nat.le_of_ble_eq_true rfl) (Nat.le_of_ble_eq_true rfl) ?_
  refine W.eq (g2 := F0 m 4 ls []) rfl ?_
  refine lv_aload_n hx hb dX4_init_4 rfl (lv_at hl 0 rfl) ?_
  refine lv_iload_n hx hb dX4_init_5 rfl (lv_at hl 1 rfl) ?_
  refine lv_iconst (v := 0) hx hb dX4_init_6 (by decide) ?_
  refine va_mmax hx hb (by rw [hml]; exact hl.1.symm) hown (hw _ uw64) (hw _ uw65) (hw _ uw66) (hw _ uw67) (Nat.le_of_ble_eq_true rfl) (Nat.le_of_ble_eq_true rfl) (Nat.zero_le _) (Nat.zero_le _) dX4_init_7 ?_
  have em : (if nI n < 0 then (0 : Int32) else nI n) = nI n := if_neg (nI_pos (by omega))
  rw [em]
  refine va_newa (atype := .int) (ty := .int) (a0 := (n, .inl (fun _ => 0))) hx hb (hw _ uw68) rfl hK hP hD hS hA (fun _ => rfl) (nI_pos (by omega)) (nI_clamp (by omega)) (by show n * 4 ≤ 536870912; omega) (Nat.le_of_ble_eq_true rfl) (by show 0 + n ≤ n; omega) dX4_init_10 (fun q cA H hK1 hP hD hS => ?_)
  have eA := hx_cI hKK hK1
  subst eA
  refine va_putF (D := D) (ci := 4) (v := .ref q) (ty := .array .int) (C := RX4) (T := TX4) (N := 1) hx hb hw inlX4 tyX4 tyX4_ok nmX4 hown hK hP hD hS 0 rfl rfl 0 (by decide) (hw _ uw69) (fun _ h9 => h9) rfl hin rfl (by decide +kernel) rfl rfl (Nat.le_of_ble_eq_true rfl) dX4_init_12 (fun H locs hP hD hS => ?_)
  refine W.widen (k := 1) (n := n) (Nat.le_refl _) (by show 0 + n ≤ n; omega) ?_
  have hP : va_P D vwCl [(h0, .inr (4, [.ref q])), (q, .inl (cA, n, .inl (fun _ => 0)))] H := hP
  have hD : va_D A [(h0, .inr (4, [.ref q])), (q, .inl (cA, n, .inl (fun _ => 0)))] := hD
  have WW : wl D cA cS [(h0, .inr (4, [.ref q])), (q, .inl (cA, n, .inl (fun _ => 0)))] [4, n + 11] hz := (wl.arr (v := hz) rfl).cons (v := hz) (fun _ _ => rfl) (Or.inl rfl)
  exact W.vret hx hb hr (fun t ht hW => ⟨⟨[(h0, .inr (4, [.ref q])), (q, .inl (cA, n, .inl (fun _ => 0)))], rfl, ⟨WW, rfl⟩, by rw [ht]; exact hP, hD⟩, hS.F ht⟩) hS.2.2 dX4_init_15 hlocks
abbrev wc_X7_init : List Cond := Cond.code yX7_init cX7_init 1 none :: wsL_law
abbrev r_X7_init : Room := { frames := 2, cells := 8, slots := 180, locals := 41 }
set_option maxHeartbeats 8000000 in
set_option maxRecDepth 100000 in
theorem cc_X7_init (l : Launch) (D : va_G) (cI cS : ClassId) (h0 sz : Nat) : Met l yX7_init wc_X7_init r_X7_init (va_Pc [.ref h0] (hB D cI cS (h0, .inr (7, [.int 0, .null, .null, .null, .null])) sz)) (va_Qv (fun L : va_W => wl D cI cS L [7, 4, 27, 4, 27, 4, 27, 4, 139] hz ∧ adL L 0 = h0) (fun L t => va_P D vwCl L t.heap ∧ va_D (va_A [(h0, .inr (7, [.int 0, .null, .null, .null, .null]))] sz) L) (va_A [(h0, .inr (7, [.int 0, .null, .null, .null, .null]))] sz)) 8 180 (va_A [(h0, .inr (7, [.int 0, .null, .null, .null, .null]))] sz) := by
  refine Met.ofW (cc := cX7_init) (maxL := 1) (ret := none) (by decide) rfl ?_
  intro p e s m args below meth c s₁ B hml hv
  obtain ⟨rfl, hsz, hP, hKK⟩ := hv
  have hx := B.exec
  have hb := B.bytes
  have hr := B.returns
  have hw := gh_hw (atoms_spec (ws := wc_X7_init) B.pre)
  have hown : s.vm.findClass RX7 = some m.cls := findClass_of_methodNamed B.named
  have hlocks := B.notSynchronized
  have hin : meth.name = "<init>" := (name_of_methodNamed B.named B.method).1
  have hK := hKK.1
  subst hsz
  have hD : va_D (va_A [(h0, .inr (7, [.int 0, .null, .null, .null, .null]))] s.heap.size) [(h0, .inr (7, [.int 0, .null, .null, .null, .null]))] := hx_one (A := va_A [(h0, .inr (7, [.int 0, .null, .null, .null, .null]))] s.heap.size) (Or.inl ⟨0, _, rfl⟩)
  generalize hAe : va_A [(h0, .inr (7, [.int 0, .null, .null, .null, .null]))] s.heap.size = A at hD ⊢
  have hA : ∀ q : Nat, s.heap.size ≤ q → A q := fun q h => by rw [← hAe]; exact Or.inr h
  have hS : va_S A s.heap s.heap [] := va_S.rf
  have hl := lv_entry ([.ref h0]) (n := 1) (Nat.le_of_ble_eq_true rfl)
  rw [lg_entry_eq]
  generalize (lg_sl ([.ref h0]) ++ List.replicate (1 - (lg_sl ([.ref h0])).length) Slot.unset).toArray = ls at hl ⊢
  have hl : lv_has ls 1 [(0, .ref h0)] := hl
  refine lv_aload_n hx hb dX7_init_0 rfl (lv_at hl 0 rfl) ?_
  refine W.objInit hx hb hown (hw _ uw52) (hw _ uw10) (hw _ uw11) rfl (by rw [hml]; exact hl.1) rfl dX7_init_1 (Nat.le_of_ble_eq_true rfl) (Nat.le_of_ble_eq_true rfl) ?_
  refine W.eq (g2 := F0 m 4 ls []) rfl ?_
  refine lv_aload_n hx hb dX7_init_4 rfl (lv_at hl 0 rfl) ?_
  refine va_new (ci := 4) (fs := [.null]) (C := RX4) (T := TX4) (N := 1) hx hb hw inlX4 tyX4 tyX4_ok hown (hw _ uw53) (hw _ uw54) (hw _ uw55) hK hP hD hS hA rfl (fun j hj => by rcases (show j = 0 by omega) with rfl <;> rfl) (Nat.le_of_ble_eq_true rfl) (Nat.le_of_ble_eq_true rfl) dX7_init_5 (fun q1 H hP hD hS => ?_)
  refine W.widen (k := 1) (n := 1) (Nat.le_of_ble_eq_true rfl) (Nat.le_of_ble_eq_true rfl) ?_
  have hP : va_P D vwCl (((h0, .inr (7, [.int 0, .null, .null, .null, .null])) :: []) ++ [(q1, .inr (4, [.null]))]) H := hP
  have hD : va_D A (((h0, .inr (7, [.int 0, .null, .null, .null, .null])) :: []) ++ [(q1, .inr (4, [.null]))]) := hD
  refine lv_dup hx hb dX7_init_8 rfl ?_
  refine lv_bipush (v := 16) hx hb dX7_init_9 (by decide) ?_
  have hPc := hx_cut hP
  have hFc := hx_free hD hS hA
  refine va_callv (va_runI (As := [.int 16]) (rest := [.ref q1, .ref h0]) ⟨hx, hb, hml, hown, hw⟩ (cc_X4_init l D cI cS q1 H.size 16 (Nat.le_of_ble_eq_true rfl)) (cwI 1 hw (gh_g1 uw62) rfl rfl rfl (hw _ uw55) (hw _ uw60) (hw _ uw61) rfl (by decide +kernel) ⟨(Nat.le_of_ble_eq_true rfl), (Nat.le_of_ble_eq_true rfl)⟩) (hx_pre hPc hKK) rfl rfl hl.1 rfl (lv_room (Nat.le_of_ble_eq_true rfl)) dX7_init_11 ⟨(Nat.le_of_ble_eq_true rfl), (Nat.le_of_ble_eq_true rfl)⟩) hS (fun q _ h => hFc q h) hFc (fun R1 t H1 locs ht _ wR1 hB1 _ hk1 hS => ?_)
  obtain ⟨hP1, hD1⟩ := hB1
  rw [ht] at hP1
  obtain ⟨hP, hD⟩ := hx_join hP hD hk1 hFc hP1 hD1
  clear hPc hFc hk1 hP1 hD1
  generalize H1 = H at hP hS ⊢
  have hP : va_P D vwCl ((h0, .inr (7, [.int 0, .null, .null, .null, .null])) :: R1) H := hP
  have hD : va_D A ((h0, .inr (7, [.int 0, .null, .null, .null, .null])) :: R1) := hD
  refine W.widen (k := 2) (n := 17) (Nat.le_of_ble_eq_true rfl) (Nat.le_of_ble_eq_true rfl) ?_
  refine va_putF (D := D) (ci := 7) (v := .ref q1) (ty := .object "GuessingHall$Row") (C := RX7) (T := TX7) (N := 5) hx hb hw inlX7 tyX7 tyX7_ok nmX7 hown hK hP hD hS 0 rfl rfl 1 (by decide) (hw _ uw56) (fun _ h9 => h9) rfl hin rfl (by decide +kernel) rfl rfl (Nat.le_of_ble_eq_true rfl) dX7_init_14 (fun H locs hP hD hS => ?_)
  have hP : va_P D vwCl ((h0, .inr (7, [.int 0, .ref q1, .null, .null, .null])) :: R1) H := hP
  have hD : va_D A ((h0, .inr (7, [.int 0, .ref q1, .null, .null, .null])) :: R1) := hD
  refine lv_aload_n hx hb dX7_init_17 rfl (lv_at hl 0 rfl) ?_
  refine va_new (ci := 4) (fs := [.null]) (C := RX4) (T := TX4) (N := 1) hx hb hw inlX4 tyX4 tyX4_ok hown (hw _ uw53) (hw _ uw54) (hw _ uw55) hK hP hD hS hA rfl (fun j hj => by rcases (show j = 0 by omega) with rfl <;> rfl) (Nat.le_of_ble_eq_true rfl) (Nat.le_of_ble_eq_true rfl) dX7_init_18 (fun q2 H hP hD hS => ?_)
  refine W.widen (k := 3) (n := 18) (Nat.le_of_ble_eq_true rfl) (Nat.le_of_ble_eq_true rfl) ?_
  have hP : va_P D vwCl (((h0, .inr (7, [.int 0, .ref q1, .null, .null, .null])) :: R1) ++ [(q2, .inr (4, [.null]))]) H := hP
  have hD : va_D A (((h0, .inr (7, [.int 0, .ref q1, .null, .null, .null])) :: R1) ++ [(q2, .inr (4, [.null]))]) := hD
  refine lv_dup hx hb dX7_init_21 rfl ?_
  refine lv_bipush (v := 16) hx hb dX7_init_22 (by decide) ?_
  have hPc := hx_cut hP
  have hFc := hx_free hD hS hA
  refine va_callv (va_runI (As := [.int 16]) (rest := [.ref q2, .ref h0]) ⟨hx, hb, hml, hown, hw⟩ (cc_X4_init l D cI cS q2 H.size 16 (Nat.le_of_ble_eq_true rfl)) (cwI 1 hw (gh_g1 uw62) rfl rfl rfl (hw _ uw55) (hw _ uw60) (hw _ uw61) rfl (by decide +kernel) ⟨(Nat.le_of_ble_eq_true rfl), (Nat.le_of_ble_eq_true rfl)⟩) (hx_pre hPc hKK) rfl rfl hl.1 rfl (lv_room (Nat.le_of_ble_eq_true rfl)) dX7_init_24 ⟨(Nat.le_of_ble_eq_true rfl), (Nat.le_of_ble_eq_true rfl)⟩) hS (fun q _ h => hFc q h) hFc (fun R2 t H1 locs ht _ wR2 hB1 _ hk1 hS => ?_)
  obtain ⟨hP1, hD1⟩ := hB1
  rw [ht] at hP1
  obtain ⟨hP, hD⟩ := hx_join hP hD hk1 hFc hP1 hD1
  clear hPc hFc hk1 hP1 hD1
  generalize H1 = H at hP hS ⊢
  have hP : va_P D vwCl ((h0, .inr (7, [.int 0, .ref q1, .null, .null, .null])) :: (R1 ++ R2)) H := hP
  have hD : va_D A ((h0, .inr (7, [.int 0, .ref q1, .null, .null, .null])) :: (R1 ++ R2)) := hD
  refine W.widen (k := 4) (n := 34) (Nat.le_of_ble_eq_true rfl) (Nat.le_of_ble_eq_true rfl) ?_
  refine va_putF (D := D) (ci := 7) (v := .ref q2) (ty := .object "GuessingHall$Row") (C := RX7) (T := TX7) (N := 5) hx hb hw inlX7 tyX7 tyX7_ok nmX7 hown hK hP hD hS 0 rfl rfl 2 (by decide) (hw _ uw57) (fun _ h9 => h9) rfl hin rfl (by decide +kernel) rfl rfl (Nat.le_of_ble_eq_true rfl) dX7_init_27 (fun H locs hP hD hS => ?_)
  have hP : va_P D vwCl ((h0, .inr (7, [.int 0, .ref q1, .ref q2, .null, .null])) :: (R1 ++ R2)) H := hP
  have hD : va_D A ((h0, .inr (7, [.int 0, .ref q1, .ref q2, .null, .null])) :: (R1 ++ R2)) := hD
  refine lv_aload_n hx hb dX7_init_30 rfl (lv_at hl 0 rfl) ?_
  refine va_new (ci := 4) (fs := [.null]) (C := RX4) (T := TX4) (N := 1) hx hb hw inlX4 tyX4 tyX4_ok hown (hw _ uw53) (hw _ uw54) (hw _ uw55) hK hP hD hS hA rfl (fun j hj => by rcases (show j = 0 by omega) with rfl <;> rfl) (Nat.le_of_ble_eq_true rfl) (Nat.le_of_ble_eq_true rfl) dX7_init_31 (fun q3 H hP hD hS => ?_)
  refine W.widen (k := 5) (n := 35) (Nat.le_of_ble_eq_true rfl) (Nat.le_of_ble_eq_true rfl) ?_
  have hP : va_P D vwCl (((h0, .inr (7, [.int 0, .ref q1, .ref q2, .null, .null])) :: (R1 ++ R2)) ++ [(q3, .inr (4, [.null]))]) H := hP
  have hD : va_D A (((h0, .inr (7, [.int 0, .ref q1, .ref q2, .null, .null])) :: (R1 ++ R2)) ++ [(q3, .inr (4, [.null]))]) := hD
  refine lv_dup hx hb dX7_init_34 rfl ?_
  refine lv_bipush (v := 16) hx hb dX7_init_35 (by decide) ?_
  have hPc := hx_cut hP
  have hFc := hx_free hD hS hA
  refine va_callv (va_runI (As := [.int 16]) (rest := [.ref q3, .ref h0]) ⟨hx, hb, hml, hown, hw⟩ (cc_X4_init l D cI cS q3 H.size 16 (Nat.le_of_ble_eq_true rfl)) (cwI 1 hw (gh_g1 uw62) rfl rfl rfl (hw _ uw55) (hw _ uw60) (hw _ uw61) rfl (by decide +kernel) ⟨(Nat.le_of_ble_eq_true rfl), (Nat.le_of_ble_eq_true rfl)⟩) (hx_pre hPc hKK) rfl rfl hl.1 rfl (lv_room (Nat.le_of_ble_eq_true rfl)) dX7_init_37 ⟨(Nat.le_of_ble_eq_true rfl), (Nat.le_of_ble_eq_true rfl)⟩) hS (fun q _ h => hFc q h) hFc (fun R3 t H1 locs ht _ wR3 hB1 _ hk1 hS => ?_)
  obtain ⟨hP1, hD1⟩ := hB1
  rw [ht] at hP1
  obtain ⟨hP, hD⟩ := hx_join hP hD hk1 hFc hP1 hD1
  clear hPc hFc hk1 hP1 hD1
  generalize H1 = H at hP hS ⊢
  have hP : va_P D vwCl ((h0, .inr (7, [.int 0, .ref q1, .ref q2, .null, .null])) :: ((R1 ++ R2) ++ R3)) H := hP
  have hD : va_D A ((h0, .inr (7, [.int 0, .ref q1, .ref q2, .null, .null])) :: ((R1 ++ R2) ++ R3)) := hD
  refine W.widen (k := 6) (n := 51) (Nat.le_of_ble_eq_true rfl) (Nat.le_of_ble_eq_true rfl) ?_
  refine va_putF (D := D) (ci := 7) (v := .ref q3) (ty := .object "GuessingHall$Row") (C := RX7) (T := TX7) (N := 5) hx hb hw inlX7 tyX7 tyX7_ok nmX7 hown hK hP hD hS 0 rfl rfl 3 (by decide) (hw _ uw58) (fun _ h9 => h9) rfl hin rfl (by decide +kernel) rfl rfl (Nat.le_of_ble_eq_true rfl) dX7_init_40 (fun H locs hP hD hS => ?_)
  have hP : va_P D vwCl ((h0, .inr (7, [.int 0, .ref q1, .ref q2, .ref q3, .null])) :: ((R1 ++ R2) ++ R3)) H := hP
  have hD : va_D A ((h0, .inr (7, [.int 0, .ref q1, .ref q2, .ref q3, .null])) :: ((R1 ++ R2) ++ R3)) := hD
  refine lv_aload_n hx hb dX7_init_43 rfl (lv_at hl 0 rfl) ?_
  refine va_new (ci := 4) (fs := [.null]) (C := RX4) (T := TX4) (N := 1) hx hb hw inlX4 tyX4 tyX4_ok hown (hw _ uw53) (hw _ uw54) (hw _ uw55) hK hP hD hS hA rfl (fun j hj => by rcases (show j = 0 by omega) with rfl <;> rfl) (Nat.le_of_ble_eq_true rfl) (Nat.le_of_ble_eq_true rfl) dX7_init_44 (fun q4 H hP hD hS => ?_)
  refine W.widen (k := 7) (n := 52) (Nat.le_of_ble_eq_true rfl) (Nat.le_of_ble_eq_true rfl) ?_
  have hP : va_P D vwCl (((h0, .inr (7, [.int 0, .ref q1, .ref q2, .ref q3, .null])) :: ((R1 ++ R2) ++ R3)) ++ [(q4, .inr (4, [.null]))]) H := hP
  have hD : va_D A (((h0, .inr (7, [.int 0, .ref q1, .ref q2, .ref q3, .null])) :: ((R1 ++ R2) ++ R3)) ++ [(q4, .inr (4, [.null]))]) := hD
  refine lv_dup hx hb dX7_init_47 rfl ?_
  refine lv_sipush (v := 128) hx hb dX7_init_48 (by decide) ?_
  have hPc := hx_cut hP
  have hFc := hx_free hD hS hA
  refine va_callv (va_runI (As := [.int 128]) (rest := [.ref q4, .ref h0]) ⟨hx, hb, hml, hown, hw⟩ (cc_X4_init l D cI cS q4 H.size 128 (Nat.le_of_ble_eq_true rfl)) (cwI 1 hw (gh_g1 uw62) rfl rfl rfl (hw _ uw55) (hw _ uw60) (hw _ uw61) rfl (by decide +kernel) ⟨(Nat.le_of_ble_eq_true rfl), (Nat.le_of_ble_eq_true rfl)⟩) (hx_pre hPc hKK) rfl rfl hl.1 rfl (lv_room (Nat.le_of_ble_eq_true rfl)) dX7_init_51 ⟨(Nat.le_of_ble_eq_true rfl), (Nat.le_of_ble_eq_true rfl)⟩) hS (fun q _ h => hFc q h) hFc (fun R4 t H1 locs ht _ wR4 hB1 _ hk1 hS => ?_)
  obtain ⟨hP1, hD1⟩ := hB1
  rw [ht] at hP1
  obtain ⟨hP, hD⟩ := hx_join hP hD hk1 hFc hP1 hD1
  clear hPc hFc hk1 hP1 hD1
  generalize H1 = H at hP hS ⊢
  have hP : va_P D vwCl ((h0, .inr (7, [.int 0, .ref q1, .ref q2, .ref q3, .null])) :: (((R1 ++ R2) ++ R3) ++ R4)) H := hP
  have hD : va_D A ((h0, .inr (7, [.int 0, .ref q1, .ref q2, .ref q3, .null])) :: (((R1 ++ R2) ++ R3) ++ R4)) := hD
  refine W.widen (k := 8) (n := 180) (Nat.le_of_ble_eq_true rfl) (Nat.le_of_ble_eq_true rfl) ?_
  refine va_putF (D := D) (ci := 7) (v := .ref q4) (ty := .object "GuessingHall$Row") (C := RX7) (T := TX7) (N := 5) hx hb hw inlX7 tyX7 tyX7_ok nmX7 hown hK hP hD hS 0 rfl rfl 4 (by decide) (hw _ uw59) (fun _ h9 => h9) rfl hin rfl (by decide +kernel) rfl rfl (Nat.le_of_ble_eq_true rfl) dX7_init_54 (fun H locs hP hD hS => ?_)
  have hP : va_P D vwCl ((h0, .inr (7, [.int 0, .ref q1, .ref q2, .ref q3, .ref q4])) :: (((R1 ++ R2) ++ R3) ++ R4)) H := hP
  have hD : va_D A ((h0, .inr (7, [.int 0, .ref q1, .ref q2, .ref q3, .ref q4])) :: (((R1 ++ R2) ++ R3) ++ R4)) := hD
  obtain ⟨wR1, aR1⟩ := wR1
  have nR1 : R1.length = 2 := wR1.1
  obtain ⟨wR2, aR2⟩ := wR2
  have nR2 : R2.length = 2 := wR2.1
  obtain ⟨wR3, aR3⟩ := wR3
  have nR3 : R3.length = 2 := wR3.1
  obtain ⟨wR4, aR4⟩ := wR4
  have nR4 : R4.length = 2 := wR4.1
  have W0 := wR1
  have W1 := W0.app wR2 (by decide +kernel) (v := hz) (fun _ _ => rfl) (fun _ _ => rfl)
  have W2 := W1.app wR3 (by decide +kernel) (v := hz) (fun _ _ => rfl) (fun _ _ => rfl)
  have W3 := W2.app wR4 (by decide +kernel) (v := hz) (fun _ _ => rfl) (fun _ _ => rfl)
  have bR1 : adL (((R1 ++ R2) ++ R3) ++ R4) 0 = q1 := by rw [adL_l (L1 := ((R1 ++ R2) ++ R3)) (L2 := R4) (k := 0) (by simp only [List.length_append, nR1, nR2, nR3, nR4]; omega), adL_l (L1 := (R1 ++ R2)) (L2 := R3) (k := 0) (by simp only [List.length_append, nR1, nR2, nR3, nR4]; omega), adL_l (L1 := R1) (L2 := R2) (k := 0) (by simp only [List.length_append, nR1, nR2, nR3, nR4]; omega)]; exact aR1
  have bR2 : adL (((R1 ++ R2) ++ R3) ++ R4) 2 = q2 := by rw [adL_l (L1 := ((R1 ++ R2) ++ R3)) (L2 := R4) (k := 2) (by simp only [List.length_append, nR1, nR2, nR3, nR4]; omega), adL_l (L1 := (R1 ++ R2)) (L2 := R3) (k := 2) (by simp only [List.length_append, nR1, nR2, nR3, nR4]; omega), (adL_r (k := 0) (n := 2) (L1 := R1) (L2 := R2) (by simp only [List.length_append, nR1, nR2, nR3, nR4]) : adL (R1 ++ R2) 2 = adL R2 0)]; exact aR2
  have bR3 : adL (((R1 ++ R2) ++ R3) ++ R4) 4 = q3 := by rw [adL_l (L1 := ((R1 ++ R2) ++ R3)) (L2 := R4) (k := 4) (by simp only [List.length_append, nR1, nR2, nR3, nR4]; omega), (adL_r (k := 0) (n := 4) (L1 := (R1 ++ R2)) (L2 := R3) (by simp only [List.length_append, nR1, nR2, nR3, nR4]) : adL ((R1 ++ R2) ++ R3) 4 = adL R3 0)]; exact aR3
  have bR4 : adL (((R1 ++ R2) ++ R3) ++ R4) 6 = q4 := by rw [(adL_r (k := 0) (n := 6) (L1 := ((R1 ++ R2) ++ R3)) (L2 := R4) (by simp only [List.length_append, nR1, nR2, nR3, nR4]) : adL (((R1 ++ R2) ++ R3) ++ R4) 6 = adL R4 0)]; exact aR4
  have WW : wl D cI cS ((h0, .inr (7, [.int 0, .ref q1, .ref q2, .ref q3, .ref q4])) :: (((R1 ++ R2) ++ R3) ++ R4)) [7, 4, 27, 4, 27, 4, 27, 4, 139] hz := W3.cons (v := hz) (fun _ _ => rfl) (Or.inl (by
    show (.inr (7, [.int 0, .ref q1, .ref q2, .ref q3, .ref q4]) : va_E) = .inr (7, [.int 0, .ref (adL (((R1 ++ R2) ++ R3) ++ R4) 0), .ref (adL (((R1 ++ R2) ++ R3) ++ R4) 2), .ref (adL (((R1 ++ R2) ++ R3) ++ R4) 4), .ref (adL (((R1 ++ R2) ++ R3) ++ R4) 6)])
    rw [bR1, bR2, bR3, bR4]))
  exact W.vret hx hb hr (fun t ht hW => ⟨⟨((h0, .inr (7, [.int 0, .ref q1, .ref q2, .ref q3, .ref q4])) :: (((R1 ++ R2) ++ R3) ++ R4)), rfl, ⟨WW, rfl⟩, by rw [ht]; exact hP, hD⟩, hS.F ht⟩) hS.2.2 dX7_init_57 hlocks
