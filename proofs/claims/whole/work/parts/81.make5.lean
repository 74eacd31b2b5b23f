def hv2 : gV := fun k => if k = 0 ∨ k = 33 then hv0 else fun _ => 0
def hv3 : gV := fun k => if k = 0 ∨ k = 33 ∨ k = 66 then hv0 else fun _ => 0
def hv4 : gV := fun k => if k = 0 ∨ k = 33 ∨ k = 66 ∨ k = 99 then hv0 else fun _ => 0
def hvR : gV := fun k => if k = 1 ∨ k = 34 ∨ k = 67 ∨ k = 100 then hv0 else fun _ => 0
def hvH : gV := fun k => if k = 2 ∨ k = 35 ∨ k = 68 ∨ k = 101 then hv0 else fun _ => 0
theorem hx_r {W S : va_W} {n : Nat} (h : W.length = n) : (W ++ S)[n]? = S[0]? := by
  subst h
  rw [List.getElem?_append_right (Nat.le_refl _), Nat.sub_self]
abbrev wc_X1_init : List Cond := Cond.code yX1_init cX1_init 2 none :: wsL_law
abbrev r_X1_init : Room := { frames := 4, cells := 133, slots := 1112, locals := 81 }
set_option maxHeartbeats 8000000 in
set_option maxRecDepth 100000 in
theorem cc_X1_init (l : Launch) (D : va_G) (cI cS : ClassId) (h0 sz : Nat) : Met l yX1_init wc_X1_init r_X1_init (va_Pc [.ref h0] (hB D cI cS (h0, .inr (1, [.int 0, .int 0, .null])) sz)) (va_Qv (fun L : va_W => wl D cI cS L (1 :: 10 :: (((gh_st ++ gh_st) ++ gh_st) ++ gh_st)) hvH ∧ adL L 0 = h0) (fun L t => va_P D vwCl L t.heap ∧ va_D (va_A [(h0, .inr (1, [.int 0, .int 0, .null]))] sz) L) (va_A [(h0, .inr (1, [.int 0, .int 0, .null]))] sz)) 133 1112 (va_A [(h0, .inr (1, [.int 0, .int 0, .null]))] sz) := by
  refine Met.ofW (cc := cX1_init) (maxL := 2) (ret := none) (by decide) rfl ?_
  intro p e s m args below meth c s₁ B hml hv
  obtain ⟨rfl, hsz, hP, hKK⟩ := hv
  have hx := B.exec
  have hb := B.bytes
  have hr := B.returns
  have hw := gh_hw (atoms_spec (ws := wc_X1_init) B.pre)
  have hown : s.vm.findClass RX1 = some m.cls := findClass_of_methodNamed B.named
  have hlocks := B.notSynchronized
  have hin : meth.name = "<init>" := (name_of_methodNamed B.named B.method).1
  have hK := hKK.1
  subst hsz
  have hD : va_D (va_A [(h0, .inr (1, [.int 0, .int 0, .null]))] s.heap.size) [(h0, .inr (1, [.int 0, .int 0, .null]))] := hx_one (A := va_A [(h0, .inr (1, [.int 0, .int 0, .null]))] s.heap.size) (Or.inl ⟨0, _, rfl⟩)
  generalize hAe : va_A [(h0, .inr (1, [.int 0, .int 0, .null]))] s.heap.size = A at hD ⊢
  have hA : ∀ q : Nat, s.heap.size ≤ q → A q := fun q h => by rw [← hAe]; exact Or.inr h
  have hS : va_S A s.heap s.heap [] := va_S.rf
  have hl := lv_entry ([.ref h0]) (n := 2) (Nat.le_of_ble_eq_true rfl)
  rw [lg_entry_eq]
  generalize (lg_sl ([.ref h0]) ++ List.replicate (2 - (lg_sl ([.ref h0])).length) Slot.unset).toArray = ls at hl ⊢
  have hl : lv_has ls 2 [(0, .ref h0)] := hl
  refine lv_aload_n hx hb dX1_init_0 rfl (lv_at hl 0 rfl) ?_
  refine W.objInit hx hb hown (hw _ uw96) (hw _ uw10) (hw _ uw11) rfl (by rw [hml]; exact hl.1) rfl dX1_init_1 (Nat.le_of_ble_eq_true rfl) (Nat.le_of_ble_eq_true rfl) ?_
  refine W.eq (g2 := F0 m 4 ls []) rfl ?_
  refine lv_aload_n hx hb dX1_init_4 rfl (lv_at hl 0 rfl) ?_
  refine lv_iconst (v := 0) hx hb dX1_init_5 (by decide) ?_
  refine va_put (D := D) (ci := 1) (v := .int 0) (ty := .int) (C := RX1) (T := TX1) (N := 3) hx hb hw inlX1 tyX1 tyX1_ok nmX1 hown hK hP hD hS 0 rfl rfl 0 (by decide) (hw _ uw97) (fun _ h9 => h9) rfl (by decide +kernel) rfl rfl (Nat.le_of_ble_eq_true rfl) dX1_init_6 (fun H locs hP hD hS => ?_)
  have hP : va_P D vwCl ((h0, .inr (1, [.int 0, .int 0, .null])) :: []) H := hP
  have hD : va_D A ((h0, .inr (1, [.int 0, .int 0, .null])) :: []) := hD
  refine lv_aload_n hx hb dX1_init_9 rfl (lv_at hl 0 rfl) ?_
  refine lv_iconst (v := 0) hx hb dX1_init_10 (by decide) ?_
  refine va_put (D := D) (ci := 1) (v := .int 0) (ty := .int) (C := RX1) (T := TX1) (N := 3) hx hb hw inlX1 tyX1 tyX1_ok nmX1 hown hK hP hD hS 0 rfl rfl 1 (by decide) (hw _ uw98) (fun _ h9 => h9) rfl (by decide +kernel) rfl rfl (Nat.le_of_ble_eq_true rfl) dX1_init_11 (fun H locs hP hD hS => ?_)
  have hP : va_P D vwCl ((h0, .inr (1, [.int 0, .int 0, .null])) :: []) H := hP
  have hD : va_D A ((h0, .inr (1, [.int 0, .int 0, .null])) :: []) := hD
  refine lv_aload_n hx hb dX1_init_14 rfl (lv_at hl 0 rfl) ?_
  refine lv_iconst (v := 4) hx hb dX1_init_15 (by decide) ?_
  refine va_newq hx hb hown (hw _ uw99) hKK.2.2 hK hP hD hS hA (n := 4) (N' := 4) (by decide) (by decide) (Nat.le_of_ble_eq_true rfl) (Nat.le_of_ble_eq_true rfl) (Nat.le_of_ble_eq_true rfl) dX1_init_16 (fun qr cA H hK1 hP hD hS => ?_)
  have eA := hx_cS hKK hK1
  rw [eA] at hP hD
  clear hK1 eA
  refine W.widen (k := 1) (n := 4) (Nat.le_of_ble_eq_true rfl) (Nat.le_of_ble_eq_true rfl) ?_
  have hP : va_P D vwCl ((h0, .inr (1, [.int 0, .int 0, .null])) :: [(qr, .inl (cS, 4, .inr (.inr (.inr (.inr (fun _ => none))))))]) H := hP
  have hD : va_D A ((h0, .inr (1, [.int 0, .int 0, .null])) :: [(qr, .inl (cS, 4, .inr (.inr (.inr (.inr (fun _ => none))))))]) := hD
  refine va_putF (D := D) (ci := 1) (v := .ref qr) (ty := .array (.object "GuessingHall$State")) (C := RX1) (T := TX1) (N := 3) hx hb hw inlX1 tyX1 tyX1_ok nmX1 hown hK hP hD hS 0 rfl rfl 2 (by decide) (hw _ uw100) (fun _ h9 => h9) rfl hin rfl (by decide +kernel) rfl rfl (Nat.le_of_ble_eq_true rfl) dX1_init_19 (fun H locs hP hD hS => ?_)
  have hP : va_P D vwCl ((h0, .inr (1, [.int 0, .int 0, .ref qr])) :: [(qr, .inl (cS, 4, .inr (.inr (.inr (.inr (fun _ => none))))))]) H := hP
  have hD : va_D A ((h0, .inr (1, [.int 0, .int 0, .ref qr])) :: [(qr, .inl (cS, 4, .inr (.inr (.inr (.inr (fun _ => none))))))]) := hD
  refine lv_iconst (v := 0) hx hb dX1_init_22 (by decide) ?_
  refine lv_istore_n hx hb dX1_init_23 rfl hl (by decide) rfl (fun ls hl => ?_)
  have hl : lv_has ls 2 [(1, .int (nI 0)), (0, .ref h0)] := hl
  refine lv_iload_n hx hb dX1_init_24 rfl (lv_at hl 0 rfl) ?_
  refine lv_aload_n hx hb dX1_init_25 rfl (lv_at hl 1 rfl) ?_
  refine va_get (D := D) (ci := 1) (v := .ref qr) (C := RX1) (T := TX1) (N := 3) hx hb hw inlX1 hown hK hP 0 rfl rfl 2 (by decide) (hw _ uw100) (fun _ h9 => h9) rfl dX1_init_26 ?_
  refine va_alen (x := (4, .inr (.inr (.inr (.inr (fun _ => none)))))) (v := 4) hx hb hK hP 1 1 rfl rfl rfl dX1_init_29 ?_
  refine lv_icmp_ge hx hb dX1_init_30 (tgt := 52) rfl (fun hge => absurd hge (by decide)) (fun _ => ?_)
  refine lv_aload_n hx hb dX1_init_33 rfl (lv_at hl 1 rfl) ?_
  refine va_get (D := D) (ci := 1) (v := .ref qr) (C := RX1) (T := TX1) (N := 3) hx hb hw inlX1 hown hK hP 0 rfl rfl 2 (by decide) (hw _ uw100) (fun _ h9 => h9) rfl dX1_init_34 ?_
  refine lv_iload_n hx hb dX1_init_37 rfl (lv_at hl 0 rfl) ?_
  refine va_new (ci := 5) (fs := [.null, .null, .null, .null, .int 0, .int 0, .int 0, .int 0, .int 0]) (C := RX5) (T := TX5) (N := 9) hx hb hw inlX5 tyX5 tyX5_ok hown (hw _ uw99) (hw _ uw13) (hw _ uw14) hK hP hD hS hA rfl (fun j hj => by rcases (show j = 0 ∨ j = 1 ∨ j = 2 ∨ j = 3 ∨ j = 4 ∨ j = 5 ∨ j = 6 ∨ j = 7 ∨ j = 8 by omega) with rfl | rfl | rfl | rfl | rfl | rfl | rfl | rfl | rfl <;> rfl) (Nat.le_of_ble_eq_true rfl) (Nat.le_of_ble_eq_true rfl) dX1_init_38 (fun q0 H hP hD hS => ?_)
  refine W.widen (k := 2) (n := 13) (Nat.le_of_ble_eq_true rfl) (Nat.le_of_ble_eq_true rfl) ?_
  have hP : va_P D vwCl (((h0, .inr (1, [.int 0, .int 0, .ref qr])) :: (qr, .inl (cS, 4, .inr (.inr (.inr (.inr (fun _ => none)))))) :: []) ++ [(q0, .inr (5, [.null, .null, .null, .null, .int 0, .int 0, .int 0, .int 0, .int 0]))]) H := hP
  have hD : va_D A (((h0, .inr (1, [.int 0, .int 0, .ref qr])) :: (qr, .inl (cS, 4, .inr (.inr (.inr (.inr (fun _ => none)))))) :: []) ++ [(q0, .inr (5, [.null, .null, .null, .null, .int 0, .int 0, .int 0, .int 0, .int 0]))]) := hD
  refine lv_dup hx hb dX1_init_41 rfl ?_
  have hPc := hx_cut hP
  have hFc := hx_free hD hS hA
  refine va_callv (va_runIN (As := []) (rest := [.ref q0, .int (nI 0), .ref qr]) ⟨hx, hb, hml, hown, hw⟩ (cc_X5_init l D cI cS q0 H.size) ⟨va_cnB 0 hw (gh_g1 uw27) rfl rfl rfl (hKK.2.1.2.2.2.2.2.2.2.2.2.2.1) (hw _ uw14) (by decide +kernel) ⟨(Nat.le_of_ble_eq_true rfl), (Nat.le_of_ble_eq_true rfl)⟩, rfl, (hw _ uw26)⟩ (hx_pre hPc hKK) rfl rfl hl.1 rfl (lv_room (Nat.le_of_ble_eq_true rfl)) dX1_init_42 ⟨(Nat.le_of_ble_eq_true rfl), (Nat.le_of_ble_eq_true rfl)⟩) hS (fun q _ h => hFc q h) hFc (fun S0 t H1 locs ht _ wS0 hB1 _ hk1 hS => ?_)
  obtain ⟨hP1, hD1⟩ := hB1
  rw [ht] at hP1
  obtain ⟨hP, hD⟩ := hx_join hP hD hk1 hFc hP1 hD1
  clear hPc hFc hk1 hP1 hD1
  generalize H1 = H at hP hS ⊢
  obtain ⟨wS0, aS0⟩ := wS0
  have nS0 : S0.length = 33 := wS0.1
  obtain ⟨vsS0, rS0⟩ := wS0.root
  rw [aS0] at rS0
  have hq : (((h0, .inr (1, [.int 0, .int 0, .ref qr])) :: (qr, .inl (cS, 4, .inr (.inr (.inr (.inr (fun _ => none)))))) :: []) ++ S0)[2]? = some (q0, .inr (5, vsS0)) := (hx_r (by simp only [List.length_cons, List.length_append, List.length_nil])).trans rS0
  have hP : va_P D vwCl ((h0, .inr (1, [.int 0, .int 0, .ref qr])) :: (qr, .inl (cS, 4, .inr (.inr (.inr (.inr (fun _ => none)))))) :: S0) H := hP
  have hD : va_D A ((h0, .inr (1, [.int 0, .int 0, .ref qr])) :: (qr, .inl (cS, 4, .inr (.inr (.inr (.inr (fun _ => none)))))) :: S0) := hD
  have hq : ((h0, .inr (1, [.int 0, .int 0, .ref qr])) :: (qr, .inl (cS, 4, .inr (.inr (.inr (.inr (fun _ => none)))))) :: S0)[2]? = some (q0, .inr (5, vsS0)) := hq
  refine W.widen (k := 34) (n := 281) (Nat.le_of_ble_eq_true rfl) (Nat.le_of_ble_eq_true rfl) ?_
  refine va_astq (r := (RX5, TX5, 9)) hx hb hK hP hD hS 1 1 2 5 rfl rfl hq rfl (pu_in (n := 0) (by omega) (by omega)) dX1_init_45 (fun H locs hP hD hS => ?_)
  have hP : va_P D vwCl ((h0, .inr (1, [.int 0, .int 0, .ref qr])) :: (qr, .inl (cS, 4, .inr (.inr (.inr (.inr (va_up (fun _ => none) 0 (some q0))))))) :: S0) H := hP
  have hD : va_D A ((h0, .inr (1, [.int 0, .int 0, .ref qr])) :: (qr, .inl (cS, 4, .inr (.inr (.inr (.inr (va_up (fun _ => none) 0 (some q0))))))) :: S0) := hD
  refine lv_iinc (v := nI 1) hx hb dX1_init_46 hl (k := 0) rfl rfl (by decide) rfl (fun ls hl => ?_)
  have hl : lv_has ls 2 [(1, .int (nI 1)), (0, .ref h0)] := hl
  refine lv_goto hx hb dX1_init_49 (tgt := 24) rfl ?_
  refine lv_iload_n hx hb dX1_init_24 rfl (lv_at hl 0 rfl) ?_
  refine lv_aload_n hx hb dX1_init_25 rfl (lv_at hl 1 rfl) ?_
  refine va_get (D := D) (ci := 1) (v := .ref qr) (C := RX1) (T := TX1) (N := 3) hx hb hw inlX1 hown hK hP 0 rfl rfl 2 (by decide) (hw _ uw100) (fun _ h9 => h9) rfl dX1_init_26 ?_
  refine va_alen (x := (4, .inr (.inr (.inr (.inr (va_up (fun _ => none) 0 (some q0))))))) (v := 4) hx hb hK hP 1 1 rfl rfl rfl dX1_init_29 ?_
  refine lv_icmp_ge hx hb dX1_init_30 (tgt := 52) rfl (fun hge => absurd hge (by decide)) (fun _ => ?_)
  refine lv_aload_n hx hb dX1_init_33 rfl (lv_at hl 1 rfl) ?_
  refine va_get (D := D) (ci := 1) (v := .ref qr) (C := RX1) (T := TX1) (N := 3) hx hb hw inlX1 hown hK hP 0 rfl rfl 2 (by decide) (hw _ uw100) (fun _ h9 => h9) rfl dX1_init_34 ?_
  refine lv_iload_n hx hb dX1_init_37 rfl (lv_at hl 0 rfl) ?_
  refine va_new (ci := 5) (fs := [.null, .null, .null, .null, .int 0, .int 0, .int 0, .int 0, .int 0]) (C := RX5) (T := TX5) (N := 9) hx hb hw inlX5 tyX5 tyX5_ok hown (hw _ uw99) (hw _ uw13) (hw _ uw14) hK hP hD hS hA rfl (fun j hj => by rcases (show j = 0 ∨ j = 1 ∨ j = 2 ∨ j = 3 ∨ j = 4 ∨ j = 5 ∨ j = 6 ∨ j = 7 ∨ j = 8 by omega) with rfl | rfl | rfl | rfl | rfl | rfl | rfl | rfl | rfl <;> rfl) (Nat.le_of_ble_eq_true rfl) (Nat.le_of_ble_eq_true rfl) dX1_init_38 (fun q1 H hP hD hS => ?_)
  refine W.widen (k := 35) (n := 290) (Nat.le_of_ble_eq_true rfl) (Nat.le_of_ble_eq_true rfl) ?_
  have hP : va_P D vwCl (((h0, .inr (1, [.int 0, .int 0, .ref qr])) :: (qr, .inl (cS, 4, .inr (.inr (.inr (.inr (va_up (fun _ => none) 0 (some q0))))))) :: S0) ++ [(q1, .inr (5, [.null, .null, .null, .null, .int 0, .int 0, .int 0, .int 0, .int 0]))]) H := hP
  have hD : va_D A (((h0, .inr (1, [.int 0, .int 0, .ref qr])) :: (qr, .inl (cS, 4, .inr (.inr (.inr (.inr (va_up (fun _ => none) 0 (some q0))))))) :: S0) ++ [(q1, .inr (5, [.null, .null, .null, .null, .int 0, .int 0, .int 0, .int 0, .int 0]))]) := hD
  refine lv_dup hx hb dX1_init_41 rfl ?_
  have hPc := hx_cut hP
  have hFc := hx_free hD hS hA
  refine va_callv (va_runIN (As := []) (rest := [.ref q1, .int (nI 1), .ref qr]) ⟨hx, hb, hml, hown, hw⟩ (cc_X5_init l D cI cS q1 H.size) ⟨va_cnB 0 hw (gh_g1 uw27) rfl rfl rfl (hKK.2.1.2.2.2.2.2.2.2.2.2.2.1) (hw _ uw14) (by decide +kernel) ⟨(Nat.le_of_ble_eq_true rfl), (Nat.le_of_ble_eq_true rfl)⟩, rfl, (hw _ uw26)⟩ (hx_pre hPc hKK) rfl rfl hl.1 rfl (lv_room (Nat.le_of_ble_eq_true rfl)) dX1_init_42 ⟨(Nat.le_of_ble_eq_true rfl), (Nat.le_of_ble_eq_true rfl)⟩) hS (fun q _ h => hFc q h) hFc (fun S1 t H1 locs ht _ wS1 hB1 _ hk1 hS => ?_)
  obtain ⟨hP1, hD1⟩ := hB1
  rw [ht] at hP1
  obtain ⟨hP, hD⟩ := hx_join hP hD hk1 hFc hP1 hD1
  clear hPc hFc hk1 hP1 hD1
  generalize H1 = H at hP hS ⊢
  obtain ⟨wS1, aS1⟩ := wS1
  have nS1 : S1.length = 33 := wS1.1
  obtain ⟨vsS1, rS1⟩ := wS1.root
  rw [aS1] at rS1
  have hq : (((h0, .inr (1, [.int 0, .int 0, .ref qr])) :: (qr, .inl (cS, 4, .inr (.inr (.inr (.inr (va_up (fun _ => none) 0 (some q0))))))) :: S0) ++ S1)[35]? = some (q1, .inr (5, vsS1)) := (hx_r (by simp only [List.length_cons, List.length_append, List.length_nil, nS0])).trans rS1
  have hP : va_P D vwCl ((h0, .inr (1, [.int 0, .int 0, .ref qr])) :: (qr, .inl (cS, 4, .inr (.inr (.inr (.inr (va_up (fun _ => none) 0 (some q0))))))) :: (S0 ++ S1)) H := hP
  have hD : va_D A ((h0, .inr (1, [.int 0, .int 0, .ref qr])) :: (qr, .inl (cS, 4, .inr (.inr (.inr (.inr (va_up (fun _ => none) 0 (some q0))))))) :: (S0 ++ S1)) := hD
  have hq : ((h0, .inr (1, [.int 0, .int 0, .ref qr])) :: (qr, .inl (cS, 4, .inr (.inr (.inr (.inr (va_up (fun _ => none) 0 (some q0))))))) :: (S0 ++ S1))[35]? = some (q1, .inr (5, vsS1)) := hq
  refine W.widen (k := 67) (n := 558) (Nat.le_of_ble_eq_true rfl) (Nat.le_of_ble_eq_true rfl) ?_
  refine va_astq (r := (RX5, TX5, 9)) hx hb hK hP hD hS 1 1 35 5 rfl rfl hq rfl (pu_in (n := 1) (by omega) (by omega)) dX1_init_45 (fun H locs hP hD hS => ?_)
  have hP : va_P D vwCl ((h0, .inr (1, [.int 0, .int 0, .ref qr])) :: (qr, .inl (cS, 4, .inr (.inr (.inr (.inr (va_up (va_up (fun _ => none) 0 (some q0)) 1 (some q1))))))) :: (S0 ++ S1)) H := hP
  have hD : va_D A ((h0, .inr (1, [.int 0, .int 0, .ref qr])) :: (qr, .inl (cS, 4, .inr (.inr (.inr (.inr (va_up (va_up (fun _ => none) 0 (some q0)) 1 (some q1))))))) :: (S0 ++ S1)) := hD
  refine lv_iinc (v := nI 2) hx hb dX1_init_46 hl (k := 0) rfl rfl (by decide) rfl (fun ls hl => ?_)
  have hl : lv_has ls 2 [(1, .int (nI 2)), (0, .ref h0)] := hl
  refine lv_goto hx hb dX1_init_49 (tgt := 24) rfl ?_
  refine lv_iload_n hx hb dX1_init_24 rfl (lv_at hl 0 rfl) ?_
  refine lv_aload_n hx hb dX1_init_25 rfl (lv_at hl 1 rfl) ?_
  refine va_get (D := D) (ci := 1) (v := .ref qr) (C := RX1) (T := TX1) (N := 3) hx hb hw inlX1 hown hK hP 0 rfl rfl 2 (by decide) (hw _ uw100) (fun _ h9 => h9) rfl dX1_init_26 ?_
  refine va_alen (x := (4, .inr (.inr (.inr (.inr (va_up (va_up (fun _ => none) 0 (some q0)) 1 (some q1))))))) (v := 4) hx hb hK hP 1 1 rfl rfl rfl dX1_init_29 ?_
  refine lv_icmp_ge hx hb dX1_init_30 (tgt := 52) rfl (fun hge => absurd hge (by decide)) (fun _ => ?_)
  refine lv_aload_n hx hb dX1_init_33 rfl (lv_at hl 1 rfl) ?_
  refine va_get (D := D) (ci := 1) (v := .ref qr) (C := RX1) (T := TX1) (N := 3) hx hb hw inlX1 hown hK hP 0 rfl rfl 2 (by decide) (hw _ uw100) (fun _ h9 => h9) rfl dX1_init_34 ?_
  refine lv_iload_n hx hb dX1_init_37 rfl (lv_at hl 0 rfl) ?_
  refine va_new (ci := 5) (fs := [.null, .null, .null, .null, .int 0, .int 0, .int 0, .int 0, .int 0]) (C := RX5) (T := TX5) (N := 9) hx hb hw inlX5 tyX5 tyX5_ok hown (hw _ uw99) (hw _ uw13) (hw _ uw14) hK hP hD hS hA rfl (fun j hj => by rcases (show j = 0 ∨ j = 1 ∨ j = 2 ∨ j = 3 ∨ j = 4 ∨ j = 5 ∨ j = 6 ∨ j = 7 ∨ j = 8 by omega) with rfl | rfl | rfl | rfl | rfl | rfl | rfl | rfl | rfl <;> rfl) (Nat.le_of_ble_eq_true rfl) (Nat.le_of_ble_eq_true rfl) dX1_init_38 (fun q2 H hP hD hS => ?_)
  refine W.widen (k := 68) (n := 567) (Nat.le_of_ble_eq_true rfl) (Nat.le_of_ble_eq_true rfl) ?_
  have hP : va_P D vwCl (((h0, .inr (1, [.int 0, .int 0, .ref qr])) :: (qr, .inl (cS, 4, .inr (.inr (.inr (.inr (va_up (va_up (fun _ => none) 0 (some q0)) 1 (some q1))))))) :: (S0 ++ S1)) ++ [(q2, .inr (5, [.null, .null, .null, .null, .int 0, .int 0, .int 0, .int 0, .int 0]))]) H := hP
  have hD : va_D A (((h0, .inr (1, [.int 0, .int 0, .ref qr])) :: (qr, .inl (cS, 4, .inr (.inr (.inr (.inr (va_up (va_up (fun _ => none) 0 (some q0)) 1 (some q1))))))) :: (S0 ++ S1)) ++ [(q2, .inr (5, [.null, .null, .null, .null, .int 0, .int 0, .int 0, .int 0, .int 0]))]) := hD
  refine lv_dup hx hb dX1_init_41 rfl ?_
  have hPc := hx_cut hP
  have hFc := hx_free hD hS hA
  refine va_callv (va_runIN (As := []) (rest := [.ref q2, .int (nI 2), .ref qr]) ⟨hx, hb, hml, hown, hw⟩ (cc_X5_init l D cI cS q2 H.size) ⟨va_cnB 0 hw (gh_g1 uw27) rfl rfl rfl (hKK.2.1.2.2.2.2.2.2.2.2.2.2.1) (hw _ uw14) (by decide +kernel) ⟨(Nat.le_of_ble_eq_true rfl), (Nat.le_of_ble_eq_true rfl)⟩, rfl, (hw _ uw26)⟩ (hx_pre hPc hKK) rfl rfl hl.1 rfl (lv_room (Nat.le_of_ble_eq_true rfl)) dX1_init_42 ⟨(Nat.le_of_ble_eq_true rfl), (Nat.le_of_ble_eq_true rfl)⟩) hS (fun q _ h => hFc q h) hFc (fun S2 t H1 locs ht _ wS2 hB1 _ hk1 hS => ?_)
  obtain ⟨hP1, hD1⟩ := hB1
  rw [ht] at hP1
  obtain ⟨hP, hD⟩ := hx_join hP hD hk1 hFc hP1 hD1
  clear hPc hFc hk1 hP1 hD1
  generalize H1 = H at hP hS ⊢
  obtain ⟨wS2, aS2⟩ := wS2
  have nS2 : S2.length = 33 := wS2.1
  obtain ⟨vsS2, rS2⟩ := wS2.root
  rw [aS2] at rS2
  have hq : (((h0, .inr (1, [.int 0, .int 0, .ref qr])) :: (qr, .inl (cS, 4, .inr (.inr (.inr (.inr (va_up (va_up (fun _ => none) 0 (some q0)) 1 (some q1))))))) :: (S0 ++ S1)) ++ S2)[68]? = some (q2, .inr (5, vsS2)) := (hx_r (by simp only [List.length_cons, List.length_append, List.length_nil, nS0, nS1])).trans rS2
  have hP : va_P D vwCl ((h0, .inr (1, [.int 0, .int 0, .ref qr])) :: (qr, .inl (cS, 4, .inr (.inr (.inr (.inr (va_up (va_up (fun _ => none) 0 (some q0)) 1 (some q1))))))) :: ((S0 ++ S1) ++ S2)) H := hP
  have hD : va_D A ((h0, .inr (1, [.int 0, .int 0, .ref qr])) :: (qr, .inl (cS, 4, .inr (.inr (.inr (.inr (va_up (va_up (fun _ => none) 0 (some q0)) 1 (some q1))))))) :: ((S0 ++ S1) ++ S2)) := hD
  have hq : ((h0, .inr (1, [.int 0, .int 0, .ref qr])) :: (qr, .inl (cS, 4, .inr (.inr (.inr (.inr (va_up (va_up (fun _ => none) 0 (some q0)) 1 (some q1))))))) :: ((S0 ++ S1) ++ S2))[68]? = some (q2, .inr (5, vsS2)) := hq
  refine W.widen (k := 100) (n := 835) (Nat.le_of_ble_eq_true rfl) (Nat.le_of_ble_eq_true rfl) ?_
  refine va_astq (r := (RX5, TX5, 9)) hx hb hK hP hD hS 1 1 68 5 rfl rfl hq rfl (pu_in (n := 2) (by omega) (by omega)) dX1_init_45 (fun H locs hP hD hS => ?_)
  have hP : va_P D vwCl ((h0, .inr (1, [.int 0, .int 0, .ref qr])) :: (qr, .inl (cS, 4, .inr (.inr (.inr (.inr (va_up (va_up (va_up (fun _ => none) 0 (some q0)) 1 (some q1)) 2 (some q2))))))) :: ((S0 ++ S1) ++ S2)) H := hP
  have hD : va_D A ((h0, .inr (1, [.int 0, .int 0, .ref qr])) :: (qr, .inl (cS, 4, .inr (.inr (.inr (.inr (va_up (va_up (va_up (fun _ => none) 0 (some q0)) 1 (some q1)) 2 (some q2))))))) :: ((S0 ++ S1) ++ S2)) := hD
  refine lv_iinc (v := nI 3) hx hb dX1_init_46 hl (k := 0) rfl rfl (by decide) rfl (fun ls hl => ?_)
  have hl : lv_has ls 2 [(1, .int (nI 3)), (0, .ref h0)] := hl
  refine lv_goto hx hb dX1_init_49 (tgt := 24) rfl ?_
  refine lv_iload_n hx hb dX1_init_24 rfl (lv_at hl 0 rfl) ?_
  refine lv_aload_n hx hb dX1_init_25 rfl (lv_at hl 1 rfl) ?_
  refine va_get (D := D) (ci := 1) (v := .ref qr) (C := RX1) (T := TX1) (N := 3) hx hb hw inlX1 hown hK hP 0 rfl rfl 2 (by decide) (hw _ uw100) (fun _ h9 => h9) rfl dX1_init_26 ?_
  refine va_alen (x := (4, .inr (.inr (.inr (.inr (va_up (va_up (va_up (fun _ => none) 0 (some q0)) 1 (some q1)) 2 (some q2))))))) (v := 4) hx hb hK hP 1 1 rfl rfl rfl dX1_init_29 ?_
  refine lv_icmp_ge hx hb dX1_init_30 (tgt := 52) rfl (fun hge => absurd hge (by decide)) (fun _ => ?_)
  refine lv_aload_n hx hb dX1_init_33 rfl (lv_at hl 1 rfl) ?_
  refine va_get (D := D) (ci := 1) (v := .ref qr) (C := RX1) (T := TX1) (N := 3) hx hb hw inlX1 hown hK hP 0 rfl rfl 2 (by decide) (hw _ uw100) (fun _ h9 => h9) rfl dX1_init_34 ?_
  refine lv_iload_n hx hb dX1_init_37 rfl (lv_at hl 0 rfl) ?_
  refine va_new (ci := 5) (fs := [.null, .null, .null, .null, .int 0, .int 0, .int 0, .int 0, .int 0]) (C := RX5) (T := TX5) (N := 9) hx hb hw inlX5 tyX5 tyX5_ok hown (hw _ uw99) (hw _ uw13) (hw _ uw14) hK hP hD hS hA rfl (fun j hj => by rcases (show j = 0 ∨ j = 1 ∨ j = 2 ∨ j = 3 ∨ j = 4 ∨ j = 5 ∨ j = 6 ∨ j = 7 ∨ j = 8 by omega) with rfl | rfl | rfl | rfl | rfl | rfl | rfl | rfl | rfl <;> rfl) (Nat.le_of_ble_eq_true rfl) (Nat.le_of_ble_eq_true rfl) dX1_init_38 (fun q3 H hP hD hS => ?_)
  refine W.widen (k := 101) (n := 844) (Nat.le_of_ble_eq_true rfl) (Nat.le_of_ble_eq_true rfl) ?_
  have hP : va_P D vwCl (((h0, .inr (1, [.int 0, .int 0, .ref qr])) :: (qr, .inl (cS, 4, .inr (.inr (.inr (.inr (va_up (va_up (va_up (fun _ => none) 0 (some q0)) 1 (some q1)) 2 (some q2))))))) :: ((S0 ++ S1) ++ S2)) ++ [(q3, .inr (5, [.null, .null, .null, .null, .int 0, .int 0, .int 0, .int 0, .int 0]))]) H := hP
  have hD : va_D A (((h0, .inr (1, [.int 0, .int 0, .ref qr])) :: (qr, .inl (cS, 4, .inr (.inr (.inr (.inr (va_up (va_up (va_up (fun _ => none) 0 (some q0)) 1 (some q1)) 2 (some q2))))))) :: ((S0 ++ S1) ++ S2)) ++ [(q3, .inr (5, [.null, .null, .null, .null, .int 0, .int 0, .int 0, .int 0, .int 0]))]) := hD
  refine lv_dup hx hb dX1_init_41 rfl ?_
  have hPc := hx_cut hP
  have hFc := hx_free hD hS hA
  refine va_callv (va_runIN (As := []) (rest := [.ref q3, .int (nI 3), .ref qr]) ⟨hx, hb, hml, hown, hw⟩ (cc_X5_init l D cI cS q3 H.size) ⟨va_cnB 0 hw (gh_g1 uw27) rfl rfl rfl (hKK.2.1.2.2.2.2.2.2.2.2.2.2.1) (hw _ uw14) (by decide +kernel) ⟨(Nat.le_of_ble_eq_true rfl), (Nat.le_of_ble_eq_true rfl)⟩, rfl, (hw _ uw26)⟩ (hx_pre hPc hKK) rfl rfl hl.1 rfl (lv_room (Nat.le_of_ble_eq_true rfl)) dX1_init_42 ⟨(Nat.le_of_ble_eq_true rfl), (Nat.le_of_ble_eq_true rfl)⟩) hS (fun q _ h => hFc q h) hFc (fun S3 t H1 locs ht _ wS3 hB1 _ hk1 hS => ?_)
  obtain ⟨hP1, hD1⟩ := hB1
  rw [ht] at hP1
  obtain ⟨hP, hD⟩ := hx_join hP hD hk1 hFc hP1 hD1
  clear hPc hFc hk1 hP1 hD1
  generalize H1 = H at hP hS ⊢
  obtain ⟨wS3, aS3⟩ := wS3
  have nS3 : S3.length = 33 := wS3.1
  obtain ⟨vsS3, rS3⟩ := wS3.root
  rw [aS3] at rS3
  have hq : (((h0, .inr (1, [.int 0, .int 0, .ref qr])) :: (qr, .inl (cS, 4, .inr (.inr (.inr (.inr (va_up (va_up (va_up (fun _ => none) 0 (some q0)) 1 (some q1)) 2 (some q2))))))) :: ((S0 ++ S1) ++ S2)) ++ S3)[101]? = some (q3, .inr (5, vsS3)) := (hx_r (by simp only [List.length_cons, List.length_append, List.length_nil, nS0, nS1, nS2])).trans rS3
  have hP : va_P D vwCl ((h0, .inr (1, [.int 0, .int 0, .ref qr])) :: (qr, .inl (cS, 4, .inr (.inr (.inr (.inr (va_up (va_up (va_up (fun _ => none) 0 (some q0)) 1 (some q1)) 2 (some q2))))))) :: (((S0 ++ S1) ++ S2) ++ S3)) H := hP
  have hD : va_D A ((h0, .inr (1, [.int 0, .int 0, .ref qr])) :: (qr, .inl (cS, 4, .inr (.inr (.inr (.inr (va_up (va_up (va_up (fun _ => none) 0 (some q0)) 1 (some q1)) 2 (some q2))))))) :: (((S0 ++ S1) ++ S2) ++ S3)) := hD
  have hq : ((h0, .inr (1, [.int 0, .int 0, .ref qr])) :: (qr, .inl (cS, 4, .inr (.inr (.inr (.inr (va_up (va_up (va_up (fun _ => none) 0 (some q0)) 1 (some q1)) 2 (some q2))))))) :: (((S0 ++ S1) ++ S2) ++ S3))[101]? = some (q3, .inr (5, vsS3)) := hq
  refine W.widen (k := 133) (n := 1112) (Nat.le_of_ble_eq_true rfl) (Nat.le_of_ble_eq_true rfl) ?_
  refine va_astq (r := (RX5, TX5, 9)) hx hb hK hP hD hS 1 1 101 5 rfl rfl hq rfl (pu_in (n := 3) (by omega) (by omega)) dX1_init_45 (fun H locs hP hD hS => ?_)
  have hP : va_P D vwCl ((h0, .inr (1, [.int 0, .int 0, .ref qr])) :: (qr, .inl (cS, 4, .inr (.inr (.inr (.inr (va_up (va_up (va_up (va_up (fun _ => none) 0 (some q0)) 1 (some q1)) 2 (some q2)) 3 (some q3))))))) :: (((S0 ++ S1) ++ S2) ++ S3)) H := hP
  have hD : va_D A ((h0, .inr (1, [.int 0, .int 0, .ref qr])) :: (qr, .inl (cS, 4, .inr (.inr (.inr (.inr (va_up (va_up (va_up (va_up (fun _ => none) 0 (some q0)) 1 (some q1)) 2 (some q2)) 3 (some q3))))))) :: (((S0 ++ S1) ++ S2) ++ S3)) := hD
  refine lv_iinc (v := nI 4) hx hb dX1_init_46 hl (k := 0) rfl rfl (by decide) rfl (fun ls hl => ?_)
  have hl : lv_has ls 2 [(1, .int (nI 4)), (0, .ref h0)] := hl
  refine lv_goto hx hb dX1_init_49 (tgt := 24) rfl ?_
  refine lv_iload_n hx hb dX1_init_24 rfl (lv_at hl 0 rfl) ?_
  refine lv_aload_n hx hb dX1_init_25 rfl (lv_at hl 1 rfl) ?_
  refine va_get (D := D) (ci := 1) (v := .ref qr) (C := RX1) (T := TX1) (N := 3) hx hb hw inlX1 hown hK hP 0 rfl rfl 2 (by decide) (hw _ uw100) (fun _ h9 => h9) rfl dX1_init_26 ?_
  refine va_alen (x := (4, .inr (.inr (.inr (.inr (va_up (va_up (va_up (va_up (fun _ => none) 0 (some q0)) 1 (some q1)) 2 (some q2)) 3 (some q3))))))) (v := 4) hx hb hK hP 1 1 rfl rfl rfl dX1_init_29 ?_
  refine lv_icmp_ge hx hb dX1_init_30 (tgt := 52) rfl (fun _ => ?_) (fun hge => absurd (show (4 : Int32) ≤ nI 4 by decide) hge)
  have W1 := wS0.app wS1 (by decide +kernel) (v := hv2) (fun k hk => by have hk : k < 33 := hk; rw [hvS_if]; unfold hv2; split <;> (try split) <;> first | rfl | (exfalso; omega)) (fun k hk => by have hk : k < 33 := hk; show hv2 (33 + k) = _; rw [hvS_if]; unfold hv2; split <;> (try split) <;> first | rfl | (exfalso; omega))
  have W2 := W1.app wS2 (by decide +kernel) (v := hv3) (fun k hk => by have hk : k < 66 := hk; unfold hv3 hv2; split <;> (try split) <;> first | rfl | (exfalso; omega)) (fun k hk => by have hk : k < 33 := hk; show hv3 (66 + k) = _; rw [hvS_if]; unfold hv3; split <;> (try split) <;> first | rfl | (exfalso; omega))
  have W3 := W2.app wS3 (by decide +kernel) (v := hv4) (fun k hk => by have hk : k < 99 := hk; unfold hv4 hv3; split <;> (try split) <;> first | rfl | (exfalso; omega)) (fun k hk => by have hk : k < 33 := hk; show hv4 (99 + k) = _; rw [hvS_if]; unfold hv4; split <;> (try split) <;> first | rfl | (exfalso; omega))
  have b0 : adL (((S0 ++ S1) ++ S2) ++ S3) 0 = q0 := by rw [adL_l (L1 := ((S0 ++ S1) ++ S2)) (L2 := S3) (k := 0) (by simp only [List.length_append, nS0, nS1, nS2, nS3]; omega), adL_l (L1 := (S0 ++ S1)) (L2 := S2) (k := 0) (by simp only [List.length_append, nS0, nS1, nS2, nS3]; omega), adL_l (L1 := S0) (L2 := S1) (k := 0) (by simp only [List.length_append, nS0, nS1, nS2, nS3]; omega)]; exact aS0
  have b1 : adL (((S0 ++ S1) ++ S2) ++ S3) 33 = q1 := by rw [adL_l (L1 := ((S0 ++ S1) ++ S2)) (L2 := S3) (k := 33) (by simp only [List.length_append, nS0, nS1, nS2, nS3]; omega), adL_l (L1 := (S0 ++ S1)) (L2 := S2) (k := 33) (by simp only [List.length_append, nS0, nS1, nS2, nS3]; omega), (adL_r (k := 0) (n := 33) (L1 := S0) (L2 := S1) (by simp only [List.length_append, nS0, nS1, nS2, nS3]) : adL (S0 ++ S1) 33 = adL S1 0)]; exact aS1
  have b2 : adL (((S0 ++ S1) ++ S2) ++ S3) 66 = q2 := by rw [adL_l (L1 := ((S0 ++ S1) ++ S2)) (L2 := S3) (k := 66) (by simp only [List.length_append, nS0, nS1, nS2, nS3]; omega), (adL_r (k := 0) (n := 66) (L1 := (S0 ++ S1)) (L2 := S2) (by simp only [List.length_append, nS0, nS1, nS2, nS3]) : adL ((S0 ++ S1) ++ S2) 66 = adL S2 0)]; exact aS2
  have b3 : adL (((S0 ++ S1) ++ S2) ++ S3) 99 = q3 := by rw [(adL_r (k := 0) (n := 99) (L1 := ((S0 ++ S1) ++ S2)) (L2 := S3) (by simp only [List.length_append, nS0, nS1, nS2, nS3]) : adL (((S0 ++ S1) ++ S2) ++ S3) 99 = adL S3 0)]; exact aS3
  have W4 : wl D cI cS ((qr, .inl (cS, 4, .inr (.inr (.inr (.inr (va_up (va_up (va_up (va_up (fun _ => none) 0 (some q0)) 1 (some q1)) 2 (some q2)) 3 (some q3))))))) :: (((S0 ++ S1) ++ S2) ++ S3)) (10 :: (((gh_st ++ gh_st) ++ gh_st) ++ gh_st)) hvR := W3.cons (v := hvR) (fun k hk => by unfold hvR hv4; split <;> (try split) <;> first | rfl | (exfalso; omega)) (Or.inr ⟨cS, (va_up (va_up (va_up (va_up (fun _ => none) 0 (some q0)) 1 (some q1)) 2 (some q2)) 3 (some q3)), _, rfl, rfl, fun j hj => by
    rcases (show j = 0 ∨ j = 1 ∨ j = 2 ∨ j = 3 by omega) with rfl | rfl | rfl | rfl
    · exact congrArg some b0.symm
    · exact congrArg some b1.symm
    · exact congrArg some b2.symm
    · exact congrArg some b3.symm⟩)
  have WW : wl D cI cS ((h0, .inr (1, [.int 0, .int 0, .ref qr])) :: (qr, .inl (cS, 4, .inr (.inr (.inr (.inr (va_up (va_up (va_up (va_up (fun _ => none) 0 (some q0)) 1 (some q1)) 2 (some q2)) 3 (some q3))))))) :: (((S0 ++ S1) ++ S2) ++ S3)) (1 :: 10 :: (((gh_st ++ gh_st) ++ gh_st) ++ gh_st)) hvH := W4.cons (v := hvH) (fun k hk => by unfold hvH hvR; split <;> (try split) <;> first | rfl | (exfalso; omega)) (Or.inl rfl)
  exact W.vret hx hb hr (fun t ht hW => ⟨⟨((h0, .inr (1, [.int 0, .int 0, .ref qr])) :: (qr, .inl (cS, 4, .inr (.inr (.inr (.inr (va_up (va_up (va_up (va_up (fun _ => none) 0 (some q0)) 1 (some q1)) 2 (some q2)) 3 (some q3))))))) :: (((S0 ++ S1) ++ S2) ++ S3)), rfl, ⟨WW, rfl⟩, by rw [ht]; exact hP, hD⟩, hS.F ht⟩) hS.2.2 dX1_init_52 hlocks
