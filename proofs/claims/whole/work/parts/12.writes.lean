theorem gv_RX8_60 : GoodIn wsL_law (wsV RX8 60 RX1 yX1_record wc_X1_record) := gh_gV uw138 uw139 uw140 uw19 uw141
theorem gv_RX8_74 : GoodIn wsL_law (wsV RX8 74 RX4 yX4_put wc_X4_put) := gh_gV uw193 uw194 uw195 uw55 uw196
def BX8_word_53 (j : Nat) (q : Nat)  (x1 : Int32) (x2 : Int32) (V : gV) : Int32 × gV := ((MX4_at 5 x1 V), (MX4_put 5 x1 x2 V))
def MX8_word (j : Nat) (q : Nat) (a1 : Int32) (a2 : Int32) (V : gV) : Int32 × gV := if (MX7_has a1 V) = 0 then (((-1 : Int32), V)) else (if (MX8_isBetween a2 (1 : Int32) (99 : Int32) V) = 0 then (((-1 : Int32), V)) else (if (V 24 0) = 0 then (BX8_word_53 j q a1 a2 (MX1_record j q V)) else (((-2 : Int32), V))))
def PX8_word (j : Nat) (q : Nat) (a1 : Int32) (a2 : Int32) (V : gV) : Prop := ((¬ (MX7_has a1 V) = 0 → ((¬ (MX8_isBetween a2 (1 : Int32) (99 : Int32) V) = 0 → (((V 24 0) = 0 → (PX1_record j q V)))))))
abbrev wc_X8_word : List Cond := Cond.code yX8_word cX8_word 4 (some .int) :: wsL_law
abbrev r_X8_word : Room := { frames := 5, cells := 0, slots := 0, locals := 125 }
theorem dd_X8_word : yX8_word.cls = RX8 ∧ yX8_word.cls ≠ "java/lang/invoke/MethodHandle" ∧ yX8_word.cls ≠ "java/lang/invoke/VarHandle" ∧ (parseMethodDescriptor yX8_word.desc).map (fun d => d.parameters.length) = some 2 := by decide +kernel
set_option maxHeartbeats 8000000 in
set_option maxRecDepth 100000 in
theorem cc_X8_word (l : Launch) (G : gG) (V : gV) (q : Nat) (hq : gX5 q) (j : Nat) (hj : j < 4) (hqj : q = 69 + 33 * j) (a1 : Int32) (a2 : Int32) (hs : PX8_word j q a1 a2 V) : Met l yX8_word wc_X8_word r_X8_word (va_Pc [.ref (gA G 0), .int a1, .int a2] (gW G V)) (gQI G (MX8_word j q a1 a2 V)) 0 0 (gF G) := by
  refine Met.ofW (cc := cX8_word) (maxL := 4) (ret := (some .int)) (by decide) rfl ?_
  intro p e s m args below meth c s₁ B hml hv
  obtain ⟨rfl, hP, hT⟩ := hv
  have hx := B.exec
  have hb := B.bytes
  have hr := B.returns
  have hw := gh_hw (atoms_spec (ws := wc_X8_word) B.pre)
  have hown : s.vm.findClass RX8 = some m.cls := findClass_of_methodNamed B.named
  have hlocks := B.notSynchronized
  have hS : va_S (gF G) s.heap s.heap [] := va_S.rf
  have hl := lv_entry ([.ref (gA G 0), .int a1, .int a2]) (n := 4) (Nat.le_of_ble_eq_true rfl)
  rw [lg_entry_eq]
  generalize (lg_sl ([.ref (gA G 0), .int a1, .int a2]) ++ List.replicate (4 - (lg_sl ([.ref (gA G 0), .int a1, .int a2])).length) Slot.unset).toArray = ls at hl ⊢
  have hl : lv_has ls 4 [(0, .ref (gA G 0)), (1, .int a1), (2, .int a2)] := hl
  obtain ⟨res, hres⟩ : ∃ r, r = MX8_word j q a1 a2 V := ⟨_, rfl⟩
  rw [← hres]
  show W p l e r_X8_word s m ([.ref (gA G 0), .int a1, .int a2] : List Value).toArray below meth c s.heap [] 0 0 (MQ below (gQI G res) ([.ref (gA G 0), .int a1, .int a2] : List Value).toArray s 0 0 (gF G)) (F0 m 0 ls [])
  have hs : ((¬ (MX7_has a1 V) = 0 → ((¬ (MX8_isBetween a2 (1 : Int32) (99 : Int32) V) = 0 → (((V 24 0) = 0 → (PX1_record j q V))))))) := hs
  have hres : res = (if (MX7_has a1 V) = 0 then (((-1 : Int32), V)) else (if (MX8_isBetween a2 (1 : Int32) (99 : Int32) V) = 0 then (((-1 : Int32), V)) else (if (V 24 0) = 0 then (BX8_word_53 j q a1 a2 (MX1_record j q V)) else (((-2 : Int32), V))))) := hres
  have b_53 : ∀ (x1 : Int32) (x2 : Int32) (V : gV) (H : Heap) (locs : List Loc) (ls : Array Slot), lv_has ls 4 [(0, .ref (gA G 0)), (1, .int x1), (2, .int x2)] → va_P (gD G) vwCl (gL G V) H → va_S (gF G) s.heap H locs → res = BX8_word_53 j q x1 x2 V → W p l e r_X8_word s m ([.ref (gA G 0), .int a1, .int a2] : List Value).toArray below meth c H locs 0 0 (MQ below (gQI G res) ([.ref (gA G 0), .int a1, .int a2] : List Value).toArray s 0 0 (gF G)) (F0 m 53 ls []) := by
    intro x1 x2 V H locs ls hl hP hS hres
    have hres : res = (((MX4_at 5 x1 V), (MX4_put 5 x1 x2 V))) := hres
    refine lv_aload_n hx hb dX8_word_53 rfl (lv_at hl 0 rfl) ?_
    refine gh_get (v := .ref (gA G 1)) (C := RX8) (T := TX8) (N := 5) hx hb hw inlX8 hown hT hP 0 (Nat.le_of_ble_eq_true rfl) kd0 rfl rfl 0 (by decide) (hw _ uw15) rfl dX8_word_54 ?_
    refine gh_get (v := .ref (gA G 2)) (C := RX5) (T := TX5) (N := 9) hx hb hw inlX5 hown hT hP 1 (Nat.le_of_ble_eq_true rfl) kd1 rfl rfl 0 (by decide) (hw _ uw126) rfl dX8_word_57 ?_
    refine gh_get (v := .ref (gA G 5)) (C := RX7) (T := TX7) (N := 5) hx hb hw inlX7 hown hT hP 2 (Nat.le_of_ble_eq_true rfl) kd2 rfl rfl 2 (by decide) (hw _ uw129) rfl dX8_word_60 ?_
    refine lv_iload_n hx hb dX8_word_63 rfl (lv_at hl 1 rfl) ?_
    refine gh_kr (va_runV (As := [.int x1]) (rest := []) ⟨hx, hb, hml, hown, hw⟩ (cc_X4_at l G V 5 gi5 x1) (cwV 1 hw gv_RX8_68 rfl rfl rfl dd_X4_at ⟨Nat.le_of_ble_eq_true rfl, Nat.le_of_ble_eq_true rfl⟩) (gh_preV hT hP (Nat.le_of_ble_eq_true rfl) kd5 rfl rfl) rfl rfl hl.1 rfl (lv_room (Nat.le_of_ble_eq_true rfl)) dX8_word_64 ⟨Nat.zero_le _, Nat.zero_le _⟩) hS (fun H locs hP hS => ?_)
    refine lv_istore_n (lv' := [(3, .int (MX4_at 5 x1 V)), (0, .ref (gA G 0)), (1, .int x1), (2, .int x2)]) hx hb dX8_word_67 rfl hl (by decide) rfl (fun ls hl => ?_)
    refine lv_aload_n hx hb dX8_word_68 rfl (lv_at hl 1 rfl) ?_
    refine gh_get (v := .ref (gA G 1)) (C := RX8) (T := TX8) (N := 5) hx hb hw inlX8 hown hT hP 0 (Nat.le_of_ble_eq_true rfl) kd0 rfl rfl 0 (by decide) (hw _ uw15) rfl dX8_word_69 ?_
    refine gh_get (v := .ref (gA G 2)) (C := RX5) (T := TX5) (N := 9) hx hb hw inlX5 hown hT hP 1 (Nat.le_of_ble_eq_true rfl) kd1 rfl rfl 0 (by decide) (hw _ uw126) rfl dX8_word_72 ?_
    refine gh_get (v := .ref (gA G 5)) (C := RX7) (T := TX7) (N := 5) hx hb hw inlX7 hown hT hP 2 (Nat.le_of_ble_eq_true rfl) kd2 rfl rfl 2 (by decide) (hw _ uw129) rfl dX8_word_75 ?_
    refine lv_iload_n hx hb dX8_word_78 rfl (lv_at hl 2 rfl) ?_
    refine lv_iload_n hx hb dX8_word_79 rfl (lv_at hl 3 rfl) ?_
    refine gh_kv (va_runV (As := [.int x1, .int x2]) (rest := []) ⟨hx, hb, hml, hown, hw⟩ (cc_X4_put l G V 5 gi5 x1 x2) (cwV 2 hw gv_RX8_74 rfl rfl rfl dd_X4_put ⟨Nat.le_of_ble_eq_true rfl, Nat.le_of_ble_eq_true rfl⟩) (gh_preV hT hP (Nat.le_of_ble_eq_true rfl) kd5 rfl rfl) rfl rfl hl.1 rfl (lv_room (Nat.le_of_ble_eq_true rfl)) dX8_word_80 ⟨Nat.zero_le _, Nat.zero_le _⟩) hS (fun H locs hP hS => ?_)
    refine lv_iload_n hx hb dX8_word_83 rfl (lv_at hl 0 rfl) ?_
    exact gh_iret hx hb hr hlocks hP hS hT hres dX8_word_84
  refine lv_aload_n hx hb dX8_word_0 rfl (lv_at hl 0 rfl) ?_
  refine gh_get (v := .ref (gA G 1)) (C := RX8) (T := TX8) (N := 5) hx hb hw inlX8 hown hT hP 0 (Nat.le_of_ble_eq_true rfl) kd0 rfl rfl 0 (by decide) (hw _ uw15) rfl dX8_word_1 ?_
  refine gh_get (v := .ref (gA G 2)) (C := RX5) (T := TX5) (N := 9) hx hb hw inlX5 hown hT hP 1 (Nat.le_of_ble_eq_true rfl) kd1 rfl rfl 0 (by decide) (hw _ uw126) rfl dX8_word_4 ?_
  refine lv_iload_n hx hb dX8_word_7 rfl (lv_at hl 1 rfl) ?_
  refine gh_kr (va_runV (As := [.int a1]) (rest := []) ⟨hx, hb, hml, hown, hw⟩ (cc_X7_has l G V a1) (cwV 1 hw gv_RX8_41 rfl rfl rfl dd_X7_has ⟨Nat.le_of_ble_eq_true rfl, Nat.le_of_ble_eq_true rfl⟩) (gh_preV hT hP (Nat.le_of_ble_eq_true rfl) kd2 rfl rfl) rfl rfl hl.1 rfl (lv_room (Nat.le_of_ble_eq_true rfl)) dX8_word_8 ⟨Nat.zero_le _, Nat.zero_le _⟩) hS (fun H locs hP hS => ?_)
  refine lv_if_eq (tgt := 24) hx hb dX8_word_11 (by decide) (fun c_1 => ?_) (fun c_1 => ?_)
  · have hres := hres.trans (if_pos c_1)
    refine lv_iconst (v := -1) hx hb dX8_word_24 (by decide) ?_
    exact gh_iret hx hb hr hlocks hP hS hT hres dX8_word_25
  have hres := hres.trans (if_neg c_1)
  have hs := hs c_1
  refine lv_iload_n hx hb dX8_word_14 rfl (lv_at hl 2 rfl) ?_
  refine lv_iconst (v := 1) hx hb dX8_word_15 (by decide) ?_
  refine lv_bipush (v := 99) hx hb dX8_word_16 (by decide) ?_
  refine gh_kr (va_runS (As := [.int a2, .int (1 : Int32), .int (99 : Int32)]) (rest := []) ⟨hx, hb, hml, hown, hw⟩ (cc_X8_isBetween l G V a2 (1 : Int32) (99 : Int32)) (va_cwS 3 hw gv_RX8_47 rfl rfl rfl dd_X8_isBetween.2 ⟨Nat.le_of_ble_eq_true rfl, Nat.le_of_ble_eq_true rfl⟩) (gh_pre hT hP) rfl rfl hl.1 rfl (lv_room (Nat.le_of_ble_eq_true rfl)) dX8_word_18 ⟨Nat.zero_le _, Nat.zero_le _⟩) hS (fun H locs hP hS => ?_)
  refine lv_if_ne (tgt := 26) hx hb dX8_word_21 (by decide) (fun c_2 => ?_) (fun c_2 => ?_)
  · have hres := hres.trans (if_neg c_2)
    have hs := hs c_2
    refine lv_aload_n hx hb dX8_word_26 rfl (lv_at hl 0 rfl) ?_
    refine gh_get (v := .ref (gA G 1)) (C := RX8) (T := TX8) (N := 5) hx hb hw inlX8 hown hT hP 0 (Nat.le_of_ble_eq_true rfl) kd0 rfl rfl 0 (by decide) (hw _ uw15) rfl dX8_word_27 ?_
    refine gh_get (v := .ref (gA G 24)) (C := RX5) (T := TX5) (N := 9) hx hb hw inlX5 hown hT hP 1 (Nat.le_of_ble_eq_true rfl) kd1 rfl rfl 2 (by decide) (hw _ uw127) rfl dX8_word_30 ?_
    refine gh_get (v := .int (V 24 0)) (C := RX3) (T := TX3) (N := 7) hx hb hw inlX3 hown hT hP 24 (Nat.le_of_ble_eq_true rfl) kd24 rfl rfl 0 (by decide) (hw _ uw128) rfl dX8_word_33 ?_
    refine lv_if_eq (tgt := 42) hx hb dX8_word_36 (by decide) (fun c_3 => ?_) (fun c_3 => ?_)
    · have hres := hres.trans (if_pos c_3)
      have hs := hs c_3
      refine lv_aload_n hx hb dX8_word_42 rfl (lv_at hl 0 rfl) ?_
      refine gh_get (v := .ref (gA G 67)) (C := RX8) (T := TX8) (N := 5) hx hb hw inlX8 hown hT hP 0 (Nat.le_of_ble_eq_true rfl) kd0 rfl rfl 2 (by decide) (hw _ uw20) rfl dX8_word_43 ?_
      refine lv_aload_n hx hb dX8_word_46 rfl (lv_at hl 0 rfl) ?_
      refine gh_get (v := .ref (gA G 1)) (C := RX8) (T := TX8) (N := 5) hx hb hw inlX8 hown hT hP 0 (Nat.le_of_ble_eq_true rfl) kd0 rfl rfl 0 (by decide) (hw _ uw15) rfl dX8_word_47 ?_
      have ho_4 := hs
      refine gh_kv (va_runV (As := [.ref (gA G 1)]) (rest := []) ⟨hx, hb, hml, hown, hw⟩ (cc_X1_record l G V q hq j hj hqj ho_4) (cwV 1 hw gv_RX8_60 rfl rfl rfl dd_X1_record ⟨Nat.le_of_ble_eq_true rfl, Nat.le_of_ble_eq_true rfl⟩) (gh_preV hT hP (Nat.le_of_ble_eq_true rfl) kd67 rfl rfl) rfl rfl hl.1 rfl (lv_room (Nat.le_of_ble_eq_true rfl)) dX8_word_50 ⟨Nat.zero_le _, Nat.zero_le _⟩) hS (fun H locs hP hS => ?_)
      exact b_53 a1 a2 (MX1_record j q V) _ _ _ (lv_sub hl [0, 1, 2] rfl) hP hS hres
    have hres := hres.trans (if_neg c_3)
    refine lv_bipush (v := -2) hx hb dX8_word_39 (by decide) ?_
    exact gh_iret hx hb hr hlocks hP hS hT hres dX8_word_41
  have hres := hres.trans (if_pos c_2)
  refine lv_iconst (v := -1) hx hb dX8_word_24 (by decide) ?_
  exact gh_iret hx hb hr hlocks hP hS hT hres dX8_word_25
theorem gv_RX8_88 : GoodIn wsL_law (wsV RX8 88 RX0 yX0_add wc_X0_add) := gh_gV uw227 uw228 uw229 uw35 uw230
def BX8_seat_57 (j : Nat) (q : Nat)  (x1 : Int32) (V : gV) : Int32 × gV := ((MX0_add x1 V).1, (MX0_add x1 V).2)
def MX8_seat (j : Nat) (q : Nat) (a1 : Int32) (V : gV) : Int32 × gV := if (MX8_isBetween a1 (0 : Int32) (999 : Int32) V) = 0 then (((-1 : Int32), V)) else (if (V 24 0) = 0 then (if (V 11 0) < (5 : Int32) then (BX8_seat_57 j q a1 (MX1_record j q V)) else (((-3 : Int32), V))) else (((-2 : Int32), V)))
def PX8_seat (j : Nat) (q : Nat) (a1 : Int32) (V : gV) : Prop := ((¬ (MX8_isBetween a1 (0 : Int32) (999 : Int32) V) = 0 → (((V 24 0) = 0 → (((V 11 0) < (5 : Int32) → (PX1_record j q V)))))))
abbrev wc_X8_seat : List Cond := Cond.code yX8_seat cX8_seat 2 (some .int) :: wsL_law
abbrev r_X8_seat : Room := { frames := 5, cells := 0, slots := 0, locals := 125 }
theorem dd_X8_seat : yX8_seat.cls = RX8 ∧ yX8_seat.cls ≠ "java/lang/invoke/MethodHandle" ∧ yX8_seat.cls ≠ "java/lang/invoke/VarHandle" ∧ (parseMethodDescriptor yX8_seat.desc).map (fun d => d.parameters.length) = some 1 := by decide +kernel
set_option maxHeartbeats 8000000 in
set_option maxRecDepth 100000 in
theorem cc_X8_seat (l : Launch) (G : gG) (V : gV) (q : Nat) (hq : gX5 q) (j : Nat) (hj : j < 4) (hqj : q = 69 + 33 * j) (a1 : Int32) (hs : PX8_seat j q a1 V) : Met l yX8_seat wc_X8_seat r_X8_seat (va_Pc [.ref (gA G 0), .int a1] (gW G V)) (gQI G (MX8_seat j q a1 V)) 0 0 (gF G) := by
  refine Met.ofW (cc := cX8_seat) (maxL := 2) (ret := (some .int)) (by decide) rfl ?_
  intro p e s m args below meth c s₁ B hml hv
  obtain ⟨rfl, hP, hT⟩ := hv
  have hx := B.exec
  have hb := B.bytes
  have hr := B.returns
  have hw := gh_hw (atoms_spec (ws := wc_X8_seat) B.pre)
  have hown : s.vm.findClass RX8 = some m.cls := findClass_of_methodNamed B.named
  have hlocks := B.notSynchronized
  have hS : va_S (gF G) s.heap s.heap [] := va_S.rf
  have hl := lv_entry ([.ref (gA G 0), .int a1]) (n := 2) (Nat.le_of_ble_eq_true rfl)
  rw [lg_entry_eq]
  generalize (lg_sl ([.ref (gA G 0), .int a1]) ++ List.replicate (2 - (lg_sl ([.ref (gA G 0), .int a1])).length) Slot.unset).toArray = ls at hl ⊢
  have hl : lv_has ls 2 [(0, .ref (gA G 0)), (1, .int a1)] := hl
  obtain ⟨res, hres⟩ : ∃ r, r = MX8_seat j q a1 V := ⟨_, rfl⟩
  rw [← hres]
  show W p l e r_X8_seat s m ([.ref (gA G 0), .int a1] : List Value).toArray below meth c s.heap [] 0 0 (MQ below (gQI G res) ([.ref (gA G 0), .int a1] : List Value).toArray s 0 0 (gF G)) (F0 m 0 ls [])
  have hs : ((¬ (MX8_isBetween a1 (0 : Int32) (999 : Int32) V) = 0 → (((V 24 0) = 0 → (((V 11 0) < (5 : Int32) → (PX1_record j q V))))))) := hs
  have hres : res = (if (MX8_isBetween a1 (0 : Int32) (999 : Int32) V) = 0 then (((-1 : Int32), V)) else (if (V 24 0) = 0 then (if (V 11 0) < (5 : Int32) then (BX8_seat_57 j q a1 (MX1_record j q V)) else (((-3 : Int32), V))) else (((-2 : Int32), V)))) := hres
  have b_57 : ∀ (x1 : Int32) (V : gV) (H : Heap) (locs : List Loc) (ls : Array Slot), lv_has ls 2 [(0, .ref (gA G 0)), (1, .int x1)] → va_P (gD G) vwCl (gL G V) H → va_S (gF G) s.heap H locs → res = BX8_seat_57 j q x1 V → W p l e r_X8_seat s m ([.ref (gA G 0), .int a1] : List Value).toArray below meth c H locs 0 0 (MQ below (gQI G res) ([.ref (gA G 0), .int a1] : List Value).toArray s 0 0 (gF G)) (F0 m 57 ls []) := by
    intro x1 V H locs ls hl hP hS hres
    have hres : res = (((MX0_add x1 V).1, (MX0_add x1 V).2)) := hres
    refine lv_aload_n hx hb dX8_seat_57 rfl (lv_at hl 0 rfl) ?_
    refine gh_get (v := .ref (gA G 1)) (C := RX8) (T := TX8) (N := 5) hx hb hw inlX8 hown hT hP 0 (Nat.le_of_ble_eq_true rfl) kd0 rfl rfl 0 (by decide) (hw _ uw15) rfl dX8_seat_58 ?_
    refine gh_get (v := .ref (gA G 11)) (C := RX5) (T := TX5) (N := 9) hx hb hw inlX5 hown hT hP 1 (Nat.le_of_ble_eq_true rfl) kd1 rfl rfl 1 (by decide) (hw _ uw225) rfl dX8_seat_61 ?_
    refine lv_iload_n hx hb dX8_seat_64 rfl (lv_at hl 1 rfl) ?_
    refine gh_ki (va_runV (As := [.int x1]) (rest := []) ⟨hx, hb, hml, hown, hw⟩ (cc_X0_add l G V x1) (cwV 1 hw gv_RX8_88 rfl rfl rfl dd_X0_add ⟨Nat.le_of_ble_eq_true rfl, Nat.le_of_ble_eq_true rfl⟩) (gh_preV hT hP (Nat.le_of_ble_eq_true rfl) kd11 rfl rfl) rfl rfl hl.1 rfl (lv_room (Nat.le_of_ble_eq_true rfl)) dX8_seat_65 ⟨Nat.zero_le _, Nat.zero_le _⟩) hS (fun H locs hP hS => ?_)
    exact gh_iret hx hb hr hlocks hP hS hT hres dX8_seat_68
  refine lv_iload_n hx hb dX8_seat_0 rfl (lv_at hl 1 rfl) ?_
  refine lv_iconst (v := 0) hx hb dX8_seat_1 (by decide) ?_
  refine lv_sipush (v := 999) hx hb dX8_seat_2 (by decide) ?_
  refine gh_kr (va_runS (As := [.int a1, .int (0 : Int32), .int (999 : Int32)]) (rest := []) ⟨hx, hb, hml, hown, hw⟩ (cc_X8_isBetween l G V a1 (0 : Int32) (999 : Int32)) (va_cwS 3 hw gv_RX8_47 rfl rfl rfl dd_X8_isBetween.2 ⟨Nat.le_of_ble_eq_true rfl, Nat.le_of_ble_eq_true rfl⟩) (gh_pre hT hP) rfl rfl hl.1 rfl (lv_room (Nat.le_of_ble_eq_true rfl)) dX8_seat_5 ⟨Nat.zero_le _, Nat.zero_le _⟩) hS (fun H locs hP hS => ?_)
  refine lv_if_ne (tgt := 13) hx hb dX8_seat_8 (by decide) (fun c_1 => ?_) (fun c_1 => ?_)
  · have hres := hres.trans (if_neg c_1)
    have hs := hs c_1
    refine lv_aload_n hx hb dX8_seat_13 rfl (lv_at hl 0 rfl) ?_
    refine gh_get (v := .ref (gA G 1)) (C := RX8) (T := TX8) (N := 5) hx hb hw inlX8 hown hT hP 0 (Nat.le_of_ble_eq_true rfl) kd0 rfl rfl 0 (by decide) (hw _ uw15) rfl dX8_seat_14 ?_
    refine gh_get (v := .ref (gA G 24)) (C := RX5) (T := TX5) (N := 9) hx hb hw inlX5 hown hT hP 1 (Nat.le_of_ble_eq_true rfl) kd1 rfl rfl 2 (by decide) (hw _ uw127) rfl dX8_seat_17 ?_
    refine gh_get (v := .int (V 24 0)) (C := RX3) (T := TX3) (N := 7) hx hb hw inlX3 hown hT hP 24 (Nat.le_of_ble_eq_true rfl) kd24 rfl rfl 0 (by decide) (hw _ uw128) rfl dX8_seat_20 ?_
    refine lv_if_eq (tgt := 29) hx hb dX8_seat_23 (by decide) (fun c_2 => ?_) (fun c_2 => ?_)
    · have hres := hres.trans (if_pos c_2)
      have hs := hs c_2
      refine lv_aload_n hx hb dX8_seat_29 rfl (lv_at hl 0 rfl) ?_
      refine gh_get (v := .ref (gA G 1)) (C := RX8) (T := TX8) (N := 5) hx hb hw inlX8 hown hT hP 0 (Nat.le_of_ble_eq_true rfl) kd0 rfl rfl 0 (by decide) (hw _ uw15) rfl dX8_seat_30 ?_
      refine gh_get (v := .ref (gA G 11)) (C := RX5) (T := TX5) (N := 9) hx hb hw inlX5 hown hT hP 1 (Nat.le_of_ble_eq_true rfl) kd1 rfl rfl 1 (by decide) (hw _ uw225) rfl dX8_seat_33 ?_
      refine gh_get (v := .int (V 11 0)) (C := RX0) (T := TX0) (N := 7) hx hb hw inlX0 hown hT hP 11 (Nat.le_of_ble_eq_true rfl) kd11 rfl rfl 0 (by decide) (hw _ uw226) rfl dX8_seat_36 ?_
      refine lv_iconst (v := 5) hx hb dX8_seat_39 (by decide) ?_
      refine lv_icmp_lt (tgt := 46) hx hb dX8_seat_40 (by decide) (fun c_3 => ?_) (fun c_3 => ?_)
      · have hres := hres.trans (if_pos c_3)
        have hs := hs c_3
        refine lv_aload_n hx hb dX8_seat_46 rfl (lv_at hl 0 rfl) ?_
        refine gh_get (v := .ref (gA G 67)) (C := RX8) (T := TX8) (N := 5) hx hb hw inlX8 hown hT hP 0 (Nat.le_of_ble_eq_true rfl) kd0 rfl rfl 2 (by decide) (hw _ uw20) rfl dX8_seat_47 ?_
        refine lv_aload_n hx hb dX8_seat_50 rfl (lv_at hl 0 rfl) ?_
        refine gh_get (v := .ref (gA G 1)) (C := RX8) (T := TX8) (N := 5) hx hb hw inlX8 hown hT hP 0 (Nat.le_of_ble_eq_true rfl) kd0 rfl rfl 0 (by decide) (hw _ uw15) rfl dX8_seat_51 ?_
        have ho_4 := hs
        refine gh_kv (va_runV (As := [.ref (gA G 1)]) (rest := []) ⟨hx, hb, hml, hown, hw⟩ (cc_X1_record l G V q hq j hj hqj ho_4) (cwV 1 hw gv_RX8_60 rfl rfl rfl dd_X1_record ⟨Nat.le_of_ble_eq_true rfl, Nat.le_of_ble_eq_true rfl⟩) (gh_preV hT hP (Nat.le_of_ble_eq_true rfl) kd67 rfl rfl) rfl rfl hl.1 rfl (lv_room (Nat.le_of_ble_eq_true rfl)) dX8_seat_54 ⟨Nat.zero_le _, Nat.zero_le _⟩) hS (fun H locs hP hS => ?_)
        exact b_57 a1 (MX1_record j q V) _ _ _ (lv_sub hl [0, 1] rfl) hP hS hres
      have hres := hres.trans (if_neg c_3)
      refine lv_bipush (v := -3) hx hb dX8_seat_43 (by decide) ?_
      exact gh_iret hx hb hr hlocks hP hS hT hres dX8_seat_45
    have hres := hres.trans (if_neg c_2)
    refine lv_bipush (v := -2) hx hb dX8_seat_26 (by decide) ?_
    exact gh_iret hx hb hr hlocks hP hS hT hres dX8_seat_28
  have hres := hres.trans (if_pos c_1)
  refine lv_iconst (v := -1) hx hb dX8_seat_11 (by decide) ?_
  exact gh_iret hx hb hr hlocks hP hS hT hres dX8_seat_12
theorem gv_RX8_95 : GoodIn wsL_law (wsV RX8 95 RX4 yX4_add wc_X4_add) := gh_gV uw252 uw253 uw254 uw55 uw255
def BX8_lend_109 (j : Nat) (q : Nat)  (x1 : Int32) (V : gV) : Int32 × gV := ((MX4_at 12 x1 V), V)
def BX8_lend_94 (j : Nat) (q : Nat)  (x1 : Int32) (x2 : Int32) (x3 : Int32) (V : gV) : Int32 × gV := BX8_lend_109 j q x1 (MX4_add 12 x2 x3 V)
def BX8_lend_78 (j : Nat) (q : Nat)  (x1 : Int32) (x2 : Int32) (x3 : Int32) (V : gV) : Int32 × gV := BX8_lend_94 j q x1 x2 x3 (MX4_add 12 x1 (-x3) V)
def MX8_lend (j : Nat) (q : Nat) (a1 : Int32) (a2 : Int32) (a3 : Int32) (V : gV) : Int32 × gV := if (MX0_has a1 V) = 0 then (((-1 : Int32), V)) else (if (MX0_has a2 V) = 0 then (((-1 : Int32), V)) else (if a1 = a2 then (((-1 : Int32), V)) else (if (MX8_isBetween a3 (1 : Int32) (999 : Int32) V) = 0 then (((-1 : Int32), V)) else (if a3 ≤ (MX4_at 12 a1 V) then (BX8_lend_78 j q a1 a2 a3 (MX1_record j q V)) else (((-2 : Int32), V))))))
def PX8_lend (j : Nat) (q : Nat) (a1 : Int32) (a2 : Int32) (a3 : Int32) (V : gV) : Prop := ((¬ (MX0_has a1 V) = 0 → ((¬ (MX0_has a2 V) = 0 → ((¬ a1 = a2 → ((¬ (MX8_isBetween a3 (1 : Int32) (999 : Int32) V) = 0 → ((a3 ≤ (MX4_at 12 a1 V) → (PX1_record j q V)))))))))))
abbrev wc_X8_lend : List Cond := Cond.code yX8_lend cX8_lend 4 (some .int) :: wsL_law
abbrev r_X8_lend : Room := { frames := 5, cells := 0, slots := 0, locals := 125 }
theorem dd_X8_lend : yX8_lend.cls = RX8 ∧ yX8_lend.cls ≠ "java/lang/invoke/MethodHandle" ∧ yX8_lend.cls ≠ "java/lang/invoke/VarHandle" ∧ (parseMethodDescriptor yX8_lend.desc).map (fun d => d.parameters.length) = some 3 := by decide +kernel
set_option maxHeartbeats 8000000 in
set_option maxRecDepth 100000 in
theorem cc_X8_lend (l : Launch) (G : gG) (V : gV) (q : Nat) (hq : gX5 q) (j : Nat) (hj : j < 4) (hqj : q = 69 + 33 * j) (a1 : Int32) (a2 : Int32) (a3 : Int32) (hs : PX8_lend j q a1 a2 a3 V) : Met l yX8_lend wc_X8_lend r_X8_lend (va_Pc [.ref (gA G 0), .int a1, .int a2, .int a3] (gW G V)) (gQI G (MX8_lend j q a1 a2 a3 V)) 0 0 (gF G) := by
  refine Met.ofW (cc := cX8_lend) (maxL := 4) (ret := (some .int)) (by decide) rfl ?_
  intro p e s m args below meth c s₁ B hml hv
  obtain ⟨rfl, hP, hT⟩ := hv
  have hx := B.exec
  have hb := B.bytes
  have hr := B.returns
  have hw := gh_hw (atoms_spec (ws := wc_X8_lend) B.pre)
  have hown : s.vm.findClass RX8 = some m.cls := findClass_of_methodNamed B.named
  have hlocks := B.notSynchronized
  have hS : va_S (gF G) s.heap s.heap [] := va_S.rf
  have hl := lv_entry ([.ref (gA G 0), .int a1, .int a2, .int a3]) (n := 4) (Nat.le_of_ble_eq_true rfl)
  rw [lg_entry_eq]
  generalize (lg_sl ([.ref (gA G 0), .int a1, .int a2, .int a3]) ++ List.replicate (4 - (lg_sl ([.ref (gA G 0), .int a1, .int a2, .int a3])).length) Slot.unset).toArray = ls at hl ⊢
  have hl : lv_has ls 4 [(0, .ref (gA G 0)), (1, .int a1), (2, .int a2), (3, .int a3)] := hl
  obtain ⟨res, hres⟩ : ∃ r, r = MX8_lend j q a1 a2 a3 V := ⟨_, rfl⟩
  rw [← hres]
  show W p l e r_X8_lend s m ([.ref (gA G 0), .int a1, .int a2, .int a3] : List Value).toArray below meth c s.heap [] 0 0 (MQ below (gQI G res) ([.ref (gA G 0), .int a1, .int a2, .int a3] : List Value).toArray s 0 0 (gF G)) (F0 m 0 ls [])
  have hs : ((¬ (MX0_has a1 V) = 0 → ((¬ (MX0_has a2 V) = 0 → ((¬ a1 = a2 → ((¬ (MX8_isBetween a3 (1 : Int32) (999 : Int32) V) = 0 → ((a3 ≤ (MX4_at 12 a1 V) → (PX1_record j q V))))))))))) := hs
  have hres : res = (if (MX0_has a1 V) = 0 then (((-1 : Int32), V)) else (if (MX0_has a2 V) = 0 then (((-1 : Int32), V)) else (if a1 = a2 then (((-1 : Int32), V)) else (if (MX8_isBetween a3 (1 : Int32) (999 : Int32) V) = 0 then (((-1 : Int32), V)) else (if a3 ≤ (MX4_at 12 a1 V) then (BX8_lend_78 j q a1 a2 a3 (MX1_record j q V)) else (((-2 : Int32), V))))))) := hres
  have b_109 : ∀ (x1 : Int32) (V : gV) (H : Heap) (locs : List Loc) (ls : Array Slot), lv_has ls 4 [(0, .ref (gA G 0)), (1, .int x1)] → va_P (gD G) vwCl (gL G V) H → va_S (gF G) s.heap H locs → res = BX8_lend_109 j q x1 V → W p l e r_X8_lend s m ([.ref (gA G 0), .int a1, .int a2, .int a3] : List Value).toArray below meth c H locs 0 0 (MQ below (gQI G res) ([.ref (gA G 0), .int a1, .int a2, .int a3] : List Value).toArray s 0 0 (gF G)) (F0 m 109 ls []) := by
    intro x1 V H locs ls hl hP hS hres
    have hres : res = (((MX4_at 12 x1 V), V)) := hres
    refine lv_aload_n hx hb dX8_lend_109 rfl (lv_at hl 0 rfl) ?_
    refine gh_get (v := .ref (gA G 1)) (C := RX8) (T := TX8) (N := 5) hx hb hw inlX8 hown hT hP 0 (Nat.le_of_ble_eq_true rfl) kd0 rfl rfl 0 (by decide) (hw _ uw15) rfl dX8_lend_110 ?_
    refine gh_get (v := .ref (gA G 11)) (C := RX5) (T := TX5) (N := 9) hx hb hw inlX5 hown hT hP 1 (Nat.le_of_ble_eq_true rfl) kd1 rfl rfl 1 (by decide) (hw _ uw225) rfl dX8_lend_113 ?_
    refine gh_get (v := .ref (gA G 12)) (C := RX0) (T := TX0) (N := 7) hx hb hw inlX0 hown hT hP 11 (Nat.le_of_ble_eq_true rfl) kd11 rfl rfl 1 (by decide) (hw _ uw247) rfl dX8_lend_116 ?_
    refine lv_iload_n hx hb dX8_lend_119 rfl (lv_at hl 1 rfl) ?_
    refine gh_kr (va_runV (As := [.int x1]) (rest := []) ⟨hx, hb, hml, hown, hw⟩ (cc_X4_at l G V 12 gi12 x1) (cwV 1 hw gv_RX8_68 rfl rfl rfl dd_X4_at ⟨Nat.le_of_ble_eq_true rfl, Nat.le_of_ble_eq_true rfl⟩) (gh_preV hT hP (Nat.le_of_ble_eq_true rfl) kd12 rfl rfl) rfl rfl hl.1 rfl (lv_room (Nat.le_of_ble_eq_true rfl)) dX8_lend_120 ⟨Nat.zero_le _, Nat.zero_le _⟩) hS (fun H locs hP hS => ?_)
    exact gh_iret hx hb hr hlocks hP hS hT hres dX8_lend_123
  have b_94 : ∀ (x1 : Int32) (x2 : Int32) (x3 : Int32) (V : gV) (H : Heap) (locs : List Loc) (ls : Array Slot), lv_has ls 4 [(0, .ref (gA G 0)), (1, .int x1), (2, .int x2), (3, .int x3)] → va_P (gD G) vwCl (gL G V) H → va_S (gF G) s.heap H locs → res = BX8_lend_94 j q x1 x2 x3 V → W p l e r_X8_lend s m ([.ref (gA G 0), .int a1, .int a2, .int a3] : List Value).toArray below meth c H locs 0 0 (MQ below (gQI G res) ([.ref (gA G 0), .int a1, .int a2, .int a3] : List Value).toArray s 0 0 (gF G)) (F0 m 94 ls []) := by
    intro x1 x2 x3 V H locs ls hl hP hS hres
    have hres : res = (BX8_lend_109 j q x1 (MX4_add 12 x2 x3 V)) := hres
    refine lv_aload_n hx hb dX8_lend_94 rfl (lv_at hl 0 rfl) ?_
    refine gh_get (v := .ref (gA G 1)) (C := RX8) (T := TX8) (N := 5) hx hb hw inlX8 hown hT hP 0 (Nat.le_of_ble_eq_true rfl) kd0 rfl rfl 0 (by decide) (hw _ uw15) rfl dX8_lend_95 ?_
    refine gh_get (v := .ref (gA G 11)) (C := RX5) (T := TX5) (N := 9) hx hb hw inlX5 hown hT hP 1 (Nat.le_of_ble_eq_true rfl) kd1 rfl rfl 1 (by decide) (hw _ uw225) rfl dX8_lend_98 ?_
    refine gh_get (v := .ref (gA G 12)) (C := RX0) (T := TX0) (N := 7) hx hb hw inlX0 hown hT hP 11 (Nat.le_of_ble_eq_true rfl) kd11 rfl rfl 1 (by decide) (hw _ uw247) rfl dX8_lend_101 ?_
    refine lv_iload_n hx hb dX8_lend_104 rfl (lv_at hl 2 rfl) ?_
    refine lv_iload_n hx hb dX8_lend_105 rfl (lv_at hl 3 rfl) ?_
    refine gh_kv (va_runV (As := [.int x2, .int x3]) (rest := []) ⟨hx, hb, hml, hown, hw⟩ (cc_X4_add l G V 12 gi12 x2 x3) (cwV 2 hw gv_RX8_95 rfl rfl rfl dd_X4_add ⟨Nat.le_of_ble_eq_true rfl, Nat.le_of_ble_eq_true rfl⟩) (gh_preV hT hP (Nat.le_of_ble_eq_true rfl) kd12 rfl rfl) rfl rfl hl.1 rfl (lv_room (Nat.le_of_ble_eq_true rfl)) dX8_lend_106 ⟨Nat.zero_le _, Nat.zero_le _⟩) hS (fun H locs hP hS => ?_)
    exact b_109 x1 (MX4_add 12 x2 x3 V) _ _ _ (lv_sub hl [0, 1] rfl) hP hS hres
  have b_78 : ∀ (x1 : Int32) (x2 : Int32) (x3 : Int32) (V : gV) (H : Heap) (locs : List Loc) (ls : Array Slot), lv_has ls 4 [(0, .ref (gA G 0)), (1, .int x1), (2, .int x2), (3, .int x3)] → va_P (gD G) vwCl (gL G V) H → va_S (gF G) s.heap H locs → res = BX8_lend_78 j q x1 x2 x3 V → W p l e r_X8_lend s m ([.ref (gA G 0), .int a1, .int a2, .int a3] : List Value).toArray below meth c H locs 0 0 (MQ below (gQI G res) ([.ref (gA G 0), .int a1, .int a2, .int a3] : List Value).toArray s 0 0 (gF G)) (F0 m 78 ls []) := by
    intro x1 x2 x3 V H locs ls hl hP hS hres
    have hres : res = (BX8_lend_94 j q x1 x2 x3 (MX4_add 12 x1 (-x3) V)) := hres
    refine lv_aload_n hx hb dX8_lend_78 rfl (lv_at hl 0 rfl) ?_
    refine gh_get (v := .ref (gA G 1)) (C := RX8) (T := TX8) (N := 5) hx hb hw inlX8 hown hT hP 0 (Nat.le_of_ble_eq_true rfl) kd0 rfl rfl 0 (by decide) (hw _ uw15) rfl dX8_lend_79 ?_
    refine gh_get (v := .ref (gA G 11)) (C := RX5) (T := TX5) (N := 9) hx hb hw inlX5 hown hT hP 1 (Nat.le_of_ble_eq_true rfl) kd1 rfl rfl 1 (by decide) (hw _ uw225) rfl dX8_lend_82 ?_
    refine gh_get (v := .ref (gA G 12)) (C := RX0) (T := TX0) (N := 7) hx hb hw inlX0 hown hT hP 11 (Nat.le_of_ble_eq_true rfl) kd11 rfl rfl 1 (by decide) (hw _ uw247) rfl dX8_lend_85 ?_
    refine lv_iload_n hx hb dX8_lend_88 rfl (lv_at hl 1 rfl) ?_
    refine lv_iload_n hx hb dX8_lend_89 rfl (lv_at hl 3 rfl) ?_
    refine lv_ineg hx hb dX8_lend_90 ?_
    refine gh_kv (va_runV (As := [.int x1, .int (-x3)]) (rest := []) ⟨hx, hb, hml, hown, hw⟩ (cc_X4_add l G V 12 gi12 x1 (-x3)) (cwV 2 hw gv_RX8_95 rfl rfl rfl dd_X4_add ⟨Nat.le_of_ble_eq_true rfl, Nat.le_of_ble_eq_true rfl⟩) (gh_preV hT hP (Nat.le_of_ble_eq_true rfl) kd12 rfl rfl) rfl rfl hl.1 rfl (lv_room (Nat.le_of_ble_eq_true rfl)) dX8_lend_91 ⟨Nat.zero_le _, Nat.zero_le _⟩) hS (fun H locs hP hS => ?_)
    exact b_94 x1 x2 x3 (MX4_add 12 x1 (-x3) V) _ _ _ (lv_sub hl [0, 1, 2, 3] rfl) hP hS hres
  refine lv_aload_n hx hb dX8_lend_0 rfl (lv_at hl 0 rfl) ?_
  refine gh_get (v := .ref (gA G 1)) (C := RX8) (T := TX8) (N := 5) hx hb hw inlX8 hown hT hP 0 (Nat.le_of_ble_eq_true rfl) kd0 rfl rfl 0 (by decide) (hw _ uw15) rfl dX8_lend_1 ?_
  refine gh_get (v := .ref (gA G 11)) (C := RX5) (T := TX5) (N := 9) hx hb hw inlX5 hown hT hP 1 (Nat.le_of_ble_eq_true rfl) kd1 rfl rfl 1 (by decide) (hw _ uw225) rfl dX8_lend_4 ?_
  refine lv_iload_n hx hb dX8_lend_7 rfl (lv_at hl 1 rfl) ?_
  refine gh_kr (va_runV (As := [.int a1]) (rest := []) ⟨hx, hb, hml, hown, hw⟩ (cc_X0_has l G V a1) (cwV 1 hw gv_RX8_91 rfl rfl rfl dd_X0_has ⟨Nat.le_of_ble_eq_true rfl, Nat.le_of_ble_eq_true rfl⟩) (gh_preV hT hP (Nat.le_of_ble_eq_true rfl) kd11 rfl rfl) rfl rfl hl.1 rfl (lv_room (Nat.le_of_ble_eq_true rfl)) dX8_lend_8 ⟨Nat.zero_le _, Nat.zero_le _⟩) hS (fun H locs hP hS => ?_)
  refine lv_if_eq (tgt := 44) hx hb dX8_lend_11 (by decide) (fun c_1 => ?_) (fun c_1 => ?_)
  · have hres := hres.trans (if_pos c_1)
    refine lv_iconst (v := -1) hx hb dX8_lend_44 (by decide) ?_
    exact gh_iret hx hb hr hlocks hP hS hT hres dX8_lend_45
  have hres := hres.trans (if_neg c_1)
  have hs := hs c_1
  refine lv_aload_n hx hb dX8_lend_14 rfl (lv_at hl 0 rfl) ?_
  refine gh_get (v := .ref (gA G 1)) (C := RX8) (T := TX8) (N := 5) hx hb hw inlX8 hown hT hP 0 (Nat.le_of_ble_eq_true rfl) kd0 rfl rfl 0 (by decide) (hw _ uw15) rfl dX8_lend_15 ?_
  refine gh_get (v := .ref (gA G 11)) (C := RX5) (T := TX5) (N := 9) hx hb hw inlX5 hown hT hP 1 (Nat.le_of_ble_eq_true rfl) kd1 rfl rfl 1 (by decide) (hw _ uw225) rfl dX8_lend_18 ?_
  refine lv_iload_n hx hb dX8_lend_21 rfl (lv_at hl 2 rfl) ?_
  refine gh_kr (va_runV (As := [.int a2]) (rest := []) ⟨hx, hb, hml, hown, hw⟩ (cc_X0_has l G V a2) (cwV 1 hw gv_RX8_91 rfl rfl rfl dd_X0_has ⟨Nat.le_of_ble_eq_true rfl, Nat.le_of_ble_eq_true rfl⟩) (gh_preV hT hP (Nat.le_of_ble_eq_true rfl) kd11 rfl rfl) rfl rfl hl.1 rfl (lv_room (Nat.le_of_ble_eq_true rfl)) dX8_lend_22 ⟨Nat.zero_le _, Nat.zero_le _⟩) hS (fun H locs hP hS => ?_)
  refine lv_if_eq (tgt := 44) hx hb dX8_lend_25 (by decide) (fun c_2 => ?_) (fun c_2 => ?_)
  · have hres := hres.trans (if_pos c_2)
    refine lv_iconst (v := -1) hx hb dX8_lend_44 (by decide) ?_
    exact gh_iret hx hb hr hlocks hP hS hT hres dX8_lend_45
  have hres := hres.trans (if_neg c_2)
  have hs := hs c_2
  refine lv_iload_n hx hb dX8_lend_28 rfl (lv_at hl 1 rfl) ?_
  refine lv_iload_n hx hb dX8_lend_29 rfl (lv_at hl 2 rfl) ?_
  refine lv_icmp_eq (tgt := 44) hx hb dX8_lend_30 (by decide) (fun c_3 => ?_) (fun c_3 => ?_)
  · have hres := hres.trans (if_pos c_3)
    refine lv_iconst (v := -1) hx hb dX8_lend_44 (by decide) ?_
    exact gh_iret hx hb hr hlocks hP hS hT hres dX8_lend_45
  have hres := hres.trans (if_neg c_3)
  have hs := hs c_3
  refine lv_iload_n hx hb dX8_lend_33 rfl (lv_at hl 3 rfl) ?_
  refine lv_iconst (v := 1) hx hb dX8_lend_34 (by decide) ?_
  refine lv_sipush (v := 999) hx hb dX8_lend_35 (by decide) ?_
  refine gh_kr (va_runS (As := [.int a3, .int (1 : Int32), .int (999 : Int32)]) (rest := []) ⟨hx, hb, hml, hown, hw⟩ (cc_X8_isBetween l G V a3 (1 : Int32) (999 : Int32)) (va_cwS 3 hw gv_RX8_47 rfl rfl rfl dd_X8_isBetween.2 ⟨Nat.le_of_ble_eq_true rfl, Nat.le_of_ble_eq_true rfl⟩) (gh_pre hT hP) rfl rfl hl.1 rfl (lv_room (Nat.le_of_ble_eq_true rfl)) dX8_lend_38 ⟨Nat.zero_le _, Nat.zero_le _⟩) hS (fun H locs hP hS => ?_)
  refine lv_if_ne (tgt := 46) hx hb dX8_lend_41 (by decide) (fun c_4 => ?_) (fun c_4 => ?_)
  · have hres := hres.trans (if_neg c_4)
    have hs := hs c_4
    refine lv_aload_n hx hb dX8_lend_46 rfl (lv_at hl 0 rfl) ?_
    refine gh_get (v := .ref (gA G 1)) (C := RX8) (T := TX8) (N := 5) hx hb hw inlX8 hown hT hP 0 (Nat.le_of_ble_eq_true rfl) kd0 rfl rfl 0 (by decide) (hw _ uw15) rfl dX8_lend_47 ?_
    refine gh_get (v := .ref (gA G 11)) (C := RX5) (T := TX5) (N := 9) hx hb hw inlX5 hown hT hP 1 (Nat.le_of_ble_eq_true rfl) kd1 rfl rfl 1 (by decide) (hw _ uw225) rfl dX8_lend_50 ?_
    refine gh_get (v := .ref (gA G 12)) (C := RX0) (T := TX0) (N := 7) hx hb hw inlX0 hown hT hP 11 (Nat.le_of_ble_eq_true rfl) kd11 rfl rfl 1 (by decide) (hw _ uw247) rfl dX8_lend_53 ?_
    refine lv_iload_n hx hb dX8_lend_56 rfl (lv_at hl 1 rfl) ?_
    refine gh_kr (va_runV (As := [.int a1]) (rest := []) ⟨hx, hb, hml, hown, hw⟩ (cc_X4_at l G V 12 gi12 a1) (cwV 1 hw gv_RX8_68 rfl rfl rfl dd_X4_at ⟨Nat.le_of_ble_eq_true rfl, Nat.le_of_ble_eq_true rfl⟩) (gh_preV hT hP (Nat.le_of_ble_eq_true rfl) kd12 rfl rfl) rfl rfl hl.1 rfl (lv_room (Nat.le_of_ble_eq_true rfl)) dX8_lend_57 ⟨Nat.zero_le _, Nat.zero_le _⟩) hS (fun H locs hP hS => ?_)
    refine lv_iload_n hx hb dX8_lend_60 rfl (lv_at hl 3 rfl) ?_
    refine lv_icmp_ge (tgt := 67) hx hb dX8_lend_61 (by decide) (fun c_5 => ?_) (fun c_5 => ?_)
    · have hres := hres.trans (if_pos c_5)
      have hs := hs c_5
      refine lv_aload_n hx hb dX8_lend_67 rfl (lv_at hl 0 rfl) ?_
      refine gh_get (v := .ref (gA G 67)) (C := RX8) (T := TX8) (N := 5) hx hb hw inlX8 hown hT hP 0 (Nat.le_of_ble_eq_true rfl) kd0 rfl rfl 2 (by decide) (hw _ uw20) rfl dX8_lend_68 ?_
      refine lv_aload_n hx hb dX8_lend_71 rfl (lv_at hl 0 rfl) ?_
      refine gh_get (v := .ref (gA G 1)) (C := RX8) (T := TX8) (N := 5) hx hb hw inlX8 hown hT hP 0 (Nat.le_of_ble_eq_true rfl) kd0 rfl rfl 0 (by decide) (hw _ uw15) rfl dX8_lend_72 ?_
      have ho_6 := hs
      refine gh_kv (va_runV (As := [.ref (gA G 1)]) (rest := []) ⟨hx, hb, hml, hown, hw⟩ (cc_X1_record l G V q hq j hj hqj ho_6) (cwV 1 hw gv_RX8_60 rfl rfl rfl dd_X1_record ⟨Nat.le_of_ble_eq_true rfl, Nat.le_of_ble_eq_true rfl⟩) (gh_preV hT hP (Nat.le_of_ble_eq_true rfl) kd67 rfl rfl) rfl rfl hl.1 rfl (lv_room (Nat.le_of_ble_eq_true rfl)) dX8_lend_75 ⟨Nat.zero_le _, Nat.zero_le _⟩) hS (fun H locs hP hS => ?_)
      exact b_78 a1 a2 a3 (MX1_record j q V) _ _ _ (lv_sub hl [0, 1, 2, 3] rfl) hP hS hres
    have hres := hres.trans (if_neg c_5)
    refine lv_bipush (v := -2) hx hb dX8_lend_64 (by decide) ?_
    exact gh_iret hx hb hr hlocks hP hS hT hres dX8_lend_66
  have hres := hres.trans (if_pos c_4)
  refine lv_iconst (v := -1) hx hb dX8_lend_44 (by decide) ?_
  exact gh_iret hx hb hr hlocks hP hS hT hres dX8_lend_45
def BX8_set_43 (j : Nat) (q : Nat)  (x2 : Int32) (V : gV) : Int32 × gV := ((V 1 8), (gu V 1 8 x2))
def MX8_set (j : Nat) (q : Nat) (a1 : Int32) (a2 : Int32) (V : gV) : Int32 × gV := if a1 = 0 then (if (MX8_isBetween a2 (1 : Int32) (12 : Int32) V) = 0 then (((-1 : Int32), V)) else (if (V 24 0) = 0 then (BX8_set_43 j q a2 (MX1_record j q V)) else (((-2 : Int32), V)))) else (((-1 : Int32), V))
def PX8_set (j : Nat) (q : Nat) (a1 : Int32) (a2 : Int32) (V : gV) : Prop := ((a1 = 0 → ((¬ (MX8_isBetween a2 (1 : Int32) (12 : Int32) V) = 0 → (((V 24 0) = 0 → (PX1_record j q V)))))))
abbrev wc_X8_set : List Cond := Cond.code yX8_set cX8_set 4 (some .int) :: wsL_law
abbrev r_X8_set : Room := { frames := 5, cells := 0, slots := 0, locals := 125 }
theorem dd_X8_set : yX8_set.cls = RX8 ∧ yX8_set.cls ≠ "java/lang/invoke/MethodHandle" ∧ yX8_set.cls ≠ "java/lang/invoke/VarHandle" ∧ (parseMethodDescriptor yX8_set.desc).map (fun d => d.parameters.length) = some 2 := by decide +kernel
set_option maxHeartbeats 8000000 in
set_option maxRecDepth 100000 in
theorem cc_X8_set (l : Launch) (G : gG) (V : gV) (q : Nat) (hq : gX5 q) (j : Nat) (hj : j < 4) (hqj : q = 69 + 33 * j) (a1 : Int32) (a2 : Int32) (hs : PX8_set j q a1 a2 V) : Met l yX8_set wc_X8_set r_X8_set (va_Pc [.ref (gA G 0), .int a1, .int a2] (gW G V)) (gQI G (MX8_set j q a1 a2 V)) 0 0 (gF G) := by
  refine Met.ofW (cc := cX8_set) (maxL := 4) (ret := (some .int)) (by decide) rfl ?_
  intro p e s m args below meth c s₁ B hml hv
  obtain ⟨rfl, hP, hT⟩ := hv
  have hx := B.exec
  have hb := B.bytes
  have hr := B.returns
  have hw := gh_hw (atoms_spec (ws := wc_X8_set) B.pre)
  have hown : s.vm.findClass RX8 = some m.cls := findClass_of_methodNamed B.named
  have hlocks := B.notSynchronized
  have hS : va_S (gF G) s.heap s.heap [] := va_S.rf
  have hl := lv_entry ([.ref (gA G 0), .int a1, .int a2]) (n := 4) (Nat.le_of_ble_eq_true rfl)
  rw [lg_entry_eq]
  generalize (lg_sl ([.ref (gA G 0), .int a1, .int a2]) ++ List.replicate (4 - (lg_sl ([.ref (gA G 0), .int a1, .int a2])).length) Slot.unset).toArray = ls at hl ⊢
  have hl : lv_has ls 4 [(0, .ref (gA G 0)), (1, .int a1), (2, .int a2)] := hl
  obtain ⟨res, hres⟩ : ∃ r, r = MX8_set j q a1 a2 V := ⟨_, rfl⟩
  rw [← hres]
  show W p l e r_X8_set s m ([.ref (gA G 0), .int a1, .int a2] : List Value).toArray below meth c s.heap [] 0 0 (MQ below (gQI G res) ([.ref (gA G 0), .int a1, .int a2] : List Value).toArray s 0 0 (gF G)) (F0 m 0 ls [])
  have hs : ((a1 = 0 → ((¬ (MX8_isBetween a2 (1 : Int32) (12 : Int32) V) = 0 → (((V 24 0) = 0 → (PX1_record j q V))))))) := hs
  have hres : res = (if a1 = 0 then (if (MX8_isBetween a2 (1 : Int32) (12 : Int32) V) = 0 then (((-1 : Int32), V)) else (if (V 24 0) = 0 then (BX8_set_43 j q a2 (MX1_record j q V)) else (((-2 : Int32), V)))) else (((-1 : Int32), V))) := hres
  have b_43 : ∀ (x2 : Int32) (V : gV) (H : Heap) (locs : List Loc) (ls : Array Slot), lv_has ls 4 [(0, .ref (gA G 0)), (2, .int x2)] → va_P (gD G) vwCl (gL G V) H → va_S (gF G) s.heap H locs → res = BX8_set_43 j q x2 V → W p l e r_X8_set s m ([.ref (gA G 0), .int a1, .int a2] : List Value).toArray below meth c H locs 0 0 (MQ below (gQI G res) ([.ref (gA G 0), .int a1, .int a2] : List Value).toArray s 0 0 (gF G)) (F0 m 43 ls []) := by
    intro x2 V H locs ls hl hP hS hres
    have hres : res = (((V 1 8), (gu V 1 8 x2))) := hres
    refine lv_aload_n hx hb dX8_set_43 rfl (lv_at hl 0 rfl) ?_
    refine gh_get (v := .ref (gA G 1)) (C := RX8) (T := TX8) (N := 5) hx hb hw inlX8 hown hT hP 0 (Nat.le_of_ble_eq_true rfl) kd0 rfl rfl 0 (by decide) (hw _ uw15) rfl dX8_set_44 ?_
    refine gh_get (v := .int (V 1 8)) (C := RX5) (T := TX5) (N := 9) hx hb hw inlX5 hown hT hP 1 (Nat.le_of_ble_eq_true rfl) kd1 rfl rfl 8 (by decide) (hw _ uw270) rfl dX8_set_47 ?_
    refine lv_istore_n (lv' := [(3, .int (V 1 8)), (0, .ref (gA G 0)), (2, .int x2)]) hx hb dX8_set_50 rfl hl (by decide) rfl (fun ls hl => ?_)
    refine lv_aload_n hx hb dX8_set_51 rfl (lv_at hl 1 rfl) ?_
    refine gh_get (v := .ref (gA G 1)) (C := RX8) (T := TX8) (N := 5) hx hb hw inlX8 hown hT hP 0 (Nat.le_of_ble_eq_true rfl) kd0 rfl rfl 0 (by decide) (hw _ uw15) rfl dX8_set_52 ?_
    refine lv_iload_n hx hb dX8_set_55 rfl (lv_at hl 2 rfl) ?_
    refine gh_put (ty := .int) (x := x2) (C := RX5) (T := TX5) (N := 9) hx hb hw inlX5 tyX5_ok nmX5 hown hT hP hS 1 (Nat.le_of_ble_eq_true rfl) kd1 rfl rfl 8 (by decide) (hw _ uw270) rfl (by decide +kernel) rfl rfl (Nat.le_of_ble_eq_true rfl) rfl dX8_set_56 (fun H locs hP hS => ?_)
    refine lv_iload_n hx hb dX8_set_59 rfl (lv_at hl 0 rfl) ?_
    exact gh_iret hx hb hr hlocks hP hS hT hres dX8_set_60
  refine lv_iload_n hx hb dX8_set_0 rfl (lv_at hl 1 rfl) ?_
  refine lv_if_ne (tgt := 14) hx hb dX8_set_1 (by decide) (fun c_1 => ?_) (fun c_1 => ?_)
  · have hres := hres.trans (if_neg c_1)
    refine lv_iconst (v := -1) hx hb dX8_set_14 (by decide) ?_
    exact gh_iret hx hb hr hlocks hP hS hT hres dX8_set_15
  have hres := hres.trans (if_pos c_1)
  have hs := hs c_1
  refine lv_iload_n hx hb dX8_set_4 rfl (lv_at hl 2 rfl) ?_
  refine lv_iconst (v := 1) hx hb dX8_set_5 (by decide) ?_
  refine lv_bipush (v := 12) hx hb dX8_set_6 (by decide) ?_
  refine gh_kr (va_runS (As := [.int a2, .int (1 : Int32), .int (12 : Int32)]) (rest := []) ⟨hx, hb, hml, hown, hw⟩ (cc_X8_isBetween l G V a2 (1 : Int32) (12 : Int32)) (va_cwS 3 hw gv_RX8_47 rfl rfl rfl dd_X8_isBetween.2 ⟨Nat.le_of_ble_eq_true rfl, Nat.le_of_ble_eq_true rfl⟩) (gh_pre hT hP) rfl rfl hl.1 rfl (lv_room (Nat.le_of_ble_eq_true rfl)) dX8_set_8 ⟨Nat.zero_le _, Nat.zero_le _⟩) hS (fun H locs hP hS => ?_)
  refine lv_if_ne (tgt := 16) hx hb dX8_set_11 (by decide) (fun c_2 => ?_) (fun c_2 => ?_)
  · have hres := hres.trans (if_neg c_2)
    have hs := hs c_2
    refine lv_aload_n hx hb dX8_set_16 rfl (lv_at hl 0 rfl) ?_
    refine gh_get (v := .ref (gA G 1)) (C := RX8) (T := TX8) (N := 5) hx hb hw inlX8 hown hT hP 0 (Nat.le_of_ble_eq_true rfl) kd0 rfl rfl 0 (by decide) (hw _ uw15) rfl dX8_set_17 ?_
    refine gh_get (v := .ref (gA G 24)) (C := RX5) (T := TX5) (N := 9) hx hb hw inlX5 hown hT hP 1 (Nat.le_of_ble_eq_true rfl) kd1 rfl rfl 2 (by decide) (hw _ uw127) rfl dX8_set_20 ?_
    refine gh_get (v := .int (V 24 0)) (C := RX3) (T := TX3) (N := 7) hx hb hw inlX3 hown hT hP 24 (Nat.le_of_ble_eq_true rfl) kd24 rfl rfl 0 (by decide) (hw _ uw128) rfl dX8_set_23 ?_
    refine lv_if_eq (tgt := 32) hx hb dX8_set_26 (by decide) (fun c_3 => ?_) (fun c_3 => ?_)
    · have hres := hres.trans (if_pos c_3)
      have hs := hs c_3
      refine lv_aload_n hx hb dX8_set_32 rfl (lv_at hl 0 rfl) ?_
      refine gh_get (v := .ref (gA G 67)) (C := RX8) (T := TX8) (N := 5) hx hb hw inlX8 hown hT hP 0 (Nat.le_of_ble_eq_true rfl) kd0 rfl rfl 2 (by decide) (hw _ uw20) rfl dX8_set_33 ?_
      refine lv_aload_n hx hb dX8_set_36 rfl (lv_at hl 0 rfl) ?_
      refine gh_get (v := .ref (gA G 1)) (C := RX8) (T := TX8) (N := 5) hx hb hw inlX8 hown hT hP 0 (Nat.le_of_ble_eq_true rfl) kd0 rfl rfl 0 (by decide) (hw _ uw15) rfl dX8_set_37 ?_
      have ho_4 := hs
      refine gh_kv (va_runV (As := [.ref (gA G 1)]) (rest := []) ⟨hx, hb, hml, hown, hw⟩ (cc_X1_record l G V q hq j hj hqj ho_4) (cwV 1 hw gv_RX8_60 rfl rfl rfl dd_X1_record ⟨Nat.le_of_ble_eq_true rfl, Nat.le_of_ble_eq_true rfl⟩) (gh_preV hT hP (Nat.le_of_ble_eq_true rfl) kd67 rfl rfl) rfl rfl hl.1 rfl (lv_room (Nat.le_of_ble_eq_true rfl)) dX8_set_40 ⟨Nat.zero_le _, Nat.zero_le _⟩) hS (fun H locs hP hS => ?_)
      exact b_43 a2 (MX1_record j q V) _ _ _ (lv_sub hl [0, 2] rfl) hP hS hres
    have hres := hres.trans (if_neg c_3)
    refine lv_bipush (v := -2) hx hb dX8_set_29 (by decide) ?_
    exact gh_iret hx hb hr hlocks hP hS hT hres dX8_set_31
  have hres := hres.trans (if_pos c_2)
  refine lv_iconst (v := -1) hx hb dX8_set_14 (by decide) ?_
  exact gh_iret hx hb hr hlocks hP hS hT hres dX8_set_15
def BX8_seed_17 (j : Nat) (q : Nat)  (x1 : Int32) (V : gV) : Int32 × gV := ((V 1 7), (gu V 1 7 x1))
def MX8_seed (j : Nat) (q : Nat) (a1 : Int32) (V : gV) : Int32 × gV := if 0 ≤ a1 then (BX8_seed_17 j q a1 (MX1_record j q V)) else (((-1 : Int32), V))
def PX8_seed (j : Nat) (q : Nat) (a1 : Int32) (V : gV) : Prop := ((0 ≤ a1 → (PX1_record j q V)))
abbrev wc_X8_seed : List Cond := Cond.code yX8_seed cX8_seed 3 (some .int) :: wsL_law
abbrev r_X8_seed : Room := { frames := 5, cells := 0, slots := 0, locals := 125 }
theorem dd_X8_seed : yX8_seed.cls = RX8 ∧ yX8_seed.cls ≠ "java/lang/invoke/MethodHandle" ∧ yX8_seed.cls ≠ "java/lang/invoke/VarHandle" ∧ (parseMethodDescriptor yX8_seed.desc).map (fun d => d.parameters.length) = some 1 := by decide +kernel
set_option maxHeartbeats 8000000 in
set_option maxRecDepth 100000 in
theorem cc_X8_seed (l : Launch) (G : gG) (V : gV) (q : Nat) (hq : gX5 q) (j : Nat) (hj : j < 4) (hqj : q = 69 + 33 * j) (a1 : Int32) (hs : PX8_seed j q a1 V) : Met l yX8_seed wc_X8_seed r_X8_seed (va_Pc [.ref (gA G 0), .int a1] (gW G V)) (gQI G (MX8_seed j q a1 V)) 0 0 (gF G) := by
  refine Met.ofW (cc := cX8_seed) (maxL := 3) (ret := (some .int)) (by decide) rfl ?_
  intro p e s m args below meth c s₁ B hml hv
  obtain ⟨rfl, hP, hT⟩ := hv
  have hx := B.exec
  have hb := B.bytes
  have hr := B.returns
  have hw := gh_hw (atoms_spec (ws := wc_X8_seed) B.pre)
  have hown : s.vm.findClass RX8 = some m.cls := findClass_of_methodNamed B.named
  have hlocks := B.notSynchronized
  have hS : va_S (gF G) s.heap s.heap [] := va_S.rf
  have hl := lv_entry ([.ref (gA G 0), .int a1]) (n := 3) (Nat.le_of_ble_eq_true rfl)
  rw [lg_entry_eq]
  generalize (lg_sl ([.ref (gA G 0), .int a1]) ++ List.replicate (3 - (lg_sl ([.ref (gA G 0), .int a1])).length) Slot.unset).toArray = ls at hl ⊢
  have hl : lv_has ls 3 [(0, .ref (gA G 0)), (1, .int a1)] := hl
  obtain ⟨res, hres⟩ : ∃ r, r = MX8_seed j q a1 V := ⟨_, rfl⟩
  rw [← hres]
  show W p l e r_X8_seed s m ([.ref (gA G 0), .int a1] : List Value).toArray below meth c s.heap [] 0 0 (MQ below (gQI G res) ([.ref (gA G 0), .int a1] : List Value).toArray s 0 0 (gF G)) (F0 m 0 ls [])
  have hs : ((0 ≤ a1 → (PX1_record j q V))) := hs
  have hres : res = (if 0 ≤ a1 then (BX8_seed_17 j q a1 (MX1_record j q V)) else (((-1 : Int32), V))) := hres
  have b_17 : ∀ (x1 : Int32) (V : gV) (H : Heap) (locs : List Loc) (ls : Array Slot), lv_has ls 3 [(0, .ref (gA G 0)), (1, .int x1)] → va_P (gD G) vwCl (gL G V) H → va_S (gF G) s.heap H locs → res = BX8_seed_17 j q x1 V → W p l e r_X8_seed s m ([.ref (gA G 0), .int a1] : List Value).toArray below meth c H locs 0 0 (MQ below (gQI G res) ([.ref (gA G 0), .int a1] : List Value).toArray s 0 0 (gF G)) (F0 m 17 ls []) := by
    intro x1 V H locs ls hl hP hS hres
    have hres : res = (((V 1 7), (gu V 1 7 x1))) := hres
    refine lv_aload_n hx hb dX8_seed_17 rfl (lv_at hl 0 rfl) ?_
    refine gh_get (v := .ref (gA G 1)) (C := RX8) (T := TX8) (N := 5) hx hb hw inlX8 hown hT hP 0 (Nat.le_of_ble_eq_true rfl) kd0 rfl rfl 0 (by decide) (hw _ uw15) rfl dX8_seed_18 ?_
    refine gh_get (v := .int (V 1 7)) (C := RX5) (T := TX5) (N := 9) hx hb hw inlX5 hown hT hP 1 (Nat.le_of_ble_eq_true rfl) kd1 rfl rfl 7 (by decide) (hw _ uw279) rfl dX8_seed_21 ?_
    refine lv_istore_n (lv' := [(2, .int (V 1 7)), (0, .ref (gA G 0)), (1, .int x1)]) hx hb dX8_seed_24 rfl hl (by decide) rfl (fun ls hl => ?_)
    refine lv_aload_n hx hb dX8_seed_25 rfl (lv_at hl 1 rfl) ?_
    refine gh_get (v := .ref (gA G 1)) (C := RX8) (T := TX8) (N := 5) hx hb hw inlX8 hown hT hP 0 (Nat.le_of_ble_eq_true rfl) kd0 rfl rfl 0 (by decide) (hw _ uw15) rfl dX8_seed_26 ?_
    refine lv_iload_n hx hb dX8_seed_29 rfl (lv_at hl 2 rfl) ?_
    refine gh_put (ty := .int) (x := x1) (C := RX5) (T := TX5) (N := 9) hx hb hw inlX5 tyX5_ok nmX5 hown hT hP hS 1 (Nat.le_of_ble_eq_true rfl) kd1 rfl rfl 7 (by decide) (hw _ uw279) rfl (by decide +kernel) rfl rfl (Nat.le_of_ble_eq_true rfl) rfl dX8_seed_30 (fun H locs hP hS => ?_)
    refine lv_iload_n hx hb dX8_seed_33 rfl (lv_at hl 0 rfl) ?_
    exact gh_iret hx hb hr hlocks hP hS hT hres dX8_seed_34
  refine lv_iload_n hx hb dX8_seed_0 rfl (lv_at hl 1 rfl) ?_
  refine lv_if_ge (tgt := 6) hx hb dX8_seed_1 (by decide) (fun c_1 => ?_) (fun c_1 => ?_)
  · have hres := hres.trans (if_pos c_1)
    have hs := hs c_1
    refine lv_aload_n hx hb dX8_seed_6 rfl (lv_at hl 0 rfl) ?_
    refine gh_get (v := .ref (gA G 67)) (C := RX8) (T := TX8) (N := 5) hx hb hw inlX8 hown hT hP 0 (Nat.le_of_ble_eq_true rfl) kd0 rfl rfl 2 (by decide) (hw _ uw20) rfl dX8_seed_7 ?_
    refine lv_aload_n hx hb dX8_seed_10 rfl (lv_at hl 0 rfl) ?_
    refine gh_get (v := .ref (gA G 1)) (C := RX8) (T := TX8) (N := 5) hx hb hw inlX8 hown hT hP 0 (Nat.le_of_ble_eq_true rfl) kd0 rfl rfl 0 (by decide) (hw _ uw15) rfl dX8_seed_11 ?_
    have ho_2 := hs
    refine gh_kv (va_runV (As := [.ref (gA G 1)]) (rest := []) ⟨hx, hb, hml, hown, hw⟩ (cc_X1_record l G V q hq j hj hqj ho_2) (cwV 1 hw gv_RX8_60 rfl rfl rfl dd_X1_record ⟨Nat.le_of_ble_eq_true rfl, Nat.le_of_ble_eq_true rfl⟩) (gh_preV hT hP (Nat.le_of_ble_eq_true rfl) kd67 rfl rfl) rfl rfl hl.1 rfl (lv_room (Nat.le_of_ble_eq_true rfl)) dX8_seed_14 ⟨Nat.zero_le _, Nat.zero_le _⟩) hS (fun H locs hP hS => ?_)
    exact b_17 a1 (MX1_record j q V) _ _ _ (lv_sub hl [0, 1] rfl) hP hS hres
  have hres := hres.trans (if_neg c_1)
  refine lv_iconst (v := -1) hx hb dX8_seed_4 (by decide) ?_
  exact gh_iret hx hb hr hlocks hP hS hT hres dX8_seed_5
theorem gv_RX8_103 : GoodIn wsL_law (wsV RX8 103 RX5 yX5_canBegin wc_X5_canBegin) := gh_gV uw290 uw291 uw292 uw14 uw293
theorem gv_RX8_106 : GoodIn wsL_law (wsV RX8 106 RX5 yX5_beginRound wc_X5_beginRound) := gh_gV uw302 uw303 uw304 uw14 uw305
def BX8_begin_45 (j : Nat) (q : Nat)   (V : gV) : Int32 × gV := ((MX4_at 3 (V 24 1) V), V)
def BX8_begin_37 (j : Nat) (q : Nat)  (x1 : Int32) (V : gV) : Int32 × gV := BX8_begin_45 j q (MX5_beginRound x1 V)
def PX8_begin_37 (j : Nat) (q : Nat)  (x1 : Int32) (V : gV) : Prop := (PX5_beginRound x1 V)
def MX8_begin (j : Nat) (q : Nat) (a1 : Int32) (V : gV) : Int32 × gV := if (MX8_isBetween a1 (1 : Int32) (50 : Int32) V) = 0 then (((-1 : Int32), V)) else (if (MX5_canBegin a1 V) = 0 then (((-2 : Int32), V)) else (BX8_begin_37 j q a1 (MX1_record j q V)))
def PX8_begin (j : Nat) (q : Nat) (a1 : Int32) (V : gV) : Prop := ((¬ (MX8_isBetween a1 (1 : Int32) (50 : Int32) V) = 0 → (PX5_canBegin a1 V) ∧ ((¬ (MX5_canBegin a1 V) = 0 → (PX1_record j q V) ∧ (PX8_begin_37 j q a1 (MX1_record j q V))))))
abbrev wc_X8_begin : List Cond := Cond.code yX8_begin cX8_begin 2 (some .int) :: wsL_law
abbrev r_X8_begin : Room := { frames := 5, cells := 0, slots := 0, locals := 125 }
theorem dd_X8_begin : yX8_begin.cls = RX8 ∧ yX8_begin.cls ≠ "java/lang/invoke/MethodHandle" ∧ yX8_begin.cls ≠ "java/lang/invoke/VarHandle" ∧ (parseMethodDescriptor yX8_begin.desc).map (fun d => d.parameters.length) = some 1 := by decide +kernel
set_option maxHeartbeats 8000000 in
set_option maxRecDepth 100000 in
theorem cc_X8_begin (l : Launch) (G : gG) (V : gV) (q : Nat) (hq : gX5 q) (j : Nat) (hj : j < 4) (hqj : q = 69 + 33 * j) (a1 : Int32) (hs : PX8_begin j q a1 V) : Met l yX8_begin wc_X8_begin r_X8_begin (va_Pc [.ref (gA G 0), .int a1] (gW G V)) (gQI G (MX8_begin j q a1 V)) 0 0 (gF G) := by
  refine Met.ofW (cc := cX8_begin) (maxL := 2) (ret := (some .int)) (by decide) rfl ?_
  intro p e s m args below meth c s₁ B hml hv
  obtain ⟨rfl, hP, hT⟩ := hv
  have hx := B.exec
  have hb := B.bytes
  have hr := B.returns
  have hw := gh_hw (atoms_spec (ws := wc_X8_begin) B.pre)
  have hown : s.vm.findClass RX8 = some m.cls := findClass_of_methodNamed B.named
  have hlocks := B.notSynchronized
  have hS : va_S (gF G) s.heap s.heap [] := va_S.rf
  have hl := lv_entry ([.ref (gA G 0), .int a1]) (n := 2) (Nat.le_of_ble_eq_true rfl)
  rw [lg_entry_eq]
  generalize (lg_sl ([.ref (gA G 0), .int a1]) ++ List.replicate (2 - (lg_sl ([.ref (gA G 0), .int a1])).length) Slot.unset).toArray = ls at hl ⊢
  have hl : lv_has ls 2 [(0, .ref (gA G 0)), (1, .int a1)] := hl
  obtain ⟨res, hres⟩ : ∃ r, r = MX8_begin j q a1 V := ⟨_, rfl⟩
  rw [← hres]
  show W p l e r_X8_begin s m ([.ref (gA G 0), .int a1] : List Value).toArray below meth c s.heap [] 0 0 (MQ below (gQI G res) ([.ref (gA G 0), .int a1] : List Value).toArray s 0 0 (gF G)) (F0 m 0 ls [])
  have hs : ((¬ (MX8_isBetween a1 (1 : Int32) (50 : Int32) V) = 0 → (PX5_canBegin a1 V) ∧ ((¬ (MX5_canBegin a1 V) = 0 → (PX1_record j q V) ∧ (PX8_begin_37 j q a1 (MX1_record j q V)))))) := hs
  have hres : res = (if (MX8_isBetween a1 (1 : Int32) (50 : Int32) V) = 0 then (((-1 : Int32), V)) else (if (MX5_canBegin a1 V) = 0 then (((-2 : Int32), V)) else (BX8_begin_37 j q a1 (MX1_record j q V)))) := hres
  have b_45 : ∀  (V : gV) (H : Heap) (locs : List Loc) (ls : Array Slot), lv_has ls 2 [(0, .ref (gA G 0))] → va_P (gD G) vwCl (gL G V) H → va_S (gF G) s.heap H locs → res = BX8_begin_45 j q  V → W p l e r_X8_begin s m ([.ref (gA G 0), .int a1] : List Value).toArray below meth c H locs 0 0 (MQ below (gQI G res) ([.ref (gA G 0), .int a1] : List Value).toArray s 0 0 (gF G)) (F0 m 45 ls []) := by
    intro  V H locs ls hl hP hS hres
    have hres : res = (((MX4_at 3 (V 24 1) V), V)) := hres
    refine lv_aload_n hx hb dX8_begin_45 rfl (lv_at hl 0 rfl) ?_
    refine gh_get (v := .ref (gA G 1)) (C := RX8) (T := TX8) (N := 5) hx hb hw inlX8 hown hT hP 0 (Nat.le_of_ble_eq_true rfl) kd0 rfl rfl 0 (by decide) (hw _ uw15) rfl dX8_begin_46 ?_
    refine gh_get (v := .ref (gA G 2)) (C := RX5) (T := TX5) (N := 9) hx hb hw inlX5 hown hT hP 1 (Nat.le_of_ble_eq_true rfl) kd1 rfl rfl 0 (by decide) (hw _ uw126) rfl dX8_begin_49 ?_
    refine gh_get (v := .ref (gA G 3)) (C := RX7) (T := TX7) (N := 5) hx hb hw inlX7 hown hT hP 2 (Nat.le_of_ble_eq_true rfl) kd2 rfl rfl 1 (by decide) (hw _ uw288) rfl dX8_begin_52 ?_
    refine lv_aload_n hx hb dX8_begin_55 rfl (lv_at hl 0 rfl) ?_
    refine gh_get (v := .ref (gA G 1)) (C := RX8) (T := TX8) (N := 5) hx hb hw inlX8 hown hT hP 0 (Nat.le_of_ble_eq_true rfl) kd0 rfl rfl 0 (by decide) (hw _ uw15) rfl dX8_begin_56 ?_
    refine gh_get (v := .ref (gA G 24)) (C := RX5) (T := TX5) (N := 9) hx hb hw inlX5 hown hT hP 1 (Nat.le_of_ble_eq_true rfl) kd1 rfl rfl 2 (by decide) (hw _ uw127) rfl dX8_begin_59 ?_
    refine gh_get (v := .int (V 24 1)) (C := RX3) (T := TX3) (N := 7) hx hb hw inlX3 hown hT hP 24 (Nat.le_of_ble_eq_true rfl) kd24 rfl rfl 1 (by decide) (hw _ uw289) rfl dX8_begin_62 ?_
    refine gh_kr (va_runV (As := [.int (V 24 1)]) (rest := []) ⟨hx, hb, hml, hown, hw⟩ (cc_X4_at l G V 3 gi3 (V 24 1)) (cwV 1 hw gv_RX8_68 rfl rfl rfl dd_X4_at ⟨Nat.le_of_ble_eq_true rfl, Nat.le_of_ble_eq_true rfl⟩) (gh_preV hT hP (Nat.le_of_ble_eq_true rfl) kd3 rfl rfl) rfl rfl hl.1 rfl (lv_room (Nat.le_of_ble_eq_true rfl)) dX8_begin_65 ⟨Nat.zero_le _, Nat.zero_le _⟩) hS (fun H locs hP hS => ?_)
    exact gh_iret hx hb hr hlocks hP hS hT hres dX8_begin_68
  have b_37 : ∀ (x1 : Int32) (V : gV) (H : Heap) (locs : List Loc) (ls : Array Slot), lv_has ls 2 [(0, .ref (gA G 0)), (1, .int x1)] → va_P (gD G) vwCl (gL G V) H → va_S (gF G) s.heap H locs → PX8_begin_37 j q x1 V → res = BX8_begin_37 j q x1 V → W p l e r_X8_begin s m ([.ref (gA G 0), .int a1] : List Value).toArray below meth c H locs 0 0 (MQ below (gQI G res) ([.ref (gA G 0), .int a1] : List Value).toArray s 0 0 (gF G)) (F0 m 37 ls []) := by
    intro x1 V H locs ls hl hP hS hs hres
    have hs : (PX5_beginRound x1 V) := hs
    have hres : res = (BX8_begin_45 j q (MX5_beginRound x1 V)) := hres
    refine lv_aload_n hx hb dX8_begin_37 rfl (lv_at hl 0 rfl) ?_
    refine gh_get (v := .ref (gA G 1)) (C := RX8) (T := TX8) (N := 5) hx hb hw inlX8 hown hT hP 0 (Nat.le_of_ble_eq_true rfl) kd0 rfl rfl 0 (by decide) (hw _ uw15) rfl dX8_begin_38 ?_
    refine lv_iload_n hx hb dX8_begin_41 rfl (lv_at hl 1 rfl) ?_
    have ho_5 := hs
    refine gh_kv (va_runV (As := [.int x1]) (rest := []) ⟨hx, hb, hml, hown, hw⟩ (cc_X5_beginRound l G V x1 ho_5) (cwV 1 hw gv_RX8_106 rfl rfl rfl dd_X5_beginRound ⟨Nat.le_of_ble_eq_true rfl, Nat.le_of_ble_eq_true rfl⟩) (gh_preV hT hP (Nat.le_of_ble_eq_true rfl) kd1 rfl rfl) rfl rfl hl.1 rfl (lv_room (Nat.le_of_ble_eq_true rfl)) dX8_begin_42 ⟨Nat.zero_le _, Nat.zero_le _⟩) hS (fun H locs hP hS => ?_)
    exact b_45 (MX5_beginRound x1 V) _ _ _ (lv_sub hl [0] rfl) hP hS hres
  refine lv_iload_n hx hb dX8_begin_0 rfl (lv_at hl 1 rfl) ?_
  refine lv_iconst (v := 1) hx hb dX8_begin_1 (by decide) ?_
  refine lv_bipush (v := 50) hx hb dX8_begin_2 (by decide) ?_
  refine gh_kr (va_runS (As := [.int a1, .int (1 : Int32), .int (50 : Int32)]) (rest := []) ⟨hx, hb, hml, hown, hw⟩ (cc_X8_isBetween l G V a1 (1 : Int32) (50 : Int32)) (va_cwS 3 hw gv_RX8_47 rfl rfl rfl dd_X8_isBetween.2 ⟨Nat.le_of_ble_eq_true rfl, Nat.le_of_ble_eq_true rfl⟩) (gh_pre hT hP) rfl rfl hl.1 rfl (lv_room (Nat.le_of_ble_eq_true rfl)) dX8_begin_4 ⟨Nat.zero_le _, Nat.zero_le _⟩) hS (fun H locs hP hS => ?_)
  refine lv_if_ne (tgt := 12) hx hb dX8_begin_7 (by decide) (fun c_1 => ?_) (fun c_1 => ?_)
  · have hres := hres.trans (if_neg c_1)
    have hs := hs c_1
    refine lv_aload_n hx hb dX8_begin_12 rfl (lv_at hl 0 rfl) ?_
    refine gh_get (v := .ref (gA G 1)) (C := RX8) (T := TX8) (N := 5) hx hb hw inlX8 hown hT hP 0 (Nat.le_of_ble_eq_true rfl) kd0 rfl rfl 0 (by decide) (hw _ uw15) rfl dX8_begin_13 ?_
    refine lv_iload_n hx hb dX8_begin_16 rfl (lv_at hl 1 rfl) ?_
    obtain ⟨ho_2, hs⟩ := hs
    refine gh_kr (va_runV (As := [.int a1]) (rest := []) ⟨hx, hb, hml, hown, hw⟩ (cc_X5_canBegin l G V a1 ho_2) (cwV 1 hw gv_RX8_103 rfl rfl rfl dd_X5_canBegin ⟨Nat.le_of_ble_eq_true rfl, Nat.le_of_ble_eq_true rfl⟩) (gh_preV hT hP (Nat.le_of_ble_eq_true rfl) kd1 rfl rfl) rfl rfl hl.1 rfl (lv_room (Nat.le_of_ble_eq_true rfl)) dX8_begin_17 ⟨Nat.zero_le _, Nat.zero_le _⟩) hS (fun H locs hP hS => ?_)
    refine lv_if_ne (tgt := 26) hx hb dX8_begin_20 (by decide) (fun c_3 => ?_) (fun c_3 => ?_)
    · have hres := hres.trans (if_neg c_3)
      have hs := hs c_3
      refine lv_aload_n hx hb dX8_begin_26 rfl (lv_at hl 0 rfl) ?_
      refine gh_get (v := .ref (gA G 67)) (C := RX8) (T := TX8) (N := 5) hx hb hw inlX8 hown hT hP 0 (Nat.le_of_ble_eq_true rfl) kd0 rfl rfl 2 (by decide) (hw _ uw20) rfl dX8_begin_27 ?_
      refine lv_aload_n hx hb dX8_begin_30 rfl (lv_at hl 0 rfl) ?_
      refine gh_get (v := .ref (gA G 1)) (C := RX8) (T := TX8) (N := 5) hx hb hw inlX8 hown hT hP 0 (Nat.le_of_ble_eq_true rfl) kd0 rfl rfl 0 (by decide) (hw _ uw15) rfl dX8_begin_31 ?_
      obtain ⟨ho_4, hs⟩ := hs
      refine gh_kv (va_runV (As := [.ref (gA G 1)]) (rest := []) ⟨hx, hb, hml, hown, hw⟩ (cc_X1_record l G V q hq j hj hqj ho_4) (cwV 1 hw gv_RX8_60 rfl rfl rfl dd_X1_record ⟨Nat.le_of_ble_eq_true rfl, Nat.le_of_ble_eq_true rfl⟩) (gh_preV hT hP (Nat.le_of_ble_eq_true rfl) kd67 rfl rfl) rfl rfl hl.1 rfl (lv_room (Nat.le_of_ble_eq_true rfl)) dX8_begin_34 ⟨Nat.zero_le _, Nat.zero_le _⟩) hS (fun H locs hP hS => ?_)
      exact b_37 a1 (MX1_record j q V) _ _ _ (lv_sub hl [0, 1] rfl) hP hS hs hres
    have hres := hres.trans (if_pos c_3)
    refine lv_bipush (v := -2) hx hb dX8_begin_23 (by decide) ?_
    exact gh_iret hx hb hr hlocks hP hS hT hres dX8_begin_25
  have hres := hres.trans (if_pos c_1)
  refine lv_iconst (v := -1) hx hb dX8_begin_10 (by decide) ?_
  exact gh_iret hx hb hr hlocks hP hS hT hres dX8_begin_11
theorem gv_RX8_122 : GoodIn wsL_law (wsV RX8 122 RX5 yX5_guessLetter wc_X5_guessLetter) := gh_gV uw379 uw380 uw381 uw14 uw382
def BX8_guess_37 (j : Nat) (q : Nat)  (x1 : Int32) (V : gV) : Int32 × gV := ((MX5_guessLetter x1 V).1, (MX5_guessLetter x1 V).2)
def PX8_guess_37 (j : Nat) (q : Nat)  (x1 : Int32) (V : gV) : Prop := (PX5_guessLetter x1 V)
def MX8_guess (j : Nat) (q : Nat) (a1 : Int32) (V : gV) : Int32 × gV := if (MX8_isLetter a1 V) = 0 then (((-1 : Int32), V)) else (if (MX3_takes a1 V) = 0 then (((-2 : Int32), V)) else (BX8_guess_37 j q a1 (MX1_record j q V)))
def PX8_guess (j : Nat) (q : Nat) (a1 : Int32) (V : gV) : Prop := ((¬ (MX8_isLetter a1 V) = 0 → ((¬ (MX3_takes a1 V) = 0 → (PX1_record j q V) ∧ (PX8_guess_37 j q a1 (MX1_record j q V))))))
abbrev wc_X8_guess : List Cond := Cond.code yX8_guess cX8_guess 2 (some .int) :: wsL_law
abbrev r_X8_guess : Room := { frames := 6, cells := 0, slots := 0, locals := 129 }
theorem dd_X8_guess : yX8_guess.cls = RX8 ∧ yX8_guess.cls ≠ "java/lang/invoke/MethodHandle" ∧ yX8_guess.cls ≠ "java/lang/invoke/VarHandle" ∧ (parseMethodDescriptor yX8_guess.desc).map (fun d => d.parameters.length) = some 1 := by decide +kernel
set_option maxHeartbeats 8000000 in
set_option maxRecDepth 100000 in
theorem cc_X8_guess (l : Launch) (G : gG) (V : gV) (q : Nat) (hq : gX5 q) (j : Nat) (hj : j < 4) (hqj : q = 69 + 33 * j) (a1 : Int32) (hs : PX8_guess j q a1 V) : Met l yX8_guess wc_X8_guess r_X8_guess (va_Pc [.ref (gA G 0), .int a1] (gW G V)) (gQI G (MX8_guess j q a1 V)) 0 0 (gF G) := by
  refine Met.ofW (cc := cX8_guess) (maxL := 2) (ret := (some .int)) (by decide) rfl ?_
  intro p e s m args below meth c s₁ B hml hv
  obtain ⟨rfl, hP, hT⟩ := hv
  have hx := B.exec
  have hb := B.bytes
  have hr := B.returns
  have hw := gh_hw (atoms_spec (ws := wc_X8_guess) B.pre)
  have hown : s.vm.findClass RX8 = some m.cls := findClass_of_methodNamed B.named
  have hlocks := B.notSynchronized
  have hS : va_S (gF G) s.heap s.heap [] := va_S.rf
  have hl := lv_entry ([.ref (gA G 0), .int a1]) (n := 2) (Nat.le_of_ble_eq_true rfl)
  rw [lg_entry_eq]
  generalize (lg_sl ([.ref (gA G 0), .int a1]) ++ List.replicate (2 - (lg_sl ([.ref (gA G 0), .int a1])).length) Slot.unset).toArray = ls at hl ⊢
  have hl : lv_has ls 2 [(0, .ref (gA G 0)), (1, .int a1)] := hl
  obtain ⟨res, hres⟩ : ∃ r, r = MX8_guess j q a1 V := ⟨_, rfl⟩
  rw [← hres]
  show W p l e r_X8_guess s m ([.ref (gA G 0), .int a1] : List Value).toArray below meth c s.heap [] 0 0 (MQ below (gQI G res) ([.ref (gA G 0), .int a1] : List Value).toArray s 0 0 (gF G)) (F0 m 0 ls [])
  have hs : ((¬ (MX8_isLetter a1 V) = 0 → ((¬ (MX3_takes a1 V) = 0 → (PX1_record j q V) ∧ (PX8_guess_37 j q a1 (MX1_record j q V)))))) := hs
  have hres : res = (if (MX8_isLetter a1 V) = 0 then (((-1 : Int32), V)) else (if (MX3_takes a1 V) = 0 then (((-2 : Int32), V)) else (BX8_guess_37 j q a1 (MX1_record j q V)))) := hres
  have b_37 : ∀ (x1 : Int32) (V : gV) (H : Heap) (locs : List Loc) (ls : Array Slot), lv_has ls 2 [(0, .ref (gA G 0)), (1, .int x1)] → va_P (gD G) vwCl (gL G V) H → va_S (gF G) s.heap H locs → PX8_guess_37 j q x1 V → res = BX8_guess_37 j q x1 V → W p l e r_X8_guess s m ([.ref (gA G 0), .int a1] : List Value).toArray below meth c H locs 0 0 (MQ below (gQI G res) ([.ref (gA G 0), .int a1] : List Value).toArray s 0 0 (gF G)) (F0 m 37 ls []) := by
    intro x1 V H locs ls hl hP hS hs hres
    have hs : (PX5_guessLetter x1 V) := hs
    have hres : res = (((MX5_guessLetter x1 V).1, (MX5_guessLetter x1 V).2)) := hres
    refine lv_aload_n hx hb dX8_guess_37 rfl (lv_at hl 0 rfl) ?_
    refine gh_get (v := .ref (gA G 1)) (C := RX8) (T := TX8) (N := 5) hx hb hw inlX8 hown hT hP 0 (Nat.le_of_ble_eq_true rfl) kd0 rfl rfl 0 (by decide) (hw _ uw15) rfl dX8_guess_38 ?_
    refine lv_iload_n hx hb dX8_guess_41 rfl (lv_at hl 1 rfl) ?_
    have ho_4 := hs
    refine gh_ki (va_runV (As := [.int x1]) (rest := []) ⟨hx, hb, hml, hown, hw⟩ (cc_X5_guessLetter l G V x1 ho_4) (cwV 1 hw gv_RX8_122 rfl rfl rfl dd_X5_guessLetter ⟨Nat.le_of_ble_eq_true rfl, Nat.le_of_ble_eq_true rfl⟩) (gh_preV hT hP (Nat.le_of_ble_eq_true rfl) kd1 rfl rfl) rfl rfl hl.1 rfl (lv_room (Nat.le_of_ble_eq_true rfl)) dX8_guess_42 ⟨Nat.zero_le _, Nat.zero_le _⟩) hS (fun H locs hP hS => ?_)
    exact gh_iret hx hb hr hlocks hP hS hT hres dX8_guess_45
  refine lv_iload_n hx hb dX8_guess_0 rfl (lv_at hl 1 rfl) ?_
  refine gh_kr (va_runS (As := [.int a1]) (rest := []) ⟨hx, hb, hml, hown, hw⟩ (cc_X8_isLetter l G V a1) (va_cwS 1 hw gv_RX8_116 rfl rfl rfl dd_X8_isLetter.2 ⟨Nat.le_of_ble_eq_true rfl, Nat.le_of_ble_eq_true rfl⟩) (gh_pre hT hP) rfl rfl hl.1 rfl (lv_room (Nat.le_of_ble_eq_true rfl)) dX8_guess_1 ⟨Nat.zero_le _, Nat.zero_le _⟩) hS (fun H locs hP hS => ?_)
  refine lv_if_ne (tgt := 9) hx hb dX8_guess_4 (by decide) (fun c_1 => ?_) (fun c_1 => ?_)
  · have hres := hres.trans (if_neg c_1)
    have hs := hs c_1
    refine lv_aload_n hx hb dX8_guess_9 rfl (lv_at hl 0 rfl) ?_
    refine gh_get (v := .ref (gA G 1)) (C := RX8) (T := TX8) (N := 5) hx hb hw inlX8 hown hT hP 0 (Nat.le_of_ble_eq_true rfl) kd0 rfl rfl 0 (by decide) (hw _ uw15) rfl dX8_guess_10 ?_
    refine gh_get (v := .ref (gA G 24)) (C := RX5) (T := TX5) (N := 9) hx hb hw inlX5 hown hT hP 1 (Nat.le_of_ble_eq_true rfl) kd1 rfl rfl 2 (by decide) (hw _ uw127) rfl dX8_guess_13 ?_
    refine lv_iload_n hx hb dX8_guess_16 rfl (lv_at hl 1 rfl) ?_
    refine gh_kr (va_runV (As := [.int a1]) (rest := []) ⟨hx, hb, hml, hown, hw⟩ (cc_X3_takes l G V a1) (cwV 1 hw gv_RX8_119 rfl rfl rfl dd_X3_takes ⟨Nat.le_of_ble_eq_true rfl, Nat.le_of_ble_eq_true rfl⟩) (gh_preV hT hP (Nat.le_of_ble_eq_true rfl) kd24 rfl rfl) rfl rfl hl.1 rfl (lv_room (Nat.le_of_ble_eq_true rfl)) dX8_guess_17 ⟨Nat.zero_le _, Nat.zero_le _⟩) hS (fun H locs hP hS => ?_)
    refine lv_if_ne (tgt := 26) hx hb dX8_guess_20 (by decide) (fun c_2 => ?_) (fun c_2 => ?_)
    · have hres := hres.trans (if_neg c_2)
      have hs := hs c_2
      refine lv_aload_n hx hb dX8_guess_26 rfl (lv_at hl 0 rfl) ?_
      refine gh_get (v := .ref (gA G 67)) (C := RX8) (T := TX8) (N := 5) hx hb hw inlX8 hown hT hP 0 (Nat.le_of_ble_eq_true rfl) kd0 rfl rfl 2 (by decide) (hw _ uw20) rfl dX8_guess_27 ?_
      refine lv_aload_n hx hb dX8_guess_30 rfl (lv_at hl 0 rfl) ?_
      refine gh_get (v := .ref (gA G 1)) (C := RX8) (T := TX8) (N := 5) hx hb hw inlX8 hown hT hP 0 (Nat.le_of_ble_eq_true rfl) kd0 rfl rfl 0 (by decide) (hw _ uw15) rfl dX8_guess_31 ?_
      obtain ⟨ho_3, hs⟩ := hs
      refine gh_kv (va_runV (As := [.ref (gA G 1)]) (rest := []) ⟨hx, hb, hml, hown, hw⟩ (cc_X1_record l G V q hq j hj hqj ho_3) (cwV 1 hw gv_RX8_60 rfl rfl rfl dd_X1_record ⟨Nat.le_of_ble_eq_true rfl, Nat.le_of_ble_eq_true rfl⟩) (gh_preV hT hP (Nat.le_of_ble_eq_true rfl) kd67 rfl rfl) rfl rfl hl.1 rfl (lv_room (Nat.le_of_ble_eq_true rfl)) dX8_guess_34 ⟨Nat.zero_le _, Nat.zero_le _⟩) hS (fun H locs hP hS => ?_)
      exact b_37 a1 (MX1_record j q V) _ _ _ (lv_sub hl [0, 1] rfl) hP hS hs hres
    have hres := hres.trans (if_pos c_2)
    refine lv_bipush (v := -2) hx hb dX8_guess_23 (by decide) ?_
    exact gh_iret hx hb hr hlocks hP hS hT hres dX8_guess_25
  have hres := hres.trans (if_pos c_1)
  refine lv_iconst (v := -1) hx hb dX8_guess_7 (by decide) ?_
  exact gh_iret hx hb hr hlocks hP hS hT hres dX8_guess_8
theorem gv_RX8_125 : GoodIn wsL_law (wsV RX8 125 RX5 yX5_tellWord wc_X5_tellWord) := gh_gV uw478 uw479 uw480 uw14 uw481
def BX8_tell_51 (j : Nat) (q : Nat)  (s0 : Int32) (V : gV) : Int32 × gV := if s0 = 0 then (((0 : Int32), V)) else (((1 : Int32), V))
def BX8_tell_43 (j : Nat) (q : Nat)  (x1 : Int32) (V : gV) : Int32 × gV := BX8_tell_51 j q ((MX5_tellWord x1 V).1) ((MX5_tellWord x1 V).2)
def PX8_tell_43 (j : Nat) (q : Nat)  (x1 : Int32) (V : gV) : Prop := (PX5_tellWord x1 V)
def MX8_tell (j : Nat) (q : Nat) (a1 : Int32) (V : gV) : Int32 × gV := if (MX7_has a1 V) = 0 then (((-1 : Int32), V)) else (if (V 24 0) = 0 then (((-2 : Int32), V)) else (BX8_tell_43 j q a1 (MX1_record j q V)))
def PX8_tell (j : Nat) (q : Nat) (a1 : Int32) (V : gV) : Prop := ((¬ (MX7_has a1 V) = 0 → ((¬ (V 24 0) = 0 → (PX1_record j q V) ∧ (PX8_tell_43 j q a1 (MX1_record j q V))))))
abbrev wc_X8_tell : List Cond := Cond.code yX8_tell cX8_tell 2 (some .int) :: wsL_law
abbrev r_X8_tell : Room := { frames := 6, cells := 0, slots := 0, locals := 126 }
theorem dd_X8_tell : yX8_tell.cls = RX8 ∧ yX8_tell.cls ≠ "java/lang/invoke/MethodHandle" ∧ yX8_tell.cls ≠ "java/lang/invoke/VarHandle" ∧ (parseMethodDescriptor yX8_tell.desc).map (fun d => d.parameters.length) = some 1 := by decide +kernel
set_option maxHeartbeats 8000000 in
set_option maxRecDepth 100000 in
theorem cc_X8_tell (l : Launch) (G : gG) (V : gV) (q : Nat) (hq : gX5 q) (j : Nat) (hj : j < 4) (hqj : q = 69 + 33 * j) (a1 : Int32) (hs : PX8_tell j q a1 V) : Met l yX8_tell wc_X8_tell r_X8_tell (va_Pc [.ref (gA G 0), .int a1] (gW G V)) (gQI G (MX8_tell j q a1 V)) 0 0 (gF G) := by
  refine Met.ofW (cc := cX8_tell) (maxL := 2) (ret := (some .int)) (by decide) rfl ?_
  intro p e s m args below meth c s₁ B hml hv
  obtain ⟨rfl, hP, hT⟩ := hv
  have hx := B.exec
  have hb := B.bytes
  have hr := B.returns
  have hw := gh_hw (atoms_spec (ws := wc_X8_tell) B.pre)
  have hown : s.vm.findClass RX8 = some m.cls := findClass_of_methodNamed B.named
  have hlocks := B.notSynchronized
  have hS : va_S (gF G) s.heap s.heap [] := va_S.rf
  have hl := lv_entry ([.ref (gA G 0), .int a1]) (n := 2) (Nat.le_of_ble_eq_true rfl)
  rw [lg_entry_eq]
  generalize (lg_sl ([.ref (gA G 0), .int a1]) ++ List.replicate (2 - (lg_sl ([.ref (gA G 0), .int a1])).length) Slot.unset).toArray = ls at hl ⊢
  have hl : lv_has ls 2 [(0, .ref (gA G 0)), (1, .int a1)] := hl
  obtain ⟨res, hres⟩ : ∃ r, r = MX8_tell j q a1 V := ⟨_, rfl⟩
  rw [← hres]
  show W p l e r_X8_tell s m ([.ref (gA G 0), .int a1] : List Value).toArray below meth c s.heap [] 0 0 (MQ below (gQI G res) ([.ref (gA G 0), .int a1] : List Value).toArray s 0 0 (gF G)) (F0 m 0 ls [])
  have hs : ((¬ (MX7_has a1 V) = 0 → ((¬ (V 24 0) = 0 → (PX1_record j q V) ∧ (PX8_tell_43 j q a1 (MX1_record j q V)))))) := hs
  have hres : res = (if (MX7_has a1 V) = 0 then (((-1 : Int32), V)) else (if (V 24 0) = 0 then (((-2 : Int32), V)) else (BX8_tell_43 j q a1 (MX1_record j q V)))) := hres
  have b_51 : ∀ (s0 : Int32) (V : gV) (H : Heap) (locs : List Loc) (ls : Array Slot), lv_has ls 2 [] → va_P (gD G) vwCl (gL G V) H → va_S (gF G) s.heap H locs → res = BX8_tell_51 j q s0 V → W p l e r_X8_tell s m ([.ref (gA G 0), .int a1] : List Value).toArray below meth c H locs 0 0 (MQ below (gQI G res) ([.ref (gA G 0), .int a1] : List Value).toArray s 0 0 (gF G)) (F0 m 51 ls [.int s0]) := by
    intro s0 V H locs ls hl hP hS hres
    have hres : res = (if s0 = 0 then (((0 : Int32), V)) else (((1 : Int32), V))) := hres
    refine lv_if_eq (tgt := 58) hx hb dX8_tell_51 (by decide) (fun c_5 => ?_) (fun c_5 => ?_)
    · have hres := hres.trans (if_pos c_5)
      refine lv_iconst (v := 0) hx hb dX8_tell_58 (by decide) ?_
      exact gh_iret hx hb hr hlocks hP hS hT hres dX8_tell_59
    have hres := hres.trans (if_neg c_5)
    refine lv_iconst (v := 1) hx hb dX8_tell_54 (by decide) ?_
    refine lv_goto (tgt := 59) hx hb dX8_tell_55 (by decide) ?_
    exact gh_iret hx hb hr hlocks hP hS hT hres dX8_tell_59
  have b_43 : ∀ (x1 : Int32) (V : gV) (H : Heap) (locs : List Loc) (ls : Array Slot), lv_has ls 2 [(0, .ref (gA G 0)), (1, .int x1)] → va_P (gD G) vwCl (gL G V) H → va_S (gF G) s.heap H locs → PX8_tell_43 j q x1 V → res = BX8_tell_43 j q x1 V → W p l e r_X8_tell s m ([.ref (gA G 0), .int a1] : List Value).toArray below meth c H locs 0 0 (MQ below (gQI G res) ([.ref (gA G 0), .int a1] : List Value).toArray s 0 0 (gF G)) (F0 m 43 ls []) := by
    intro x1 V H locs ls hl hP hS hs hres
    have hs : (PX5_tellWord x1 V) := hs
    have hres : res = (BX8_tell_51 j q ((MX5_tellWord x1 V).1) ((MX5_tellWord x1 V).2)) := hres
    refine lv_aload_n hx hb dX8_tell_43 rfl (lv_at hl 0 rfl) ?_
    refine gh_get (v := .ref (gA G 1)) (C := RX8) (T := TX8) (N := 5) hx hb hw inlX8 hown hT hP 0 (Nat.le_of_ble_eq_true rfl) kd0 rfl rfl 0 (by decide) (hw _ uw15) rfl dX8_tell_44 ?_
    refine lv_iload_n hx hb dX8_tell_47 rfl (lv_at hl 1 rfl) ?_
    have ho_4 := hs
    refine gh_ki (va_runV (As := [.int x1]) (rest := []) ⟨hx, hb, hml, hown, hw⟩ (cc_X5_tellWord l G V x1 ho_4) (cwV 1 hw gv_RX8_125 rfl rfl rfl dd_X5_tellWord ⟨Nat.le_of_ble_eq_true rfl, Nat.le_of_ble_eq_true rfl⟩) (gh_preV hT hP (Nat.le_of_ble_eq_true rfl) kd1 rfl rfl) rfl rfl hl.1 rfl (lv_room (Nat.le_of_ble_eq_true rfl)) dX8_tell_48 ⟨Nat.zero_le _, Nat.zero_le _⟩) hS (fun H locs hP hS => ?_)
    exact b_51 ((MX5_tellWord x1 V).1) ((MX5_tellWord x1 V).2) _ _ _ (lv_sub hl [] rfl) hP hS hres
  refine lv_aload_n hx hb dX8_tell_0 rfl (lv_at hl 0 rfl) ?_
  refine gh_get (v := .ref (gA G 1)) (C := RX8) (T := TX8) (N := 5) hx hb hw inlX8 hown hT hP 0 (Nat.le_of_ble_eq_true rfl) kd0 rfl rfl 0 (by decide) (hw _ uw15) rfl dX8_tell_1 ?_
  refine gh_get (v := .ref (gA G 2)) (C := RX5) (T := TX5) (N := 9) hx hb hw inlX5 hown hT hP 1 (Nat.le_of_ble_eq_true rfl) kd1 rfl rfl 0 (by decide) (hw _ uw126) rfl dX8_tell_4 ?_
  refine lv_iload_n hx hb dX8_tell_7 rfl (lv_at hl 1 rfl) ?_
  refine gh_kr (va_runV (As := [.int a1]) (rest := []) ⟨hx, hb, hml, hown, hw⟩ (cc_X7_has l G V a1) (cwV 1 hw gv_RX8_41 rfl rfl rfl dd_X7_has ⟨Nat.le_of_ble_eq_true rfl, Nat.le_of_ble_eq_true rfl⟩) (gh_preV hT hP (Nat.le_of_ble_eq_true rfl) kd2 rfl rfl) rfl rfl hl.1 rfl (lv_room (Nat.le_of_ble_eq_true rfl)) dX8_tell_8 ⟨Nat.zero_le _, Nat.zero_le _⟩) hS (fun H locs hP hS => ?_)
  refine lv_if_ne (tgt := 16) hx hb dX8_tell_11 (by decide) (fun c_1 => ?_) (fun c_1 => ?_)
  · have hres := hres.trans (if_neg c_1)
    have hs := hs c_1
    refine lv_aload_n hx hb dX8_tell_16 rfl (lv_at hl 0 rfl) ?_
    refine gh_get (v := .ref (gA G 1)) (C := RX8) (T := TX8) (N := 5) hx hb hw inlX8 hown hT hP 0 (Nat.le_of_ble_eq_true rfl) kd0 rfl rfl 0 (by decide) (hw _ uw15) rfl dX8_tell_17 ?_
    refine gh_get (v := .ref (gA G 24)) (C := RX5) (T := TX5) (N := 9) hx hb hw inlX5 hown hT hP 1 (Nat.le_of_ble_eq_true rfl) kd1 rfl rfl 2 (by decide) (hw _ uw127) rfl dX8_tell_20 ?_
    refine gh_get (v := .int (V 24 0)) (C := RX3) (T := TX3) (N := 7) hx hb hw inlX3 hown hT hP 24 (Nat.le_of_ble_eq_true rfl) kd24 rfl rfl 0 (by decide) (hw _ uw128) rfl dX8_tell_23 ?_
    refine lv_if_ne (tgt := 32) hx hb dX8_tell_26 (by decide) (fun c_2 => ?_) (fun c_2 => ?_)
    · have hres := hres.trans (if_neg c_2)
      have hs := hs c_2
      refine lv_aload_n hx hb dX8_tell_32 rfl (lv_at hl 0 rfl) ?_
      refine gh_get (v := .ref (gA G 67)) (C := RX8) (T := TX8) (N := 5) hx hb hw inlX8 hown hT hP 0 (Nat.le_of_ble_eq_true rfl) kd0 rfl rfl 2 (by decide) (hw _ uw20) rfl dX8_tell_33 ?_
      refine lv_aload_n hx hb dX8_tell_36 rfl (lv_at hl 0 rfl) ?_
      refine gh_get (v := .ref (gA G 1)) (C := RX8) (T := TX8) (N := 5) hx hb hw inlX8 hown hT hP 0 (Nat.le_of_ble_eq_true rfl) kd0 rfl rfl 0 (by decide) (hw _ uw15) rfl dX8_tell_37 ?_
      obtain ⟨ho_3, hs⟩ := hs
      refine gh_kv (va_runV (As := [.ref (gA G 1)]) (rest := []) ⟨hx, hb, hml, hown, hw⟩ (cc_X1_record l G V q hq j hj hqj ho_3) (cwV 1 hw gv_RX8_60 rfl rfl rfl dd_X1_record ⟨Nat.le_of_ble_eq_true rfl, Nat.le_of_ble_eq_true rfl⟩) (gh_preV hT hP (Nat.le_of_ble_eq_true rfl) kd67 rfl rfl) rfl rfl hl.1 rfl (lv_room (Nat.le_of_ble_eq_true rfl)) dX8_tell_40 ⟨Nat.zero_le _, Nat.zero_le _⟩) hS (fun H locs hP hS => ?_)
      exact b_43 a1 (MX1_record j q V) _ _ _ (lv_sub hl [0, 1] rfl) hP hS hs hres
    have hres := hres.trans (if_pos c_2)
    refine lv_bipush (v := -2) hx hb dX8_tell_29 (by decide) ?_
    exact gh_iret hx hb hr hlocks hP hS hT hres dX8_tell_31
  have hres := hres.trans (if_pos c_1)
  refine lv_iconst (v := -1) hx hb dX8_tell_14 (by decide) ?_
  exact gh_iret hx hb hr hlocks hP hS hT hres dX8_tell_15
def BX8_whisper_106 (j : Nat) (q : Nat)  (x1 : Int32) (x2 : Int32) (x4 : Int32) (V : gV) : Int32 × gV := (x4, (MX4_put 22 x2 x1 V))
def BX8_whisper_75 (j : Nat) (q : Nat)  (x1 : Int32) (x2 : Int32) (x3 : Int32) (V : gV) : Int32 × gV := BX8_whisper_106 j q x1 x2 (MX4_at 20 x2 V) (MX4_put 20 x2 x3 V)
def MX8_whisper (j : Nat) (q : Nat) (a1 : Int32) (a2 : Int32) (a3 : Int32) (V : gV) : Int32 × gV := if (MX0_has a1 V) = 0 then (((-1 : Int32), V)) else (if (MX0_has a2 V) = 0 then (((-1 : Int32), V)) else (if (MX8_isLetter a3 V) = 0 then (((-1 : Int32), V)) else (if (MX3_takes a3 V) = 0 then (((-2 : Int32), V)) else (if (if 0 ≤ (a1 - a2) then (a1 - a2) else 0 - (a1 - a2)) = (1 : Int32) then (BX8_whisper_75 j q a1 a2 a3 (MX1_record j q V)) else (((-2 : Int32), V))))))
def PX8_whisper (j : Nat) (q : Nat) (a1 : Int32) (a2 : Int32) (a3 : Int32) (V : gV) : Prop := ((¬ (MX0_has a1 V) = 0 → ((¬ (MX0_has a2 V) = 0 → ((¬ (MX8_isLetter a3 V) = 0 → ((¬ (MX3_takes a3 V) = 0 → (((if 0 ≤ (a1 - a2) then (a1 - a2) else 0 - (a1 - a2)) = (1 : Int32) → (PX1_record j q V)))))))))))
abbrev wc_X8_whisper : List Cond := Cond.code yX8_whisper cX8_whisper 5 (some .int) :: wsL_law
abbrev r_X8_whisper : Room := { frames := 5, cells := 0, slots := 0, locals := 125 }
theorem dd_X8_whisper : yX8_whisper.cls = RX8 ∧ yX8_whisper.cls ≠ "java/lang/invoke/MethodHandle" ∧ yX8_whisper.cls ≠ "java/lang/invoke/VarHandle" ∧ (parseMethodDescriptor yX8_whisper.desc).map (fun d => d.parameters.length) = some 3 := by decide +kernel
set_option maxHeartbeats 8000000 in
set_option maxRecDepth 100000 in
theorem cc_X8_whisper (l : Launch) (G : gG) (V : gV) (q : Nat) (hq : gX5 q) (j : Nat) (hj : j < 4) (hqj : q = 69 + 33 * j) (a1 : Int32) (a2 : Int32) (a3 : Int32) (hs : PX8_whisper j q a1 a2 a3 V) : Met l yX8_whisper wc_X8_whisper r_X8_whisper (va_Pc [.ref (gA G 0), .int a1, .int a2, .int a3] (gW G V)) (gQI G (MX8_whisper j q a1 a2 a3 V)) 0 0 (gF G) := by
  refine Met.ofW (cc := cX8_whisper) (maxL := 5) (ret := (some .int)) (by decide) rfl ?_
  intro p e s m args below meth c s₁ B hml hv
  obtain ⟨rfl, hP, hT⟩ := hv
  have hx := B.exec
  have hb := B.bytes
  have hr := B.returns
  have hw := gh_hw (atoms_spec (ws := wc_X8_whisper) B.pre)
  have hown : s.vm.findClass RX8 = some m.cls := findClass_of_methodNamed B.named
  have hlocks := B.notSynchronized
  have hS : va_S (gF G) s.heap s.heap [] := va_S.rf
  have hl := lv_entry ([.ref (gA G 0), .int a1, .int a2, .int a3]) (n := 5) (Nat.le_of_ble_eq_true rfl)
  rw [lg_entry_eq]
  generalize (lg_sl ([.ref (gA G 0), .int a1, .int a2, .int a3]) ++ List.replicate (5 - (lg_sl ([.ref (gA G 0), .int a1, .int a2, .int a3])).length) Slot.unset).toArray = ls at hl ⊢
  have hl : lv_has ls 5 [(0, .ref (gA G 0)), (1, .int a1), (2, .int a2), (3, .int a3)] := hl
  obtain ⟨res, hres⟩ : ∃ r, r = MX8_whisper j q a1 a2 a3 V := ⟨_, rfl⟩
  rw [← hres]
  show W p l e r_X8_whisper s m ([.ref (gA G 0), .int a1, .int a2, .int a3] : List Value).toArray below meth c s.heap [] 0 0 (MQ below (gQI G res) ([.ref (gA G 0), .int a1, .int a2, .int a3] : List Value).toArray s 0 0 (gF G)) (F0 m 0 ls [])
  have hs : ((¬ (MX0_has a1 V) = 0 → ((¬ (MX0_has a2 V) = 0 → ((¬ (MX8_isLetter a3 V) = 0 → ((¬ (MX3_takes a3 V) = 0 → (((if 0 ≤ (a1 - a2) then (a1 - a2) else 0 - (a1 - a2)) = (1 : Int32) → (PX1_record j q V))))))))))) := hs
  have hres : res = (if (MX0_has a1 V) = 0 then (((-1 : Int32), V)) else (if (MX0_has a2 V) = 0 then (((-1 : Int32), V)) else (if (MX8_isLetter a3 V) = 0 then (((-1 : Int32), V)) else (if (MX3_takes a3 V) = 0 then (((-2 : Int32), V)) else (if (if 0 ≤ (a1 - a2) then (a1 - a2) else 0 - (a1 - a2)) = (1 : Int32) then (BX8_whisper_75 j q a1 a2 a3 (MX1_record j q V)) else (((-2 : Int32), V))))))) := hres
  have b_106 : ∀ (x1 : Int32) (x2 : Int32) (x4 : Int32) (V : gV) (H : Heap) (locs : List Loc) (ls : Array Slot), lv_has ls 5 [(0, .ref (gA G 0)), (1, .int x1), (2, .int x2), (4, .int x4)] → va_P (gD G) vwCl (gL G V) H → va_S (gF G) s.heap H locs → res = BX8_whisper_106 j q x1 x2 x4 V → W p l e r_X8_whisper s m ([.ref (gA G 0), .int a1, .int a2, .int a3] : List Value).toArray below meth c H locs 0 0 (MQ below (gQI G res) ([.ref (gA G 0), .int a1, .int a2, .int a3] : List Value).toArray s 0 0 (gF G)) (F0 m 106 ls []) := by
    intro x1 x2 x4 V H locs ls hl hP hS hres
    have hres : res = ((x4, (MX4_put 22 x2 x1 V))) := hres
    refine lv_aload_n hx hb dX8_whisper_106 rfl (lv_at hl 0 rfl) ?_
    refine gh_get (v := .ref (gA G 1)) (C := RX8) (T := TX8) (N := 5) hx hb hw inlX8 hown hT hP 0 (Nat.le_of_ble_eq_true rfl) kd0 rfl rfl 0 (by decide) (hw _ uw15) rfl dX8_whisper_107 ?_
    refine gh_get (v := .ref (gA G 11)) (C := RX5) (T := TX5) (N := 9) hx hb hw inlX5 hown hT hP 1 (Nat.le_of_ble_eq_true rfl) kd1 rfl rfl 1 (by decide) (hw _ uw225) rfl dX8_whisper_110 ?_
    refine gh_get (v := .ref (gA G 22)) (C := RX0) (T := TX0) (N := 7) hx hb hw inlX0 hown hT hP 11 (Nat.le_of_ble_eq_true rfl) kd11 rfl rfl 6 (by decide) (hw _ uw494) rfl dX8_whisper_113 ?_
    refine lv_iload_n hx hb dX8_whisper_116 rfl (lv_at hl 2 rfl) ?_
    refine lv_iload_n hx hb dX8_whisper_117 rfl (lv_at hl 1 rfl) ?_
    refine gh_kv (va_runV (As := [.int x2, .int x1]) (rest := []) ⟨hx, hb, hml, hown, hw⟩ (cc_X4_put l G V 22 gi22 x2 x1) (cwV 2 hw gv_RX8_74 rfl rfl rfl dd_X4_put ⟨Nat.le_of_ble_eq_true rfl, Nat.le_of_ble_eq_true rfl⟩) (gh_preV hT hP (Nat.le_of_ble_eq_true rfl) kd22 rfl rfl) rfl rfl hl.1 rfl (lv_room (Nat.le_of_ble_eq_true rfl)) dX8_whisper_118 ⟨Nat.zero_le _, Nat.zero_le _⟩) hS (fun H locs hP hS => ?_)
    refine lv_iload hx hb dX8_whisper_121 (lv_at hl 3 rfl) ?_
    exact gh_iret hx hb hr hlocks hP hS hT hres dX8_whisper_123
  have b_75 : ∀ (x1 : Int32) (x2 : Int32) (x3 : Int32) (V : gV) (H : Heap) (locs : List Loc) (ls : Array Slot), lv_has ls 5 [(0, .ref (gA G 0)), (1, .int x1), (2, .int x2), (3, .int x3)] → va_P (gD G) vwCl (gL G V) H → va_S (gF G) s.heap H locs → res = BX8_whisper_75 j q x1 x2 x3 V → W p l e r_X8_whisper s m ([.ref (gA G 0), .int a1, .int a2, .int a3] : List Value).toArray below meth c H locs 0 0 (MQ below (gQI G res) ([.ref (gA G 0), .int a1, .int a2, .int a3] : List Value).toArray s 0 0 (gF G)) (F0 m 75 ls []) := by
    intro x1 x2 x3 V H locs ls hl hP hS hres
    have hres : res = (BX8_whisper_106 j q x1 x2 (MX4_at 20 x2 V) (MX4_put 20 x2 x3 V)) := hres
    refine lv_aload_n hx hb dX8_whisper_75 rfl (lv_at hl 0 rfl) ?_
    refine gh_get (v := .ref (gA G 1)) (C := RX8) (T := TX8) (N := 5) hx hb hw inlX8 hown hT hP 0 (Nat.le_of_ble_eq_true rfl) kd0 rfl rfl 0 (by decide) (hw _ uw15) rfl dX8_whisper_76 ?_
    refine gh_get (v := .ref (gA G 11)) (C := RX5) (T := TX5) (N := 9) hx hb hw inlX5 hown hT hP 1 (Nat.le_of_ble_eq_true rfl) kd1 rfl rfl 1 (by decide) (hw _ uw225) rfl dX8_whisper_79 ?_
    refine gh_get (v := .ref (gA G 20)) (C := RX0) (T := TX0) (N := 7) hx hb hw inlX0 hown hT hP 11 (Nat.le_of_ble_eq_true rfl) kd11 rfl rfl 5 (by decide) (hw _ uw493) rfl dX8_whisper_82 ?_
    refine lv_iload_n hx hb dX8_whisper_85 rfl (lv_at hl 2 rfl) ?_
    refine gh_kr (va_runV (As := [.int x2]) (rest := []) ⟨hx, hb, hml, hown, hw⟩ (cc_X4_at l G V 20 gi20 x2) (cwV 1 hw gv_RX8_68 rfl rfl rfl dd_X4_at ⟨Nat.le_of_ble_eq_true rfl, Nat.le_of_ble_eq_true rfl⟩) (gh_preV hT hP (Nat.le_of_ble_eq_true rfl) kd20 rfl rfl) rfl rfl hl.1 rfl (lv_room (Nat.le_of_ble_eq_true rfl)) dX8_whisper_86 ⟨Nat.zero_le _, Nat.zero_le _⟩) hS (fun H locs hP hS => ?_)
    refine lv_istore (lv' := [(4, .int (MX4_at 20 x2 V)), (0, .ref (gA G 0)), (1, .int x1), (2, .int x2), (3, .int x3)]) hx hb dX8_whisper_89 hl (by decide) rfl (fun ls hl => ?_)
    refine lv_aload_n hx hb dX8_whisper_91 rfl (lv_at hl 1 rfl) ?_
    refine gh_get (v := .ref (gA G 1)) (C := RX8) (T := TX8) (N := 5) hx hb hw inlX8 hown hT hP 0 (Nat.le_of_ble_eq_true rfl) kd0 rfl rfl 0 (by decide) (hw _ uw15) rfl dX8_whisper_92 ?_
    refine gh_get (v := .ref (gA G 11)) (C := RX5) (T := TX5) (N := 9) hx hb hw inlX5 hown hT hP 1 (Nat.le_of_ble_eq_true rfl) kd1 rfl rfl 1 (by decide) (hw _ uw225) rfl dX8_whisper_95 ?_
    refine gh_get (v := .ref (gA G 20)) (C := RX0) (T := TX0) (N := 7) hx hb hw inlX0 hown hT hP 11 (Nat.le_of_ble_eq_true rfl) kd11 rfl rfl 5 (by decide) (hw _ uw493) rfl dX8_whisper_98 ?_
    refine lv_iload_n hx hb dX8_whisper_101 rfl (lv_at hl 3 rfl) ?_
    refine lv_iload_n hx hb dX8_whisper_102 rfl (lv_at hl 4 rfl) ?_
    refine gh_kv (va_runV (As := [.int x2, .int x3]) (rest := []) ⟨hx, hb, hml, hown, hw⟩ (cc_X4_put l G V 20 gi20 x2 x3) (cwV 2 hw gv_RX8_74 rfl rfl rfl dd_X4_put ⟨Nat.le_of_ble_eq_true rfl, Nat.le_of_ble_eq_true rfl⟩) (gh_preV hT hP (Nat.le_of_ble_eq_true rfl) kd20 rfl rfl) rfl rfl hl.1 rfl (lv_room (Nat.le_of_ble_eq_true rfl)) dX8_whisper_103 ⟨Nat.zero_le _, Nat.zero_le _⟩) hS (fun H locs hP hS => ?_)
    exact b_106 x1 x2 (MX4_at 20 x2 V) (MX4_put 20 x2 x3 V) _ _ _ (lv_sub hl [1, 2, 3, 0] rfl) hP hS hres
  refine lv_aload_n hx hb dX8_whisper_0 rfl (lv_at hl 0 rfl) ?_
  refine gh_get (v := .ref (gA G 1)) (C := RX8) (T := TX8) (N := 5) hx hb hw inlX8 hown hT hP 0 (Nat.le_of_ble_eq_true rfl) kd0 rfl rfl 0 (by decide) (hw _ uw15) rfl dX8_whisper_1 ?_
  refine gh_get (v := .ref (gA G 11)) (C := RX5) (T := TX5) (N := 9) hx hb hw inlX5 hown hT hP 1 (Nat.le_of_ble_eq_true rfl) kd1 rfl rfl 1 (by decide) (hw _ uw225) rfl dX8_whisper_4 ?_
  refine lv_iload_n hx hb dX8_whisper_7 rfl (lv_at hl 1 rfl) ?_
  refine gh_kr (va_runV (As := [.int a1]) (rest := []) ⟨hx, hb, hml, hown, hw⟩ (cc_X0_has l G V a1) (cwV 1 hw gv_RX8_91 rfl rfl rfl dd_X0_has ⟨Nat.le_of_ble_eq_true rfl, Nat.le_of_ble_eq_true rfl⟩) (gh_preV hT hP (Nat.le_of_ble_eq_true rfl) kd11 rfl rfl) rfl rfl hl.1 rfl (lv_room (Nat.le_of_ble_eq_true rfl)) dX8_whisper_8 ⟨Nat.zero_le _, Nat.zero_le _⟩) hS (fun H locs hP hS => ?_)
  refine lv_if_eq (tgt := 35) hx hb dX8_whisper_11 (by decide) (fun c_1 => ?_) (fun c_1 => ?_)
  · have hres := hres.trans (if_pos c_1)
    refine lv_iconst (v := -1) hx hb dX8_whisper_35 (by decide) ?_
    exact gh_iret hx hb hr hlocks hP hS hT hres dX8_whisper_36
  have hres := hres.trans (if_neg c_1)
  have hs := hs c_1
  refine lv_aload_n hx hb dX8_whisper_14 rfl (lv_at hl 0 rfl) ?_
  refine gh_get (v := .ref (gA G 1)) (C := RX8) (T := TX8) (N := 5) hx hb hw inlX8 hown hT hP 0 (Nat.le_of_ble_eq_true rfl) kd0 rfl rfl 0 (by decide) (hw _ uw15) rfl dX8_whisper_15 ?_
  refine gh_get (v := .ref (gA G 11)) (C := RX5) (T := TX5) (N := 9) hx hb hw inlX5 hown hT hP 1 (Nat.le_of_ble_eq_true rfl) kd1 rfl rfl 1 (by decide) (hw _ uw225) rfl dX8_whisper_18 ?_
  refine lv_iload_n hx hb dX8_whisper_21 rfl (lv_at hl 2 rfl) ?_
  refine gh_kr (va_runV (As := [.int a2]) (rest := []) ⟨hx, hb, hml, hown, hw⟩ (cc_X0_has l G V a2) (cwV 1 hw gv_RX8_91 rfl rfl rfl dd_X0_has ⟨Nat.le_of_ble_eq_true rfl, Nat.le_of_ble_eq_true rfl⟩) (gh_preV hT hP (Nat.le_of_ble_eq_true rfl) kd11 rfl rfl) rfl rfl hl.1 rfl (lv_room (Nat.le_of_ble_eq_true rfl)) dX8_whisper_22 ⟨Nat.zero_le _, Nat.zero_le _⟩) hS (fun H locs hP hS => ?_)
  refine lv_if_eq (tgt := 35) hx hb dX8_whisper_25 (by decide) (fun c_2 => ?_) (fun c_2 => ?_)
  · have hres := hres.trans (if_pos c_2)
    refine lv_iconst (v := -1) hx hb dX8_whisper_35 (by decide) ?_
    exact gh_iret hx hb hr hlocks hP hS hT hres dX8_whisper_36
  have hres := hres.trans (if_neg c_2)
  have hs := hs c_2
  refine lv_iload_n hx hb dX8_whisper_28 rfl (lv_at hl 3 rfl) ?_
  refine gh_kr (va_runS (As := [.int a3]) (rest := []) ⟨hx, hb, hml, hown, hw⟩ (cc_X8_isLetter l G V a3) (va_cwS 1 hw gv_RX8_116 rfl rfl rfl dd_X8_isLetter.2 ⟨Nat.le_of_ble_eq_true rfl, Nat.le_of_ble_eq_true rfl⟩) (gh_pre hT hP) rfl rfl hl.1 rfl (lv_room (Nat.le_of_ble_eq_true rfl)) dX8_whisper_29 ⟨Nat.zero_le _, Nat.zero_le _⟩) hS (fun H locs hP hS => ?_)
  refine lv_if_ne (tgt := 37) hx hb dX8_whisper_32 (by decide) (fun c_3 => ?_) (fun c_3 => ?_)
  · have hres := hres.trans (if_neg c_3)
    have hs := hs c_3
    refine lv_aload_n hx hb dX8_whisper_37 rfl (lv_at hl 0 rfl) ?_
    refine gh_get (v := .ref (gA G 1)) (C := RX8) (T := TX8) (N := 5) hx hb hw inlX8 hown hT hP 0 (Nat.le_of_ble_eq_true rfl) kd0 rfl rfl 0 (by decide) (hw _ uw15) rfl dX8_whisper_38 ?_
    refine gh_get (v := .ref (gA G 24)) (C := RX5) (T := TX5) (N := 9) hx hb hw inlX5 hown hT hP 1 (Nat.le_of_ble_eq_true rfl) kd1 rfl rfl 2 (by decide) (hw _ uw127) rfl dX8_whisper_41 ?_
    refine lv_iload_n hx hb dX8_whisper_44 rfl (lv_at hl 3 rfl) ?_
    refine gh_kr (va_runV (As := [.int a3]) (rest := []) ⟨hx, hb, hml, hown, hw⟩ (cc_X3_takes l G V a3) (cwV 1 hw gv_RX8_119 rfl rfl rfl dd_X3_takes ⟨Nat.le_of_ble_eq_true rfl, Nat.le_of_ble_eq_true rfl⟩) (gh_preV hT hP (Nat.le_of_ble_eq_true rfl) kd24 rfl rfl) rfl rfl hl.1 rfl (lv_room (Nat.le_of_ble_eq_true rfl)) dX8_whisper_45 ⟨Nat.zero_le _, Nat.zero_le _⟩) hS (fun H locs hP hS => ?_)
    refine lv_if_eq (tgt := 61) hx hb dX8_whisper_48 (by decide) (fun c_4 => ?_) (fun c_4 => ?_)
    · have hres := hres.trans (if_pos c_4)
      refine lv_bipush (v := -2) hx hb dX8_whisper_61 (by decide) ?_
      exact gh_iret hx hb hr hlocks hP hS hT hres dX8_whisper_63
    have hres := hres.trans (if_neg c_4)
    have hs := hs c_4
    refine lv_iload_n hx hb dX8_whisper_51 rfl (lv_at hl 1 rfl) ?_
    refine lv_iload_n hx hb dX8_whisper_52 rfl (lv_at hl 2 rfl) ?_
    refine lv_isub hx hb dX8_whisper_53 ?_
    refine va_mabs hx hb (hml.trans hl.1.symm) hown (hw _ uw490) (hw _ uw491) (hw _ uw66) (hw _ uw492) (Nat.le_of_ble_eq_true rfl) (Nat.le_of_ble_eq_true rfl) (Nat.zero_le _) (Nat.zero_le _) dX8_whisper_54 ?_
    refine lv_iconst (v := 1) hx hb dX8_whisper_57 (by decide) ?_
    refine lv_icmp_eq (tgt := 64) hx hb dX8_whisper_58 (by decide) (fun c_5 => ?_) (fun c_5 => ?_)
    · have hres := hres.trans (if_pos c_5)
      have hs := hs c_5
      refine lv_aload_n hx hb dX8_whisper_64 rfl (lv_at hl 0 rfl) ?_
      refine gh_get (v := .ref (gA G 67)) (C := RX8) (T := TX8) (N := 5) hx hb hw inlX8 hown hT hP 0 (Nat.le_of_ble_eq_true rfl) kd0 rfl rfl 2 (by decide) (hw _ uw20) rfl dX8_whisper_65 ?_
      refine lv_aload_n hx hb dX8_whisper_68 rfl (lv_at hl 0 rfl) ?_
      refine gh_get (v := .ref (gA G 1)) (C := RX8) (T := TX8) (N := 5) hx hb hw inlX8 hown hT hP 0 (Nat.le_of_ble_eq_true rfl) kd0 rfl rfl 0 (by decide) (hw _ uw15) rfl dX8_whisper_69 ?_
      have ho_6 := hs
      refine gh_kv (va_runV (As := [.ref (gA G 1)]) (rest := []) ⟨hx, hb, hml, hown, hw⟩ (cc_X1_record l G V q hq j hj hqj ho_6) (cwV 1 hw gv_RX8_60 rfl rfl rfl dd_X1_record ⟨Nat.le_of_ble_eq_true rfl, Nat.le_of_ble_eq_true rfl⟩) (gh_preV hT hP (Nat.le_of_ble_eq_true rfl) kd67 rfl rfl) rfl rfl hl.1 rfl (lv_room (Nat.le_of_ble_eq_true rfl)) dX8_whisper_72 ⟨Nat.zero_le _, Nat.zero_le _⟩) hS (fun H locs hP hS => ?_)
      exact b_75 a1 a2 a3 (MX1_record j q V) _ _ _ (lv_sub hl [0, 1, 2, 3] rfl) hP hS hres
    have hres := hres.trans (if_neg c_5)
    refine lv_bipush (v := -2) hx hb dX8_whisper_61 (by decide) ?_
    exact gh_iret hx hb hr hlocks hP hS hT hres dX8_whisper_63
  have hres := hres.trans (if_pos c_3)
  refine lv_iconst (v := -1) hx hb dX8_whisper_35 (by decide) ?_
  exact gh_iret hx hb hr hlocks hP hS hT hres dX8_whisper_36
def BX8_restore_32 (j : Nat) (q : Nat)   (V : gV) : Int32 × gV := ((V 11 0), V)
def BX8_restore_21 (j : Nat) (q : Nat)   (V : gV) : Int32 × gV := BX8_restore_32 j q (MX5_copyFrom 1 34 V)
def PX8_restore_21 (j : Nat) (q : Nat)   (V : gV) : Prop := (PX5_copyFrom 1 34 V)
def MX8_restore (j : Nat) (q : Nat)  (V : gV) : Int32 × gV := if (V 0 4) = 0 then (((-2 : Int32), V)) else (BX8_restore_21 j q (MX1_record j q V))
def PX8_restore (j : Nat) (q : Nat)  (V : gV) : Prop := ((¬ (V 0 4) = 0 → (PX1_record j q V) ∧ (PX8_restore_21 j q (MX1_record j q V))))
abbrev wc_X8_restore : List Cond := Cond.code yX8_restore cX8_restore 1 (some .int) :: wsL_law
abbrev r_X8_restore : Room := { frames := 5, cells := 0, slots := 0, locals := 125 }
theorem dd_X8_restore : yX8_restore.cls = RX8 ∧ yX8_restore.cls ≠ "java/lang/invoke/MethodHandle" ∧ yX8_restore.cls ≠ "java/lang/invoke/VarHandle" ∧ (parseMethodDescriptor yX8_restore.desc).map (fun d => d.parameters.length) = some 0 := by decide +kernel
set_option maxHeartbeats 8000000 in
set_option maxRecDepth 100000 in
theorem cc_X8_restore (l : Launch) (G : gG) (V : gV) (q : Nat) (hq : gX5 q) (j : Nat) (hj : j < 4) (hqj : q = 69 + 33 * j)  (hs : PX8_restore j q V) : Met l yX8_restore wc_X8_restore r_X8_restore (va_Pc [.ref (gA G 0)] (gW G V)) (gQI G (MX8_restore j q V)) 0 0 (gF G) := by
  refine Met.ofW (cc := cX8_restore) (maxL := 1) (ret := (some .int)) (by decide) rfl ?_
  intro p e s m args below meth c s₁ B hml hv
  obtain ⟨rfl, hP, hT⟩ := hv
  have hx := B.exec
  have hb := B.bytes
  have hr := B.returns
  have hw := gh_hw (atoms_spec (ws := wc_X8_restore) B.pre)
  have hown : s.vm.findClass RX8 = some m.cls := findClass_of_methodNamed B.named
  have hlocks := B.notSynchronized
  have hS : va_S (gF G) s.heap s.heap [] := va_S.rf
  have hl := lv_entry ([.ref (gA G 0)]) (n := 1) (Nat.le_of_ble_eq_true rfl)
  rw [lg_entry_eq]
  generalize (lg_sl ([.ref (gA G 0)]) ++ List.replicate (1 - (lg_sl ([.ref (gA G 0)])).length) Slot.unset).toArray = ls at hl ⊢
  have hl : lv_has ls 1 [(0, .ref (gA G 0))] := hl
  obtain ⟨res, hres⟩ : ∃ r, r = MX8_restore j q V := ⟨_, rfl⟩
  rw [← hres]
  show W p l e r_X8_restore s m ([.ref (gA G 0)] : List Value).toArray below meth c s.heap [] 0 0 (MQ below (gQI G res) ([.ref (gA G 0)] : List Value).toArray s 0 0 (gF G)) (F0 m 0 ls [])
  have hs : ((¬ (V 0 4) = 0 → (PX1_record j q V) ∧ (PX8_restore_21 j q (MX1_record j q V)))) := hs
  have hres : res = (if (V 0 4) = 0 then (((-2 : Int32), V)) else (BX8_restore_21 j q (MX1_record j q V))) := hres
  have b_32 : ∀  (V : gV) (H : Heap) (locs : List Loc) (ls : Array Slot), lv_has ls 1 [(0, .ref (gA G 0))] → va_P (gD G) vwCl (gL G V) H → va_S (gF G) s.heap H locs → res = BX8_restore_32 j q  V → W p l e r_X8_restore s m ([.ref (gA G 0)] : List Value).toArray below meth c H locs 0 0 (MQ below (gQI G res) ([.ref (gA G 0)] : List Value).toArray s 0 0 (gF G)) (F0 m 32 ls []) := by
    intro  V H locs ls hl hP hS hres
    have hres : res = (((V 11 0), V)) := hres
    refine lv_aload_n hx hb dX8_restore_32 rfl (lv_at hl 0 rfl) ?_
    refine gh_get (v := .ref (gA G 1)) (C := RX8) (T := TX8) (N := 5) hx hb hw inlX8 hown hT hP 0 (Nat.le_of_ble_eq_true rfl) kd0 rfl rfl 0 (by decide) (hw _ uw15) rfl dX8_restore_33 ?_
    refine gh_get (v := .ref (gA G 11)) (C := RX5) (T := TX5) (N := 9) hx hb hw inlX5 hown hT hP 1 (Nat.le_of_ble_eq_true rfl) kd1 rfl rfl 1 (by decide) (hw _ uw225) rfl dX8_restore_36 ?_
    refine gh_get (v := .int (V 11 0)) (C := RX0) (T := TX0) (N := 7) hx hb hw inlX0 hown hT hP 11 (Nat.le_of_ble_eq_true rfl) kd11 rfl rfl 0 (by decide) (hw _ uw226) rfl dX8_restore_39 ?_
    exact gh_iret hx hb hr hlocks hP hS hT hres dX8_restore_42
  have b_21 : ∀  (V : gV) (H : Heap) (locs : List Loc) (ls : Array Slot), lv_has ls 1 [(0, .ref (gA G 0))] → va_P (gD G) vwCl (gL G V) H → va_S (gF G) s.heap H locs → PX8_restore_21 j q  V → res = BX8_restore_21 j q  V → W p l e r_X8_restore s m ([.ref (gA G 0)] : List Value).toArray below meth c H locs 0 0 (MQ below (gQI G res) ([.ref (gA G 0)] : List Value).toArray s 0 0 (gF G)) (F0 m 21 ls []) := by
    intro  V H locs ls hl hP hS hs hres
    have hs : (PX5_copyFrom 1 34 V) := hs
    have hres : res = (BX8_restore_32 j q (MX5_copyFrom 1 34 V)) := hres
    refine lv_aload_n hx hb dX8_restore_21 rfl (lv_at hl 0 rfl) ?_
    refine gh_get (v := .ref (gA G 1)) (C := RX8) (T := TX8) (N := 5) hx hb hw inlX8 hown hT hP 0 (Nat.le_of_ble_eq_true rfl) kd0 rfl rfl 0 (by decide) (hw _ uw15) rfl dX8_restore_22 ?_
    refine lv_aload_n hx hb dX8_restore_25 rfl (lv_at hl 0 rfl) ?_
    refine gh_get (v := .ref (gA G 34)) (C := RX8) (T := TX8) (N := 5) hx hb hw inlX8 hown hT hP 0 (Nat.le_of_ble_eq_true rfl) kd0 rfl rfl 1 (by decide) (hw _ uw16) rfl dX8_restore_26 ?_
    have ho_3 := hs
    refine gh_kv (va_runV (As := [.ref (gA G 34)]) (rest := []) ⟨hx, hb, hml, hown, hw⟩ (cc_X5_copyFrom l G V 1 gi1 34 gi34 ho_3) (cwV 1 hw gv_RX8_235 rfl rfl rfl dd_X5_copyFrom ⟨Nat.le_of_ble_eq_true rfl, Nat.le_of_ble_eq_true rfl⟩) (gh_preV hT hP (Nat.le_of_ble_eq_true rfl) kd1 rfl rfl) rfl rfl hl.1 rfl (lv_room (Nat.le_of_ble_eq_true rfl)) dX8_restore_29 ⟨Nat.zero_le _, Nat.zero_le _⟩) hS (fun H locs hP hS => ?_)
    exact b_32 (MX5_copyFrom 1 34 V) _ _ _ (lv_sub hl [0] rfl) hP hS hres
  refine lv_aload_n hx hb dX8_restore_0 rfl (lv_at hl 0 rfl) ?_
  refine gh_get (v := .int (V 0 4)) (C := RX8) (T := TX8) (N := 5) hx hb hw inlX8 hown hT hP 0 (Nat.le_of_ble_eq_true rfl) kd0 rfl rfl 4 (by decide) (hw _ uw25) rfl dX8_restore_1 ?_
  refine lv_if_ne (tgt := 10) hx hb dX8_restore_4 (by decide) (fun c_1 => ?_) (fun c_1 => ?_)
  · have hres := hres.trans (if_neg c_1)
    have hs := hs c_1
    refine lv_aload_n hx hb dX8_restore_10 rfl (lv_at hl 0 rfl) ?_
    refine gh_get (v := .ref (gA G 67)) (C := RX8) (T := TX8) (N := 5) hx hb hw inlX8 hown hT hP 0 (Nat.le_of_ble_eq_true rfl) kd0 rfl rfl 2 (by decide) (hw _ uw20) rfl dX8_restore_11 ?_
    refine lv_aload_n hx hb dX8_restore_14 rfl (lv_at hl 0 rfl) ?_
    refine gh_get (v := .ref (gA G 1)) (C := RX8) (T := TX8) (N := 5) hx hb hw inlX8 hown hT hP 0 (Nat.le_of_ble_eq_true rfl) kd0 rfl rfl 0 (by decide) (hw _ uw15) rfl dX8_restore_15 ?_
    obtain ⟨ho_2, hs⟩ := hs
    refine gh_kv (va_runV (As := [.ref (gA G 1)]) (rest := []) ⟨hx, hb, hml, hown, hw⟩ (cc_X1_record l G V q hq j hj hqj ho_2) (cwV 1 hw gv_RX8_60 rfl rfl rfl dd_X1_record ⟨Nat.le_of_ble_eq_true rfl, Nat.le_of_ble_eq_true rfl⟩) (gh_preV hT hP (Nat.le_of_ble_eq_true rfl) kd67 rfl rfl) rfl rfl hl.1 rfl (lv_room (Nat.le_of_ble_eq_true rfl)) dX8_restore_18 ⟨Nat.zero_le _, Nat.zero_le _⟩) hS (fun H locs hP hS => ?_)
    exact b_21 (MX1_record j q V) _ _ _ (lv_sub hl [0] rfl) hP hS hs hres
  have hres := hres.trans (if_pos c_1)
  refine lv_bipush (v := -2) hx hb dX8_restore_7 (by decide) ?_
  exact gh_iret hx hb hr hlocks hP hS hT hres dX8_restore_9
theorem gv_RX8_239 : GoodIn wsL_law (wsV RX8 239 RX1 yX1_takeLatest wc_X1_takeLatest) := gh_gV uw728 uw729 uw730 uw19 uw731
def MX8_undo (j : Nat) (q : Nat)  (V : gV) : Int32 × gV := if (V 67 0) = 0 then (((-2 : Int32), V)) else ((((MX1_takeLatest j q V) 67 0), (MX1_takeLatest j q V)))
def PX8_undo (j : Nat) (q : Nat)  (V : gV) : Prop := ((¬ (V 67 0) = 0 → (PX1_takeLatest j q V)))
abbrev wc_X8_undo : List Cond := Cond.code yX8_undo cX8_undo 1 (some .int) :: wsL_law
abbrev r_X8_undo : Room := { frames := 5, cells := 0, slots := 0, locals := 126 }
theorem dd_X8_undo : yX8_undo.cls = RX8 ∧ yX8_undo.cls ≠ "java/lang/invoke/MethodHandle" ∧ yX8_undo.cls ≠ "java/lang/invoke/VarHandle" ∧ (parseMethodDescriptor yX8_undo.desc).map (fun d => d.parameters.length) = some 0 := by decide +kernel
set_option maxHeartbeats 8000000 in
set_option maxRecDepth 100000 in
theorem cc_X8_undo (l : Launch) (G : gG) (V : gV) (q : Nat) (hq : gX5 q) (j : Nat) (hj : j < 4) (hqj : q = 69 + 33 * j)  (hs : PX8_undo j q V) : Met l yX8_undo wc_X8_undo r_X8_undo (va_Pc [.ref (gA G 0)] (gW G V)) (gQI G (MX8_undo j q V)) 0 0 (gF G) := by
  refine Met.ofW (cc := cX8_undo) (maxL := 1) (ret := (some .int)) (by decide) rfl ?_
  intro p e s m args below meth c s₁ B hml hv
  obtain ⟨rfl, hP, hT⟩ := hv
  have hx := B.exec
  have hb := B.bytes
  have hr := B.returns
  have hw := gh_hw (atoms_spec (ws := wc_X8_undo) B.pre)
  have hown : s.vm.findClass RX8 = some m.cls := findClass_of_methodNamed B.named
  have hlocks := B.notSynchronized
  have hS : va_S (gF G) s.heap s.heap [] := va_S.rf
  have hl := lv_entry ([.ref (gA G 0)]) (n := 1) (Nat.le_of_ble_eq_true rfl)
  rw [lg_entry_eq]
  generalize (lg_sl ([.ref (gA G 0)]) ++ List.replicate (1 - (lg_sl ([.ref (gA G 0)])).length) Slot.unset).toArray = ls at hl ⊢
  have hl : lv_has ls 1 [(0, .ref (gA G 0))] := hl
  obtain ⟨res, hres⟩ : ∃ r, r = MX8_undo j q V := ⟨_, rfl⟩
  rw [← hres]
  show W p l e r_X8_undo s m ([.ref (gA G 0)] : List Value).toArray below meth c s.heap [] 0 0 (MQ below (gQI G res) ([.ref (gA G 0)] : List Value).toArray s 0 0 (gF G)) (F0 m 0 ls [])
  have hs : ((¬ (V 67 0) = 0 → (PX1_takeLatest j q V))) := hs
  have hres : res = (if (V 67 0) = 0 then (((-2 : Int32), V)) else ((((MX1_takeLatest j q V) 67 0), (MX1_takeLatest j q V)))) := hres
  refine lv_aload_n hx hb dX8_undo_0 rfl (lv_at hl 0 rfl) ?_
  refine gh_get (v := .ref (gA G 67)) (C := RX8) (T := TX8) (N := 5) hx hb hw inlX8 hown hT hP 0 (Nat.le_of_ble_eq_true rfl) kd0 rfl rfl 2 (by decide) (hw _ uw20) rfl dX8_undo_1 ?_
  refine gh_get (v := .int (V 67 0)) (C := RX1) (T := TX1) (N := 3) hx hb hw inlX1 hown hT hP 67 (Nat.le_of_ble_eq_true rfl) kd67 rfl rfl 0 (by decide) (hw _ uw599) rfl dX8_undo_4 ?_
  refine lv_if_ne (tgt := 13) hx hb dX8_undo_7 (by decide) (fun c_1 => ?_) (fun c_1 => ?_)
  · have hres := hres.trans (if_neg c_1)
    have hs := hs c_1
    refine lv_aload_n hx hb dX8_undo_13 rfl (lv_at hl 0 rfl) ?_
    refine gh_get (v := .ref (gA G 67)) (C := RX8) (T := TX8) (N := 5) hx hb hw inlX8 hown hT hP 0 (Nat.le_of_ble_eq_true rfl) kd0 rfl rfl 2 (by decide) (hw _ uw20) rfl dX8_undo_14 ?_
    refine lv_aload_n hx hb dX8_undo_17 rfl (lv_at hl 0 rfl) ?_
    refine gh_get (v := .ref (gA G 1)) (C := RX8) (T := TX8) (N := 5) hx hb hw inlX8 hown hT hP 0 (Nat.le_of_ble_eq_true rfl) kd0 rfl rfl 0 (by decide) (hw _ uw15) rfl dX8_undo_18 ?_
    have ho_2 := hs
    refine gh_kv (va_runV (As := [.ref (gA G 1)]) (rest := []) ⟨hx, hb, hml, hown, hw⟩ (cc_X1_takeLatest l G V q hq j hj hqj ho_2) (cwV 1 hw gv_RX8_239 rfl rfl rfl dd_X1_takeLatest ⟨Nat.le_of_ble_eq_true rfl, Nat.le_of_ble_eq_true rfl⟩) (gh_preV hT hP (Nat.le_of_ble_eq_true rfl) kd67 rfl rfl) rfl rfl hl.1 rfl (lv_room (Nat.le_of_ble_eq_true rfl)) dX8_undo_21 ⟨Nat.zero_le _, Nat.zero_le _⟩) hS (fun H locs hP hS => ?_)
    refine lv_aload_n hx hb dX8_undo_24 rfl (lv_at hl 0 rfl) ?_
    refine gh_get (v := .ref (gA G 67)) (C := RX8) (T := TX8) (N := 5) hx hb hw inlX8 hown hT hP 0 (Nat.le_of_ble_eq_true rfl) kd0 rfl rfl 2 (by decide) (hw _ uw20) rfl dX8_undo_25 ?_
    refine gh_get (v := .int ((MX1_takeLatest j q V) 67 0)) (C := RX1) (T := TX1) (N := 3) hx hb hw inlX1 hown hT hP 67 (Nat.le_of_ble_eq_true rfl) kd67 rfl rfl 0 (by decide) (hw _ uw599) rfl dX8_undo_28 ?_
    exact gh_iret hx hb hr hlocks hP hS hT hres dX8_undo_31
  have hres := hres.trans (if_pos c_1)
  refine lv_bipush (v := -2) hx hb dX8_undo_10 (by decide) ?_
  exact gh_iret hx hb hr hlocks hP hS hT hres dX8_undo_12
theorem gv_RX8_263 : GoodIn wsL_law (wsV RX8 263 RX7 yX7_copyFrom wc_X7_copyFrom) := gh_gV uw861 uw154 uw155 uw31 uw156
def BX8_read_64 (j : Nat) (q : Nat)   (V : gV) : Int32 × gV := ((V 2 0), V)
def BX8_read_47 (j : Nat) (q : Nat)   (V : gV) : Int32 × gV := BX8_read_64 j q (MX7_copyFrom 2 202 V)
def BX8_read_23 (j : Nat) (q : Nat)   (V : gV) : Int32 × gV := if (MX6_hasFault V) = 0 then (BX8_read_47 j q (MX1_record j q V)) else (((-2 : Int32), V))
def PX8_read_23 (j : Nat) (q : Nat)   (V : gV) : Prop := (((MX6_hasFault V) = 0 → (PX1_record j q V)))
def MX8_read (j : Nat) (q : Nat)  (V : gV) : Int32 × gV := if (V 24 0) = 0 then (BX8_read_23 j q (MX6_scan V)) else (((-2 : Int32), V))
def PX8_read (j : Nat) (q : Nat)  (V : gV) : Prop := (((V 24 0) = 0 → (PX6_scan V) ∧ (PX8_read_23 j q (MX6_scan V))))
abbrev wc_X8_read : List Cond := Cond.code yX8_read cX8_read 1 (some .int) :: wsL_law
abbrev r_X8_read : Room := { frames := 6, cells := 0, slots := 0, locals := 131 }
theorem dd_X8_read : yX8_read.cls = RX8 ∧ yX8_read.cls ≠ "java/lang/invoke/MethodHandle" ∧ yX8_read.cls ≠ "java/lang/invoke/VarHandle" ∧ (parseMethodDescriptor yX8_read.desc).map (fun d => d.parameters.length) = some 0 := by decide +kernel
set_option maxHeartbeats 8000000 in
set_option maxRecDepth 100000 in
theorem cc_X8_read (l : Launch) (G : gG) (V : gV) (q : Nat) (hq : gX5 q) (j : Nat) (hj : j < 4) (hqj : q = 69 + 33 * j)  (hs : PX8_read j q V) : Met l yX8_read wc_X8_read r_X8_read (va_Pc [.ref (gA G 0)] (gW G V)) (gQI G (MX8_read j q V)) 0 0 (gF G) := by
  refine Met.ofW (cc := cX8_read) (maxL := 1) (ret := (some .int)) (by decide) rfl ?_
  intro p e s m args below meth c s₁ B hml hv
  obtain ⟨rfl, hP, hT⟩ := hv
  have hx := B.exec
  have hb := B.bytes
  have hr := B.returns
  have hw := gh_hw (atoms_spec (ws := wc_X8_read) B.pre)
  have hown : s.vm.findClass RX8 = some m.cls := findClass_of_methodNamed B.named
  have hlocks := B.notSynchronized
  have hS : va_S (gF G) s.heap s.heap [] := va_S.rf
  have hl := lv_entry ([.ref (gA G 0)]) (n := 1) (Nat.le_of_ble_eq_true rfl)
  rw [lg_entry_eq]
  generalize (lg_sl ([.ref (gA G 0)]) ++ List.replicate (1 - (lg_sl ([.ref (gA G 0)])).length) Slot.unset).toArray = ls at hl ⊢
  have hl : lv_has ls 1 [(0, .ref (gA G 0))] := hl
  obtain ⟨res, hres⟩ : ∃ r, r = MX8_read j q V := ⟨_, rfl⟩
  rw [← hres]
  show W p l e r_X8_read s m ([.ref (gA G 0)] : List Value).toArray below meth c s.heap [] 0 0 (MQ below (gQI G res) ([.ref (gA G 0)] : List Value).toArray s 0 0 (gF G)) (F0 m 0 ls [])
  have hs : (((V 24 0) = 0 → (PX6_scan V) ∧ (PX8_read_23 j q (MX6_scan V)))) := hs
  have hres : res = (if (V 24 0) = 0 then (BX8_read_23 j q (MX6_scan V)) else (((-2 : Int32), V))) := hres
  have b_64 : ∀  (V : gV) (H : Heap) (locs : List Loc) (ls : Array Slot), lv_has ls 1 [(0, .ref (gA G 0))] → va_P (gD G) vwCl (gL G V) H → va_S (gF G) s.heap H locs → res = BX8_read_64 j q  V → W p l e r_X8_read s m ([.ref (gA G 0)] : List Value).toArray below meth c H locs 0 0 (MQ below (gQI G res) ([.ref (gA G 0)] : List Value).toArray s 0 0 (gF G)) (F0 m 64 ls []) := by
    intro  V H locs ls hl hP hS hres
    have hres : res = (((V 2 0), V)) := hres
    refine lv_aload_n hx hb dX8_read_64 rfl (lv_at hl 0 rfl) ?_
    refine gh_get (v := .ref (gA G 1)) (C := RX8) (T := TX8) (N := 5) hx hb hw inlX8 hown hT hP 0 (Nat.le_of_ble_eq_true rfl) kd0 rfl rfl 0 (by decide) (hw _ uw15) rfl dX8_read_65 ?_
    refine gh_get (v := .ref (gA G 2)) (C := RX5) (T := TX5) (N := 9) hx hb hw inlX5 hown hT hP 1 (Nat.le_of_ble_eq_true rfl) kd1 rfl rfl 0 (by decide) (hw _ uw126) rfl dX8_read_68 ?_
    refine gh_get (v := .int (V 2 0)) (C := RX7) (T := TX7) (N := 5) hx hb hw inlX7 hown hT hP 2 (Nat.le_of_ble_eq_true rfl) kd2 rfl rfl 0 (by decide) (hw _ uw596) rfl dX8_read_71 ?_
    exact gh_iret hx hb hr hlocks hP hS hT hres dX8_read_74
  have b_47 : ∀  (V : gV) (H : Heap) (locs : List Loc) (ls : Array Slot), lv_has ls 1 [(0, .ref (gA G 0))] → va_P (gD G) vwCl (gL G V) H → va_S (gF G) s.heap H locs → res = BX8_read_47 j q  V → W p l e r_X8_read s m ([.ref (gA G 0)] : List Value).toArray below meth c H locs 0 0 (MQ below (gQI G res) ([.ref (gA G 0)] : List Value).toArray s 0 0 (gF G)) (F0 m 47 ls []) := by
    intro  V H locs ls hl hP hS hres
    have hres : res = (BX8_read_64 j q (MX7_copyFrom 2 202 V)) := hres
    refine lv_aload_n hx hb dX8_read_47 rfl (lv_at hl 0 rfl) ?_
    refine gh_get (v := .ref (gA G 1)) (C := RX8) (T := TX8) (N := 5) hx hb hw inlX8 hown hT hP 0 (Nat.le_of_ble_eq_true rfl) kd0 rfl rfl 0 (by decide) (hw _ uw15) rfl dX8_read_48 ?_
    refine gh_get (v := .ref (gA G 2)) (C := RX5) (T := TX5) (N := 9) hx hb hw inlX5 hown hT hP 1 (Nat.le_of_ble_eq_true rfl) kd1 rfl rfl 0 (by decide) (hw _ uw126) rfl dX8_read_51 ?_
    refine lv_aload_n hx hb dX8_read_54 rfl (lv_at hl 0 rfl) ?_
    refine gh_get (v := .ref (gA G 201)) (C := RX8) (T := TX8) (N := 5) hx hb hw inlX8 hown hT hP 0 (Nat.le_of_ble_eq_true rfl) kd0 rfl rfl 3 (by decide) (hw _ uw24) rfl dX8_read_55 ?_
    refine gh_get (v := .ref (gA G 202)) (C := RX6) (T := TX6) (N := 6) hx hb hw inlX6 hown hT hP 201 (Nat.le_of_ble_eq_true rfl) kd201 rfl rfl 3 (by decide) (hw _ uw860) rfl dX8_read_58 ?_
    refine gh_kv (va_runV (As := [.ref (gA G 202)]) (rest := []) ⟨hx, hb, hml, hown, hw⟩ (cc_X7_copyFrom l G V 2 gi2 202 gi202) (cwV 1 hw gv_RX8_263 rfl rfl rfl dd_X7_copyFrom ⟨Nat.le_of_ble_eq_true rfl, Nat.le_of_ble_eq_true rfl⟩) (gh_preV hT hP (Nat.le_of_ble_eq_true rfl) kd2 rfl rfl) rfl rfl hl.1 rfl (lv_room (Nat.le_of_ble_eq_true rfl)) dX8_read_61 ⟨Nat.zero_le _, Nat.zero_le _⟩) hS (fun H locs hP hS => ?_)
    exact b_64 (MX7_copyFrom 2 202 V) _ _ _ (lv_sub hl [0] rfl) hP hS hres
  have b_23 : ∀  (V : gV) (H : Heap) (locs : List Loc) (ls : Array Slot), lv_has ls 1 [(0, .ref (gA G 0))] → va_P (gD G) vwCl (gL G V) H → va_S (gF G) s.heap H locs → PX8_read_23 j q  V → res = BX8_read_23 j q  V → W p l e r_X8_read s m ([.ref (gA G 0)] : List Value).toArray below meth c H locs 0 0 (MQ below (gQI G res) ([.ref (gA G 0)] : List Value).toArray s 0 0 (gF G)) (F0 m 23 ls []) := by
    intro  V H locs ls hl hP hS hs hres
    have hs : (((MX6_hasFault V) = 0 → (PX1_record j q V))) := hs
    have hres : res = (if (MX6_hasFault V) = 0 then (BX8_read_47 j q (MX1_record j q V)) else (((-2 : Int32), V))) := hres
    refine lv_aload_n hx hb dX8_read_23 rfl (lv_at hl 0 rfl) ?_
    refine gh_get (v := .ref (gA G 201)) (C := RX8) (T := TX8) (N := 5) hx hb hw inlX8 hown hT hP 0 (Nat.le_of_ble_eq_true rfl) kd0 rfl rfl 3 (by decide) (hw _ uw24) rfl dX8_read_24 ?_
    refine gh_kr (va_runV (As := []) (rest := []) ⟨hx, hb, hml, hown, hw⟩ (cc_X6_hasFault l G V) (cwV 0 hw gv_RX8_250 rfl rfl rfl dd_X6_hasFault ⟨Nat.le_of_ble_eq_true rfl, Nat.le_of_ble_eq_true rfl⟩) (gh_preV hT hP (Nat.le_of_ble_eq_true rfl) kd201 rfl rfl) rfl rfl hl.1 rfl (lv_room (Nat.le_of_ble_eq_true rfl)) dX8_read_27 ⟨Nat.zero_le _, Nat.zero_le _⟩) hS (fun H locs hP hS => ?_)
    refine lv_if_eq (tgt := 36) hx hb dX8_read_30 (by decide) (fun c_3 => ?_) (fun c_3 => ?_)
    · have hres := hres.trans (if_pos c_3)
      have hs := hs c_3
      refine lv_aload_n hx hb dX8_read_36 rfl (lv_at hl 0 rfl) ?_
      refine gh_get (v := .ref (gA G 67)) (C := RX8) (T := TX8) (N := 5) hx hb hw inlX8 hown hT hP 0 (Nat.le_of_ble_eq_true rfl) kd0 rfl rfl 2 (by decide) (hw _ uw20) rfl dX8_read_37 ?_
      refine lv_aload_n hx hb dX8_read_40 rfl (lv_at hl 0 rfl) ?_
      refine gh_get (v := .ref (gA G 1)) (C := RX8) (T := TX8) (N := 5) hx hb hw inlX8 hown hT hP 0 (Nat.le_of_ble_eq_true rfl) kd0 rfl rfl 0 (by decide) (hw _ uw15) rfl dX8_read_41 ?_
      have ho_4 := hs
      refine gh_kv (va_runV (As := [.ref (gA G 1)]) (rest := []) ⟨hx, hb, hml, hown, hw⟩ (cc_X1_record l G V q hq j hj hqj ho_4) (cwV 1 hw gv_RX8_60 rfl rfl rfl dd_X1_record ⟨Nat.le_of_ble_eq_true rfl, Nat.le_of_ble_eq_true rfl⟩) (gh_preV hT hP (Nat.le_of_ble_eq_true rfl) kd67 rfl rfl) rfl rfl hl.1 rfl (lv_room (Nat.le_of_ble_eq_true rfl)) dX8_read_44 ⟨Nat.zero_le _, Nat.zero_le _⟩) hS (fun H locs hP hS => ?_)
      exact b_47 (MX1_record j q V) _ _ _ (lv_sub hl [0] rfl) hP hS hres
    have hres := hres.trans (if_neg c_3)
    refine lv_bipush (v := -2) hx hb dX8_read_33 (by decide) ?_
    exact gh_iret hx hb hr hlocks hP hS hT hres dX8_read_35
  refine lv_aload_n hx hb dX8_read_0 rfl (lv_at hl 0 rfl) ?_
  refine gh_get (v := .ref (gA G 1)) (C := RX8) (T := TX8) (N := 5) hx hb hw inlX8 hown hT hP 0 (Nat.le_of_ble_eq_true rfl) kd0 rfl rfl 0 (by decide) (hw _ uw15) rfl dX8_read_1 ?_
  refine gh_get (v := .ref (gA G 24)) (C := RX5) (T := TX5) (N := 9) hx hb hw inlX5 hown hT hP 1 (Nat.le_of_ble_eq_true rfl) kd1 rfl rfl 2 (by decide) (hw _ uw127) rfl dX8_read_4 ?_
  refine gh_get (v := .int (V 24 0)) (C := RX3) (T := TX3) (N := 7) hx hb hw inlX3 hown hT hP 24 (Nat.le_of_ble_eq_true rfl) kd24 rfl rfl 0 (by decide) (hw _ uw128) rfl dX8_read_7 ?_
  refine lv_if_eq (tgt := 16) hx hb dX8_read_10 (by decide) (fun c_1 => ?_) (fun c_1 => ?_)
  · have hres := hres.trans (if_pos c_1)
    have hs := hs c_1
    refine lv_aload_n hx hb dX8_read_16 rfl (lv_at hl 0 rfl) ?_
    refine gh_get (v := .ref (gA G 201)) (C := RX8) (T := TX8) (N := 5) hx hb hw inlX8 hown hT hP 0 (Nat.le_of_ble_eq_true rfl) kd0 rfl rfl 3 (by decide) (hw _ uw24) rfl dX8_read_17 ?_
    obtain ⟨ho_2, hs⟩ := hs
    refine gh_kv (va_runV (As := []) (rest := []) ⟨hx, hb, hml, hown, hw⟩ (cc_X6_scan l G V ho_2) (cwV 0 hw gv_RX8_247 rfl rfl rfl dd_X6_scan ⟨Nat.le_of_ble_eq_true rfl, Nat.le_of_ble_eq_true rfl⟩) (gh_preV hT hP (Nat.le_of_ble_eq_true rfl) kd201 rfl rfl) rfl rfl hl.1 rfl (lv_room (Nat.le_of_ble_eq_true rfl)) dX8_read_20 ⟨Nat.zero_le _, Nat.zero_le _⟩) hS (fun H locs hP hS => ?_)
    exact b_23 (MX6_scan V) _ _ _ (lv_sub hl [0] rfl) hP hS hs hres
  have hres := hres.trans (if_neg c_1)
  refine lv_bipush (v := -2) hx hb dX8_read_13 (by decide) ?_
  exact gh_iret hx hb hr hlocks hP hS hT hres dX8_read_15
