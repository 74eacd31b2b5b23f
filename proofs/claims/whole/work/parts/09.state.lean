theorem gv_RX5_125 : GoodIn wsL_law (wsV RX5 125 RX4 yX4_at wc_X4_at) := gh_gV uw386 uw190 uw191 uw55 uw192
theorem gv_RX5_184 : GoodIn wsL_law (wsV RX5 184 RX7 yX7_letterAt wc_X7_letterAt) := gh_gV uw441 uw393 uw394 uw31 uw395
def BX5_openPlaces_58  (K22 : Int32 → Int32 → Int32 → gV → Int32) (x1 : Int32) (x2 : Int32) (x3 : Int32) (V : gV) : Int32 := K22 x1 x2 (x3 + (1 : Int32)) V
def PX5_openPlaces_58  (KP22 : Int32 → Int32 → Int32 → gV → Prop) (x1 : Int32) (x2 : Int32) (x3 : Int32) (V : gV) : Prop := (KP22 x1 x2 (x3 + (1 : Int32)) V)
def BX5_openPlaces_22   : Nat → Int32 → Int32 → Int32 → gV → Int32
  | 0, _, _, _, _ => 0
  | n + 1, x1, x2, x3, V => if x2 ≤ x3 then (x1) else (if (MX8_holds (V 24 6) (MX7_letterAt 2 (V 24 1) x3 V) V) = 0 then (BX5_openPlaces_58 (BX5_openPlaces_22 n) x1 x2 x3 V) else (BX5_openPlaces_58 (BX5_openPlaces_22 n) (x1 + (1 : Int32)) x2 x3 V))
def PX5_openPlaces_22   : Nat → Int32 → Int32 → Int32 → gV → Prop
  | 0, _, _, _, _ => False
  | n + 1, x1, x2, x3, V => ((¬ x2 ≤ x3 → (((MX8_holds (V 24 6) (MX7_letterAt 2 (V 24 1) x3 V) V) = 0 → (PX5_openPlaces_58 (PX5_openPlaces_22 n) x1 x2 x3 V)) ∧ (¬ (MX8_holds (V 24 6) (MX7_letterAt 2 (V 24 1) x3 V) V) = 0 → (PX5_openPlaces_58 (PX5_openPlaces_22 n) (x1 + (1 : Int32)) x2 x3 V)))))
def MX5_openPlaces   (V : gV) : Int32 := BX5_openPlaces_22 1000 (0 : Int32) (MX4_at 3 (V 24 1) V) (0 : Int32) V
def PX5_openPlaces   (V : gV) : Prop := (PX5_openPlaces_22 1000 (0 : Int32) (MX4_at 3 (V 24 1) V) (0 : Int32) V)
abbrev wc_X5_openPlaces : List Cond := Cond.code yX5_openPlaces cX5_openPlaces 4 (some .int) :: wsL_law
abbrev r_X5_openPlaces : Room := { frames := 2, cells := 0, slots := 0, locals := 43 }
theorem dd_X5_openPlaces : yX5_openPlaces.cls = RX5 ∧ yX5_openPlaces.cls ≠ "java/lang/invoke/MethodHandle" ∧ yX5_openPlaces.cls ≠ "java/lang/invoke/VarHandle" ∧ (parseMethodDescriptor yX5_openPlaces.desc).map (fun d => d.parameters.length) = some 0 := by decide +kernel
set_option maxHeartbeats 8000000 in
set_option maxRecDepth 100000 in
theorem cc_X5_openPlaces (l : Launch) (G : gG) (V : gV)    (hs : PX5_openPlaces V) : Met l yX5_openPlaces wc_X5_openPlaces r_X5_openPlaces (va_Pc [.ref (gA G 1)] (gW G V)) (gQR G (MX5_openPlaces V) V) 0 0 (gF G) := by
  refine Met.ofW (cc := cX5_openPlaces) (maxL := 4) (ret := (some .int)) (by decide) rfl ?_
  intro p e s m args below meth c s₁ B hml hv
  obtain ⟨rfl, hP, hT⟩ := hv
  have hx := B.exec
  have hb := B.bytes
  have hr := B.returns
  have hw := gh_hw (atoms_spec (ws := wc_X5_openPlaces) B.pre)
  have hown : s.vm.findClass RX5 = some m.cls := findClass_of_methodNamed B.named
  have hlocks := B.notSynchronized
  have hS : va_S (gF G) s.heap s.heap [] := va_S.rf
  have hl := lv_entry ([.ref (gA G 1)]) (n := 4) (Nat.le_of_ble_eq_true rfl)
  rw [lg_entry_eq]
  generalize (lg_sl ([.ref (gA G 1)]) ++ List.replicate (4 - (lg_sl ([.ref (gA G 1)])).length) Slot.unset).toArray = ls at hl ⊢
  have hl : lv_has ls 4 [(0, .ref (gA G 1))] := hl
  obtain ⟨res, hres⟩ : ∃ r, r = MX5_openPlaces V := ⟨_, rfl⟩
  rw [← hres]
  show W p l e r_X5_openPlaces s m ([.ref (gA G 1)] : List Value).toArray below meth c s.heap [] 0 0 (MQ below (gQR G res V) ([.ref (gA G 1)] : List Value).toArray s 0 0 (gF G)) (F0 m 0 ls [])
  have hs : (PX5_openPlaces_22 1000 (0 : Int32) (MX4_at 3 (V 24 1) V) (0 : Int32) V) := hs
  have hres : res = (BX5_openPlaces_22 1000 (0 : Int32) (MX4_at 3 (V 24 1) V) (0 : Int32) V) := hres
  have b_22 : ∀ (n : Nat) (x1 : Int32) (x2 : Int32) (x3 : Int32) (H : Heap) (locs : List Loc) (ls : Array Slot), lv_has ls 4 [(0, .ref (gA G 1)), (1, .int x1), (2, .int x2), (3, .int x3)] → va_P (gD G) vwCl (gL G V) H → va_S (gF G) s.heap H locs → PX5_openPlaces_22  n x1 x2 x3 V → res = BX5_openPlaces_22  n x1 x2 x3 V → W p l e r_X5_openPlaces s m ([.ref (gA G 1)] : List Value).toArray below meth c H locs 0 0 (MQ below (gQR G res V) ([.ref (gA G 1)] : List Value).toArray s 0 0 (gF G)) (F0 m 22 ls []) := by
    intro n
    induction n with
    | zero =>
      intro x1 x2 x3 H locs ls hl hP hS hs hres
      exact (show False from hs).elim
    | succ n22 ih22 =>
      have b_58 : ∀ (x1 : Int32) (x2 : Int32) (x3 : Int32) (H : Heap) (locs : List Loc) (ls : Array Slot), lv_has ls 4 [(0, .ref (gA G 1)), (1, .int x1), (2, .int x2), (3, .int x3)] → va_P (gD G) vwCl (gL G V) H → va_S (gF G) s.heap H locs → PX5_openPlaces_58 (PX5_openPlaces_22 n22) x1 x2 x3 V → res = BX5_openPlaces_58 (BX5_openPlaces_22 n22) x1 x2 x3 V → W p l e r_X5_openPlaces s m ([.ref (gA G 1)] : List Value).toArray below meth c H locs 0 0 (MQ below (gQR G res V) ([.ref (gA G 1)] : List Value).toArray s 0 0 (gF G)) (F0 m 58 ls []) := by
        intro x1 x2 x3 H locs ls hl hP hS hs hres
        have hs : ((PX5_openPlaces_22 n22) x1 x2 (x3 + (1 : Int32)) V) := hs
        have hres : res = ((BX5_openPlaces_22 n22) x1 x2 (x3 + (1 : Int32)) V) := hres
        refine lv_iinc (v := (x3 + (1 : Int32))) (lv' := [(3, .int (x3 + (1 : Int32))), (0, .ref (gA G 1)), (1, .int x1), (2, .int x2)]) hx hb dX5_openPlaces_58 hl (k := 3) rfl rfl (by decide) rfl (fun ls hl => ?_)
        refine lv_goto (tgt := 22) hx hb dX5_openPlaces_61 (by decide) ?_
        exact ih22 x1 x2 (x3 + (1 : Int32)) _ _ _ (lv_sub hl [1, 2, 3, 0] rfl) hP hS hs hres
      intro x1 x2 x3 H locs ls hl hP hS hs hres
      have hs : ((¬ x2 ≤ x3 → (((MX8_holds (V 24 6) (MX7_letterAt 2 (V 24 1) x3 V) V) = 0 → (PX5_openPlaces_58 (PX5_openPlaces_22 n22) x1 x2 x3 V)) ∧ (¬ (MX8_holds (V 24 6) (MX7_letterAt 2 (V 24 1) x3 V) V) = 0 → (PX5_openPlaces_58 (PX5_openPlaces_22 n22) (x1 + (1 : Int32)) x2 x3 V))))) := hs
      have hres : res = (if x2 ≤ x3 then (x1) else (if (MX8_holds (V 24 6) (MX7_letterAt 2 (V 24 1) x3 V) V) = 0 then (BX5_openPlaces_58 (BX5_openPlaces_22 n22) x1 x2 x3 V) else (BX5_openPlaces_58 (BX5_openPlaces_22 n22) (x1 + (1 : Int32)) x2 x3 V))) := hres
      refine lv_iload_n hx hb dX5_openPlaces_22 rfl (lv_at hl 3 rfl) ?_
      refine lv_iload_n hx hb dX5_openPlaces_23 rfl (lv_at hl 2 rfl) ?_
      refine lv_icmp_ge (tgt := 64) hx hb dX5_openPlaces_24 (by decide) (fun c_1 => ?_) (fun c_1 => ?_)
      · have hres := hres.trans (if_pos c_1)
        refine lv_iload_n hx hb dX5_openPlaces_64 rfl (lv_at hl 1 rfl) ?_
        exact gh_iretR hx hb hr hlocks hP hS hT hres dX5_openPlaces_65
      have hres := hres.trans (if_neg c_1)
      have hs := hs c_1
      refine lv_aload_n hx hb dX5_openPlaces_27 rfl (lv_at hl 0 rfl) ?_
      refine gh_get (v := .ref (gA G 24)) (C := RX5) (T := TX5) (N := 9) hx hb hw inlX5 hown hT hP 1 (Nat.le_of_ble_eq_true rfl) kd1 rfl rfl 2 (by decide) (hw _ uw40) rfl dX5_openPlaces_28 ?_
      refine gh_get (v := .int (V 24 6)) (C := RX3) (T := TX3) (N := 7) hx hb hw inlX3 hown hT hP 24 (Nat.le_of_ble_eq_true rfl) kd24 rfl rfl 6 (by decide) (hw _ uw311) rfl dX5_openPlaces_31 ?_
      refine lv_aload_n hx hb dX5_openPlaces_34 rfl (lv_at hl 0 rfl) ?_
      refine gh_get (v := .ref (gA G 2)) (C := RX5) (T := TX5) (N := 9) hx hb hw inlX5 hown hT hP 1 (Nat.le_of_ble_eq_true rfl) kd1 rfl rfl 0 (by decide) (hw _ uw32) rfl dX5_openPlaces_35 ?_
      refine lv_aload_n hx hb dX5_openPlaces_38 rfl (lv_at hl 0 rfl) ?_
      refine gh_get (v := .ref (gA G 24)) (C := RX5) (T := TX5) (N := 9) hx hb hw inlX5 hown hT hP 1 (Nat.le_of_ble_eq_true rfl) kd1 rfl rfl 2 (by decide) (hw _ uw40) rfl dX5_openPlaces_39 ?_
      refine gh_get (v := .int (V 24 1)) (C := RX3) (T := TX3) (N := 7) hx hb hw inlX3 hown hT hP 24 (Nat.le_of_ble_eq_true rfl) kd24 rfl rfl 1 (by decide) (hw _ uw306) rfl dX5_openPlaces_42 ?_
      refine lv_iload_n hx hb dX5_openPlaces_45 rfl (lv_at hl 3 rfl) ?_
      refine gh_kr (va_runV (As := [.int (V 24 1), .int x3]) (rest := [.int (V 24 6)]) ⟨hx, hb, hml, hown, hw⟩ (cc_X7_letterAt l G V 2 gi2 (V 24 1) x3) (cwV 2 hw gv_RX5_184 rfl rfl rfl dd_X7_letterAt ⟨Nat.le_of_ble_eq_true rfl, Nat.le_of_ble_eq_true rfl⟩) (gh_preV hT hP (Nat.le_of_ble_eq_true rfl) kd2 rfl rfl) rfl rfl hl.1 rfl (lv_room (Nat.le_of_ble_eq_true rfl)) dX5_openPlaces_46 ⟨Nat.zero_le _, Nat.zero_le _⟩) hS (fun H locs hP hS => ?_)
      refine gh_kr (va_runSN (As := [.int (V 24 6), .int (MX7_letterAt 2 (V 24 1) x3 V)]) (rest := []) ⟨hx, hb, hml, hown, hw⟩ (cc_X8_holds l G V (V 24 6) (MX7_letterAt 2 (V 24 1) x3 V)) ⟨va_cnB 2 hw (gh_g1 uw336) rfl rfl rfl hT.2.2.2.2.2.1 (hw _ uw2) dd_X8_holds.2 ⟨Nat.le_of_ble_eq_true rfl, Nat.le_of_ble_eq_true rfl⟩, hw _ uw335, trivial⟩ (gh_pre hT hP) rfl rfl hl.1 rfl (lv_room (Nat.le_of_ble_eq_true rfl)) dX5_openPlaces_49 ⟨Nat.zero_le _, Nat.zero_le _⟩) hS (fun H locs hP hS => ?_)
      refine lv_if_eq (tgt := 58) hx hb dX5_openPlaces_52 (by decide) (fun c_2 => ?_) (fun c_2 => ?_)
      · have hres := hres.trans (if_pos c_2)
        have hs := hs.1 c_2
        exact b_58 x1 x2 x3 _ _ _ (lv_sub hl [0, 1, 2, 3] rfl) hP hS hs hres
      have hres := hres.trans (if_neg c_2)
      have hs := hs.2 c_2
      refine lv_iinc (v := (x1 + (1 : Int32))) (lv' := [(1, .int (x1 + (1 : Int32))), (0, .ref (gA G 1)), (2, .int x2), (3, .int x3)]) hx hb dX5_openPlaces_55 hl (k := 1) rfl rfl (by decide) rfl (fun ls hl => ?_)
      exact b_58 (x1 + (1 : Int32)) x2 x3 _ _ _ (lv_sub hl [1, 0, 2, 3] rfl) hP hS hs hres
  refine lv_iconst (v := 0) hx hb dX5_openPlaces_0 (by decide) ?_
  refine lv_istore_n (lv' := [(1, .int (0 : Int32)), (0, .ref (gA G 1))]) hx hb dX5_openPlaces_1 rfl hl (by decide) rfl (fun ls hl => ?_)
  refine lv_aload_n hx hb dX5_openPlaces_2 rfl (lv_at hl 1 rfl) ?_
  refine gh_get (v := .ref (gA G 2)) (C := RX5) (T := TX5) (N := 9) hx hb hw inlX5 hown hT hP 1 (Nat.le_of_ble_eq_true rfl) kd1 rfl rfl 0 (by decide) (hw _ uw32) rfl dX5_openPlaces_3 ?_
  refine gh_get (v := .ref (gA G 3)) (C := RX7) (T := TX7) (N := 5) hx hb hw inlX7 hown hT hP 2 (Nat.le_of_ble_eq_true rfl) kd2 rfl rfl 1 (by decide) (hw _ uw385) rfl dX5_openPlaces_6 ?_
  refine lv_aload_n hx hb dX5_openPlaces_9 rfl (lv_at hl 1 rfl) ?_
  refine gh_get (v := .ref (gA G 24)) (C := RX5) (T := TX5) (N := 9) hx hb hw inlX5 hown hT hP 1 (Nat.le_of_ble_eq_true rfl) kd1 rfl rfl 2 (by decide) (hw _ uw40) rfl dX5_openPlaces_10 ?_
  refine gh_get (v := .int (V 24 1)) (C := RX3) (T := TX3) (N := 7) hx hb hw inlX3 hown hT hP 24 (Nat.le_of_ble_eq_true rfl) kd24 rfl rfl 1 (by decide) (hw _ uw306) rfl dX5_openPlaces_13 ?_
  refine gh_kr (va_runV (As := [.int (V 24 1)]) (rest := []) ⟨hx, hb, hml, hown, hw⟩ (cc_X4_at l G V 3 gi3 (V 24 1)) (cwV 1 hw gv_RX5_125 rfl rfl rfl dd_X4_at ⟨Nat.le_of_ble_eq_true rfl, Nat.le_of_ble_eq_true rfl⟩) (gh_preV hT hP (Nat.le_of_ble_eq_true rfl) kd3 rfl rfl) rfl rfl hl.1 rfl (lv_room (Nat.le_of_ble_eq_true rfl)) dX5_openPlaces_16 ⟨Nat.zero_le _, Nat.zero_le _⟩) hS (fun H locs hP hS => ?_)
  refine lv_istore_n (lv' := [(2, .int (MX4_at 3 (V 24 1) V)), (1, .int (0 : Int32)), (0, .ref (gA G 1))]) hx hb dX5_openPlaces_19 rfl hl (by decide) rfl (fun ls hl => ?_)
  refine lv_iconst (v := 0) hx hb dX5_openPlaces_20 (by decide) ?_
  refine lv_istore_n (lv' := [(3, .int (0 : Int32)), (2, .int (MX4_at 3 (V 24 1) V)), (1, .int (0 : Int32)), (0, .ref (gA G 1))]) hx hb dX5_openPlaces_21 rfl hl (by decide) rfl (fun ls hl => ?_)
  exact b_22 1000 (0 : Int32) (MX4_at 3 (V 24 1) V) (0 : Int32) _ _ _ (lv_sub hl [3, 2, 1, 0] rfl) hP hS hs hres
theorem gv_RX5_76 : GoodIn wsL_law (wsV RX5 76 RX0 yX0_canAllPay wc_X0_canAllPay) := gh_gV uw297 uw298 uw299 uw35 uw300
def MX5_canBegin  (a1 : Int32) (V : gV) : Int32 := if (V 24 0) = 0 then (if (V 2 0) ≤ 0 then ((0 : Int32)) else (if (V 11 0) ≤ 0 then ((0 : Int32)) else (if (MX0_canAllPay a1 V) = 0 then ((0 : Int32)) else ((1 : Int32))))) else ((0 : Int32))
def PX5_canBegin  (a1 : Int32) (V : gV) : Prop := (((V 24 0) = 0 → ((¬ (V 2 0) ≤ 0 → ((¬ (V 11 0) ≤ 0 → (PX0_canAllPay a1 V)))))))
abbrev wc_X5_canBegin : List Cond := Cond.code yX5_canBegin cX5_canBegin 2 (some .boolean) :: wsL_law
abbrev r_X5_canBegin : Room := { frames := 2, cells := 0, slots := 0, locals := 43 }
theorem dd_X5_canBegin : yX5_canBegin.cls = RX5 ∧ yX5_canBegin.cls ≠ "java/lang/invoke/MethodHandle" ∧ yX5_canBegin.cls ≠ "java/lang/invoke/VarHandle" ∧ (parseMethodDescriptor yX5_canBegin.desc).map (fun d => d.parameters.length) = some 1 := by decide +kernel
set_option maxHeartbeats 8000000 in
set_option maxRecDepth 100000 in
theorem cc_X5_canBegin (l : Launch) (G : gG) (V : gV)   (a1 : Int32) (hs : PX5_canBegin a1 V) : Met l yX5_canBegin wc_X5_canBegin r_X5_canBegin (va_Pc [.ref (gA G 1), .int a1] (gW G V)) (gQR G (MX5_canBegin a1 V) V) 0 0 (gF G) := by
  refine Met.ofW (cc := cX5_canBegin) (maxL := 2) (ret := (some .boolean)) (by decide) rfl ?_
  intro p e s m args below meth c s₁ B hml hv
  obtain ⟨rfl, hP, hT⟩ := hv
  have hx := B.exec
  have hb := B.bytes
  have hr := B.returns
  have hw := gh_hw (atoms_spec (ws := wc_X5_canBegin) B.pre)
  have hown : s.vm.findClass RX5 = some m.cls := findClass_of_methodNamed B.named
  have hlocks := B.notSynchronized
  have hS : va_S (gF G) s.heap s.heap [] := va_S.rf
  have hl := lv_entry ([.ref (gA G 1), .int a1]) (n := 2) (Nat.le_of_ble_eq_true rfl)
  rw [lg_entry_eq]
  generalize (lg_sl ([.ref (gA G 1), .int a1]) ++ List.replicate (2 - (lg_sl ([.ref (gA G 1), .int a1])).length) Slot.unset).toArray = ls at hl ⊢
  have hl : lv_has ls 2 [(0, .ref (gA G 1)), (1, .int a1)] := hl
  obtain ⟨res, hres⟩ : ∃ r, r = MX5_canBegin a1 V := ⟨_, rfl⟩
  rw [← hres]
  show W p l e r_X5_canBegin s m ([.ref (gA G 1), .int a1] : List Value).toArray below meth c s.heap [] 0 0 (MQ below (gQR G res V) ([.ref (gA G 1), .int a1] : List Value).toArray s 0 0 (gF G)) (F0 m 0 ls [])
  have hs : (((V 24 0) = 0 → ((¬ (V 2 0) ≤ 0 → ((¬ (V 11 0) ≤ 0 → (PX0_canAllPay a1 V))))))) := hs
  have hres : res = (if (V 24 0) = 0 then (if (V 2 0) ≤ 0 then ((0 : Int32)) else (if (V 11 0) ≤ 0 then ((0 : Int32)) else (if (MX0_canAllPay a1 V) = 0 then ((0 : Int32)) else ((1 : Int32))))) else ((0 : Int32))) := hres
  refine lv_aload_n hx hb dX5_canBegin_0 rfl (lv_at hl 0 rfl) ?_
  refine gh_get (v := .ref (gA G 24)) (C := RX5) (T := TX5) (N := 9) hx hb hw inlX5 hown hT hP 1 (Nat.le_of_ble_eq_true rfl) kd1 rfl rfl 2 (by decide) (hw _ uw40) rfl dX5_canBegin_1 ?_
  refine gh_get (v := .int (V 24 0)) (C := RX3) (T := TX3) (N := 7) hx hb hw inlX3 hown hT hP 24 (Nat.le_of_ble_eq_true rfl) kd24 rfl rfl 0 (by decide) (hw _ uw294) rfl dX5_canBegin_4 ?_
  refine lv_if_ne (tgt := 45) hx hb dX5_canBegin_7 (by decide) (fun c_1 => ?_) (fun c_1 => ?_)
  · have hres := hres.trans (if_neg c_1)
    refine lv_iconst (v := 0) hx hb dX5_canBegin_45 (by decide) ?_
    exact gh_zretR hx hb hr rfl hlocks hP hS hT hres dX5_canBegin_46
  have hres := hres.trans (if_pos c_1)
  have hs := hs c_1
  refine lv_aload_n hx hb dX5_canBegin_10 rfl (lv_at hl 0 rfl) ?_
  refine gh_get (v := .ref (gA G 2)) (C := RX5) (T := TX5) (N := 9) hx hb hw inlX5 hown hT hP 1 (Nat.le_of_ble_eq_true rfl) kd1 rfl rfl 0 (by decide) (hw _ uw32) rfl dX5_canBegin_11 ?_
  refine gh_get (v := .int (V 2 0)) (C := RX7) (T := TX7) (N := 5) hx hb hw inlX7 hown hT hP 2 (Nat.le_of_ble_eq_true rfl) kd2 rfl rfl 0 (by decide) (hw _ uw295) rfl dX5_canBegin_14 ?_
  refine lv_if_le (tgt := 45) hx hb dX5_canBegin_17 (by decide) (fun c_2 => ?_) (fun c_2 => ?_)
  · have hres := hres.trans (if_pos c_2)
    refine lv_iconst (v := 0) hx hb dX5_canBegin_45 (by decide) ?_
    exact gh_zretR hx hb hr rfl hlocks hP hS hT hres dX5_canBegin_46
  have hres := hres.trans (if_neg c_2)
  have hs := hs c_2
  refine lv_aload_n hx hb dX5_canBegin_20 rfl (lv_at hl 0 rfl) ?_
  refine gh_get (v := .ref (gA G 11)) (C := RX5) (T := TX5) (N := 9) hx hb hw inlX5 hown hT hP 1 (Nat.le_of_ble_eq_true rfl) kd1 rfl rfl 1 (by decide) (hw _ uw36) rfl dX5_canBegin_21 ?_
  refine gh_get (v := .int (V 11 0)) (C := RX0) (T := TX0) (N := 7) hx hb hw inlX0 hown hT hP 11 (Nat.le_of_ble_eq_true rfl) kd11 rfl rfl 0 (by decide) (hw _ uw296) rfl dX5_canBegin_24 ?_
  refine lv_if_le (tgt := 45) hx hb dX5_canBegin_27 (by decide) (fun c_3 => ?_) (fun c_3 => ?_)
  · have hres := hres.trans (if_pos c_3)
    refine lv_iconst (v := 0) hx hb dX5_canBegin_45 (by decide) ?_
    exact gh_zretR hx hb hr rfl hlocks hP hS hT hres dX5_canBegin_46
  have hres := hres.trans (if_neg c_3)
  have hs := hs c_3
  refine lv_aload_n hx hb dX5_canBegin_30 rfl (lv_at hl 0 rfl) ?_
  refine gh_get (v := .ref (gA G 11)) (C := RX5) (T := TX5) (N := 9) hx hb hw inlX5 hown hT hP 1 (Nat.le_of_ble_eq_true rfl) kd1 rfl rfl 1 (by decide) (hw _ uw36) rfl dX5_canBegin_31 ?_
  refine lv_iload_n hx hb dX5_canBegin_34 rfl (lv_at hl 1 rfl) ?_
  have ho_4 := hs
  refine gh_kr (va_runV (As := [.int a1]) (rest := []) ⟨hx, hb, hml, hown, hw⟩ (cc_X0_canAllPay l G V a1 ho_4) (cwV 1 hw gv_RX5_76 rfl rfl rfl dd_X0_canAllPay ⟨Nat.le_of_ble_eq_true rfl, Nat.le_of_ble_eq_true rfl⟩) (gh_preV hT hP (Nat.le_of_ble_eq_true rfl) kd11 rfl rfl) rfl rfl hl.1 rfl (lv_room (Nat.le_of_ble_eq_true rfl)) dX5_canBegin_35 ⟨Nat.zero_le _, Nat.zero_le _⟩) hS (fun H locs hP hS => ?_)
  refine lv_if_eq (tgt := 45) hx hb dX5_canBegin_38 (by decide) (fun c_5 => ?_) (fun c_5 => ?_)
  · have hres := hres.trans (if_pos c_5)
    refine lv_iconst (v := 0) hx hb dX5_canBegin_45 (by decide) ?_
    exact gh_zretR hx hb hr rfl hlocks hP hS hT hres dX5_canBegin_46
  have hres := hres.trans (if_neg c_5)
  refine lv_iconst (v := 1) hx hb dX5_canBegin_41 (by decide) ?_
  refine lv_goto (tgt := 46) hx hb dX5_canBegin_42 (by decide) ?_
  exact gh_zretR hx hb hr rfl hlocks hP hS hT hres dX5_canBegin_46
theorem gv_RX5_84 : GoodIn wsL_law (wsV RX5 84 RX0 yX0_behind wc_X0_behind) := gh_gV uw318 uw319 uw320 uw35 uw321
theorem gv_RX5_87 : GoodIn wsL_law (wsV RX5 87 RX7 yX7_drawnBy wc_X7_drawnBy) := gh_gV uw322 uw323 uw324 uw31 uw325
theorem gv_RX5_108 : GoodIn wsL_law (wsV RX5 108 RX0 yX0_takeFromAll wc_X0_takeFromAll) := gh_gV uw338 uw339 uw340 uw35 uw341
theorem gv_RX5_116 : GoodIn wsL_law (wsV RX5 116 RX4 yX4_add wc_X4_add) := gh_gV uw343 uw253 uw254 uw55 uw255
def BX5_beginRound_121    (V : gV) : gV := (MX4_add 7 (V 24 1) (1 : Int32) V)
def BX5_beginRound_113   (x1 : Int32) (V : gV) : gV := BX5_beginRound_121 (MX0_takeFromAll x1 V)
def PX5_beginRound_113   (x1 : Int32) (V : gV) : Prop := (PX0_takeFromAll x1 V)
def BX5_beginRound_105   (x1 : Int32) (V : gV) : gV := BX5_beginRound_113 x1 (gu V 24 6 (0 : Int32))
def PX5_beginRound_105   (x1 : Int32) (V : gV) : Prop := (PX5_beginRound_113 x1 (gu V 24 6 (0 : Int32)))
def BX5_beginRound_97   (x1 : Int32) (V : gV) : gV := BX5_beginRound_105 x1 (gu V 24 5 (0 : Int32))
def PX5_beginRound_97   (x1 : Int32) (V : gV) : Prop := (PX5_beginRound_105 x1 (gu V 24 5 (0 : Int32)))
def BX5_beginRound_81   (x1 : Int32) (V : gV) : gV := BX5_beginRound_97 x1 (gu V 24 4 (x1 * (V 11 0)))
def PX5_beginRound_81   (x1 : Int32) (V : gV) : Prop := (PX5_beginRound_97 x1 (gu V 24 4 (x1 * (V 11 0))))
def BX5_beginRound_70   (x1 : Int32) (V : gV) : gV := BX5_beginRound_81 x1 (gu V 24 3 (V 1 5))
def PX5_beginRound_70   (x1 : Int32) (V : gV) : Prop := (PX5_beginRound_81 x1 (gu V 24 3 (V 1 5)))
def BX5_beginRound_62   (x1 : Int32) (V : gV) : gV := BX5_beginRound_70 x1 (gu V 24 2 x1)
def PX5_beginRound_62   (x1 : Int32) (V : gV) : Prop := (PX5_beginRound_70 x1 (gu V 24 2 x1))
def BX5_beginRound_44   (x1 : Int32) (V : gV) : gV := BX5_beginRound_62 x1 (gu V 24 1 (MX7_drawnBy (V 1 7) V))
def PX5_beginRound_44   (x1 : Int32) (V : gV) : Prop := (PX7_drawnBy (V 1 7) V) ∧ (PX5_beginRound_62 x1 (gu V 24 1 (MX7_drawnBy (V 1 7) V)))
def BX5_beginRound_36   (x1 : Int32) (V : gV) : gV := BX5_beginRound_44 x1 (gu V 24 0 (1 : Int32))
def PX5_beginRound_36   (x1 : Int32) (V : gV) : Prop := (PX5_beginRound_44 x1 (gu V 24 0 (1 : Int32)))
def BX5_beginRound_26   (x1 : Int32) (V : gV) : gV := BX5_beginRound_36 x1 (gu V 1 4 ((V 1 4) + (1 : Int32)))
def PX5_beginRound_26   (x1 : Int32) (V : gV) : Prop := (PX5_beginRound_36 x1 (gu V 1 4 ((V 1 4) + (1 : Int32))))
def BX5_beginRound_11   (x1 : Int32) (V : gV) : gV := BX5_beginRound_26 x1 (gu V 1 5 (MX0_behind (V 1 5) V))
def PX5_beginRound_11   (x1 : Int32) (V : gV) : Prop := (PX5_beginRound_26 x1 (gu V 1 5 (MX0_behind (V 1 5) V)))
def MX5_beginRound  (a1 : Int32) (V : gV) : gV := BX5_beginRound_11 a1 (gu V 1 7 (MX8_numberBehind (V 1 7) V))
def PX5_beginRound  (a1 : Int32) (V : gV) : Prop := (PX5_beginRound_11 a1 (gu V 1 7 (MX8_numberBehind (V 1 7) V)))
abbrev wc_X5_beginRound : List Cond := Cond.code yX5_beginRound cX5_beginRound 2 none :: wsL_law
abbrev r_X5_beginRound : Room := { frames := 4, cells := 0, slots := 0, locals := 89 }
theorem dd_X5_beginRound : yX5_beginRound.cls = RX5 ∧ yX5_beginRound.cls ≠ "java/lang/invoke/MethodHandle" ∧ yX5_beginRound.cls ≠ "java/lang/invoke/VarHandle" ∧ (parseMethodDescriptor yX5_beginRound.desc).map (fun d => d.parameters.length) = some 1 := by decide +kernel
set_option maxHeartbeats 8000000 in
set_option maxRecDepth 100000 in
theorem cc_X5_beginRound (l : Launch) (G : gG) (V : gV)   (a1 : Int32) (hs : PX5_beginRound a1 V) : Met l yX5_beginRound wc_X5_beginRound r_X5_beginRound (va_Pc [.ref (gA G 1), .int a1] (gW G V)) (gQV G (MX5_beginRound a1 V)) 0 0 (gF G) := by
  refine Met.ofW (cc := cX5_beginRound) (maxL := 2) (ret := none) (by decide) rfl ?_
  intro p e s m args below meth c s₁ B hml hv
  obtain ⟨rfl, hP, hT⟩ := hv
  have hx := B.exec
  have hb := B.bytes
  have hr := B.returns
  have hw := gh_hw (atoms_spec (ws := wc_X5_beginRound) B.pre)
  have hown : s.vm.findClass RX5 = some m.cls := findClass_of_methodNamed B.named
  have hlocks := B.notSynchronized
  have hS : va_S (gF G) s.heap s.heap [] := va_S.rf
  have hl := lv_entry ([.ref (gA G 1), .int a1]) (n := 2) (Nat.le_of_ble_eq_true rfl)
  rw [lg_entry_eq]
  generalize (lg_sl ([.ref (gA G 1), .int a1]) ++ List.replicate (2 - (lg_sl ([.ref (gA G 1), .int a1])).length) Slot.unset).toArray = ls at hl ⊢
  have hl : lv_has ls 2 [(0, .ref (gA G 1)), (1, .int a1)] := hl
  obtain ⟨res, hres⟩ : ∃ r, r = MX5_beginRound a1 V := ⟨_, rfl⟩
  rw [← hres]
  show W p l e r_X5_beginRound s m ([.ref (gA G 1), .int a1] : List Value).toArray below meth c s.heap [] 0 0 (MQ below (gQV G res) ([.ref (gA G 1), .int a1] : List Value).toArray s 0 0 (gF G)) (F0 m 0 ls [])
  have hs : (PX5_beginRound_11 a1 (gu V 1 7 (MX8_numberBehind (V 1 7) V))) := hs
  have hres : res = (BX5_beginRound_11 a1 (gu V 1 7 (MX8_numberBehind (V 1 7) V))) := hres
  have b_121 : ∀  (V : gV) (H : Heap) (locs : List Loc) (ls : Array Slot), lv_has ls 2 [(0, .ref (gA G 1))] → va_P (gD G) vwCl (gL G V) H → va_S (gF G) s.heap H locs → res = BX5_beginRound_121   V → W p l e r_X5_beginRound s m ([.ref (gA G 1), .int a1] : List Value).toArray below meth c H locs 0 0 (MQ below (gQV G res) ([.ref (gA G 1), .int a1] : List Value).toArray s 0 0 (gF G)) (F0 m 121 ls []) := by
    intro  V H locs ls hl hP hS hres
    have hres : res = ((MX4_add 7 (V 24 1) (1 : Int32) V)) := hres
    refine lv_aload_n hx hb dX5_beginRound_121 rfl (lv_at hl 0 rfl) ?_
    refine gh_get (v := .ref (gA G 2)) (C := RX5) (T := TX5) (N := 9) hx hb hw inlX5 hown hT hP 1 (Nat.le_of_ble_eq_true rfl) kd1 rfl rfl 0 (by decide) (hw _ uw32) rfl dX5_beginRound_122 ?_
    refine gh_get (v := .ref (gA G 7)) (C := RX7) (T := TX7) (N := 5) hx hb hw inlX7 hown hT hP 2 (Nat.le_of_ble_eq_true rfl) kd2 rfl rfl 3 (by decide) (hw _ uw312) rfl dX5_beginRound_125 ?_
    refine lv_aload_n hx hb dX5_beginRound_128 rfl (lv_at hl 0 rfl) ?_
    refine gh_get (v := .ref (gA G 24)) (C := RX5) (T := TX5) (N := 9) hx hb hw inlX5 hown hT hP 1 (Nat.le_of_ble_eq_true rfl) kd1 rfl rfl 2 (by decide) (hw _ uw40) rfl dX5_beginRound_129 ?_
    refine gh_get (v := .int (V 24 1)) (C := RX3) (T := TX3) (N := 7) hx hb hw inlX3 hown hT hP 24 (Nat.le_of_ble_eq_true rfl) kd24 rfl rfl 1 (by decide) (hw _ uw306) rfl dX5_beginRound_132 ?_
    refine lv_iconst (v := 1) hx hb dX5_beginRound_135 (by decide) ?_
    refine gh_kv (va_runV (As := [.int (V 24 1), .int (1 : Int32)]) (rest := []) ⟨hx, hb, hml, hown, hw⟩ (cc_X4_add l G V 7 gi7 (V 24 1) (1 : Int32)) (cwV 2 hw gv_RX5_116 rfl rfl rfl dd_X4_add ⟨Nat.le_of_ble_eq_true rfl, Nat.le_of_ble_eq_true rfl⟩) (gh_preV hT hP (Nat.le_of_ble_eq_true rfl) kd7 rfl rfl) rfl rfl hl.1 rfl (lv_room (Nat.le_of_ble_eq_true rfl)) dX5_beginRound_136 ⟨Nat.zero_le _, Nat.zero_le _⟩) hS (fun H locs hP hS => ?_)
    exact gh_vret hx hb hr hlocks hP hS hT hres dX5_beginRound_139
  have b_113 : ∀ (x1 : Int32) (V : gV) (H : Heap) (locs : List Loc) (ls : Array Slot), lv_has ls 2 [(0, .ref (gA G 1)), (1, .int x1)] → va_P (gD G) vwCl (gL G V) H → va_S (gF G) s.heap H locs → PX5_beginRound_113  x1 V → res = BX5_beginRound_113  x1 V → W p l e r_X5_beginRound s m ([.ref (gA G 1), .int a1] : List Value).toArray below meth c H locs 0 0 (MQ below (gQV G res) ([.ref (gA G 1), .int a1] : List Value).toArray s 0 0 (gF G)) (F0 m 113 ls []) := by
    intro x1 V H locs ls hl hP hS hs hres
    have hs : (PX0_takeFromAll x1 V) := hs
    have hres : res = (BX5_beginRound_121 (MX0_takeFromAll x1 V)) := hres
    refine lv_aload_n hx hb dX5_beginRound_113 rfl (lv_at hl 0 rfl) ?_
    refine gh_get (v := .ref (gA G 11)) (C := RX5) (T := TX5) (N := 9) hx hb hw inlX5 hown hT hP 1 (Nat.le_of_ble_eq_true rfl) kd1 rfl rfl 1 (by decide) (hw _ uw36) rfl dX5_beginRound_114 ?_
    refine lv_iload_n hx hb dX5_beginRound_117 rfl (lv_at hl 1 rfl) ?_
    have ho_2 := hs
    refine gh_kv (va_runV (As := [.int x1]) (rest := []) ⟨hx, hb, hml, hown, hw⟩ (cc_X0_takeFromAll l G V x1 ho_2) (cwV 1 hw gv_RX5_108 rfl rfl rfl dd_X0_takeFromAll ⟨Nat.le_of_ble_eq_true rfl, Nat.le_of_ble_eq_true rfl⟩) (gh_preV hT hP (Nat.le_of_ble_eq_true rfl) kd11 rfl rfl) rfl rfl hl.1 rfl (lv_room (Nat.le_of_ble_eq_true rfl)) dX5_beginRound_118 ⟨Nat.zero_le _, Nat.zero_le _⟩) hS (fun H locs hP hS => ?_)
    exact b_121 (MX0_takeFromAll x1 V) _ _ _ (lv_sub hl [0] rfl) hP hS hres
  have b_105 : ∀ (x1 : Int32) (V : gV) (H : Heap) (locs : List Loc) (ls : Array Slot), lv_has ls 2 [(0, .ref (gA G 1)), (1, .int x1)] → va_P (gD G) vwCl (gL G V) H → va_S (gF G) s.heap H locs → PX5_beginRound_105  x1 V → res = BX5_beginRound_105  x1 V → W p l e r_X5_beginRound s m ([.ref (gA G 1), .int a1] : List Value).toArray below meth c H locs 0 0 (MQ below (gQV G res) ([.ref (gA G 1), .int a1] : List Value).toArray s 0 0 (gF G)) (F0 m 105 ls []) := by
    intro x1 V H locs ls hl hP hS hs hres
    have hs : (PX5_beginRound_113 x1 (gu V 24 6 (0 : Int32))) := hs
    have hres : res = (BX5_beginRound_113 x1 (gu V 24 6 (0 : Int32))) := hres
    refine lv_aload_n hx hb dX5_beginRound_105 rfl (lv_at hl 0 rfl) ?_
    refine gh_get (v := .ref (gA G 24)) (C := RX5) (T := TX5) (N := 9) hx hb hw inlX5 hown hT hP 1 (Nat.le_of_ble_eq_true rfl) kd1 rfl rfl 2 (by decide) (hw _ uw40) rfl dX5_beginRound_106 ?_
    refine lv_iconst (v := 0) hx hb dX5_beginRound_109 (by decide) ?_
    refine gh_put (ty := .int) (x := (0 : Int32)) (C := RX3) (T := TX3) (N := 7) hx hb hw inlX3 tyX3_ok nmX3 hown hT hP hS 24 (Nat.le_of_ble_eq_true rfl) kd24 rfl rfl 6 (by decide) (hw _ uw311) rfl (by decide +kernel) rfl rfl (Nat.le_of_ble_eq_true rfl) rfl dX5_beginRound_110 (fun H locs hP hS => ?_)
    exact b_113 x1 (gu V 24 6 (0 : Int32)) _ _ _ (lv_sub hl [0, 1] rfl) hP hS hs hres
  have b_97 : ∀ (x1 : Int32) (V : gV) (H : Heap) (locs : List Loc) (ls : Array Slot), lv_has ls 2 [(0, .ref (gA G 1)), (1, .int x1)] → va_P (gD G) vwCl (gL G V) H → va_S (gF G) s.heap H locs → PX5_beginRound_97  x1 V → res = BX5_beginRound_97  x1 V → W p l e r_X5_beginRound s m ([.ref (gA G 1), .int a1] : List Value).toArray below meth c H locs 0 0 (MQ below (gQV G res) ([.ref (gA G 1), .int a1] : List Value).toArray s 0 0 (gF G)) (F0 m 97 ls []) := by
    intro x1 V H locs ls hl hP hS hs hres
    have hs : (PX5_beginRound_105 x1 (gu V 24 5 (0 : Int32))) := hs
    have hres : res = (BX5_beginRound_105 x1 (gu V 24 5 (0 : Int32))) := hres
    refine lv_aload_n hx hb dX5_beginRound_97 rfl (lv_at hl 0 rfl) ?_
    refine gh_get (v := .ref (gA G 24)) (C := RX5) (T := TX5) (N := 9) hx hb hw inlX5 hown hT hP 1 (Nat.le_of_ble_eq_true rfl) kd1 rfl rfl 2 (by decide) (hw _ uw40) rfl dX5_beginRound_98 ?_
    refine lv_iconst (v := 0) hx hb dX5_beginRound_101 (by decide) ?_
    refine gh_put (ty := .int) (x := (0 : Int32)) (C := RX3) (T := TX3) (N := 7) hx hb hw inlX3 tyX3_ok nmX3 hown hT hP hS 24 (Nat.le_of_ble_eq_true rfl) kd24 rfl rfl 5 (by decide) (hw _ uw310) rfl (by decide +kernel) rfl rfl (Nat.le_of_ble_eq_true rfl) rfl dX5_beginRound_102 (fun H locs hP hS => ?_)
    exact b_105 x1 (gu V 24 5 (0 : Int32)) _ _ _ (lv_sub hl [0, 1] rfl) hP hS hs hres
  have b_81 : ∀ (x1 : Int32) (V : gV) (H : Heap) (locs : List Loc) (ls : Array Slot), lv_has ls 2 [(0, .ref (gA G 1)), (1, .int x1)] → va_P (gD G) vwCl (gL G V) H → va_S (gF G) s.heap H locs → PX5_beginRound_81  x1 V → res = BX5_beginRound_81  x1 V → W p l e r_X5_beginRound s m ([.ref (gA G 1), .int a1] : List Value).toArray below meth c H locs 0 0 (MQ below (gQV G res) ([.ref (gA G 1), .int a1] : List Value).toArray s 0 0 (gF G)) (F0 m 81 ls []) := by
    intro x1 V H locs ls hl hP hS hs hres
    have hs : (PX5_beginRound_97 x1 (gu V 24 4 (x1 * (V 11 0)))) := hs
    have hres : res = (BX5_beginRound_97 x1 (gu V 24 4 (x1 * (V 11 0)))) := hres
    refine lv_aload_n hx hb dX5_beginRound_81 rfl (lv_at hl 0 rfl) ?_
    refine gh_get (v := .ref (gA G 24)) (C := RX5) (T := TX5) (N := 9) hx hb hw inlX5 hown hT hP 1 (Nat.le_of_ble_eq_true rfl) kd1 rfl rfl 2 (by decide) (hw _ uw40) rfl dX5_beginRound_82 ?_
    refine lv_iload_n hx hb dX5_beginRound_85 rfl (lv_at hl 1 rfl) ?_
    refine lv_aload_n hx hb dX5_beginRound_86 rfl (lv_at hl 0 rfl) ?_
    refine gh_get (v := .ref (gA G 11)) (C := RX5) (T := TX5) (N := 9) hx hb hw inlX5 hown hT hP 1 (Nat.le_of_ble_eq_true rfl) kd1 rfl rfl 1 (by decide) (hw _ uw36) rfl dX5_beginRound_87 ?_
    refine gh_get (v := .int (V 11 0)) (C := RX0) (T := TX0) (N := 7) hx hb hw inlX0 hown hT hP 11 (Nat.le_of_ble_eq_true rfl) kd11 rfl rfl 0 (by decide) (hw _ uw296) rfl dX5_beginRound_90 ?_
    refine lv_imul hx hb dX5_beginRound_93 ?_
    refine gh_put (ty := .int) (x := (x1 * (V 11 0))) (C := RX3) (T := TX3) (N := 7) hx hb hw inlX3 tyX3_ok nmX3 hown hT hP hS 24 (Nat.le_of_ble_eq_true rfl) kd24 rfl rfl 4 (by decide) (hw _ uw309) rfl (by decide +kernel) rfl rfl (Nat.le_of_ble_eq_true rfl) rfl dX5_beginRound_94 (fun H locs hP hS => ?_)
    exact b_97 x1 (gu V 24 4 (x1 * (V 11 0))) _ _ _ (lv_sub hl [0, 1] rfl) hP hS hs hres
  have b_70 : ∀ (x1 : Int32) (V : gV) (H : Heap) (locs : List Loc) (ls : Array Slot), lv_has ls 2 [(0, .ref (gA G 1)), (1, .int x1)] → va_P (gD G) vwCl (gL G V) H → va_S (gF G) s.heap H locs → PX5_beginRound_70  x1 V → res = BX5_beginRound_70  x1 V → W p l e r_X5_beginRound s m ([.ref (gA G 1), .int a1] : List Value).toArray below meth c H locs 0 0 (MQ below (gQV G res) ([.ref (gA G 1), .int a1] : List Value).toArray s 0 0 (gF G)) (F0 m 70 ls []) := by
    intro x1 V H locs ls hl hP hS hs hres
    have hs : (PX5_beginRound_81 x1 (gu V 24 3 (V 1 5))) := hs
    have hres : res = (BX5_beginRound_81 x1 (gu V 24 3 (V 1 5))) := hres
    refine lv_aload_n hx hb dX5_beginRound_70 rfl (lv_at hl 0 rfl) ?_
    refine gh_get (v := .ref (gA G 24)) (C := RX5) (T := TX5) (N := 9) hx hb hw inlX5 hown hT hP 1 (Nat.le_of_ble_eq_true rfl) kd1 rfl rfl 2 (by decide) (hw _ uw40) rfl dX5_beginRound_71 ?_
    refine lv_aload_n hx hb dX5_beginRound_74 rfl (lv_at hl 0 rfl) ?_
    refine gh_get (v := .int (V 1 5)) (C := RX5) (T := TX5) (N := 9) hx hb hw inlX5 hown hT hP 1 (Nat.le_of_ble_eq_true rfl) kd1 rfl rfl 5 (by decide) (hw _ uw46) rfl dX5_beginRound_75 ?_
    refine gh_put (ty := .int) (x := (V 1 5)) (C := RX3) (T := TX3) (N := 7) hx hb hw inlX3 tyX3_ok nmX3 hown hT hP hS 24 (Nat.le_of_ble_eq_true rfl) kd24 rfl rfl 3 (by decide) (hw _ uw308) rfl (by decide +kernel) rfl rfl (Nat.le_of_ble_eq_true rfl) rfl dX5_beginRound_78 (fun H locs hP hS => ?_)
    exact b_81 x1 (gu V 24 3 (V 1 5)) _ _ _ (lv_sub hl [0, 1] rfl) hP hS hs hres
  have b_62 : ∀ (x1 : Int32) (V : gV) (H : Heap) (locs : List Loc) (ls : Array Slot), lv_has ls 2 [(0, .ref (gA G 1)), (1, .int x1)] → va_P (gD G) vwCl (gL G V) H → va_S (gF G) s.heap H locs → PX5_beginRound_62  x1 V → res = BX5_beginRound_62  x1 V → W p l e r_X5_beginRound s m ([.ref (gA G 1), .int a1] : List Value).toArray below meth c H locs 0 0 (MQ below (gQV G res) ([.ref (gA G 1), .int a1] : List Value).toArray s 0 0 (gF G)) (F0 m 62 ls []) := by
    intro x1 V H locs ls hl hP hS hs hres
    have hs : (PX5_beginRound_70 x1 (gu V 24 2 x1)) := hs
    have hres : res = (BX5_beginRound_70 x1 (gu V 24 2 x1)) := hres
    refine lv_aload_n hx hb dX5_beginRound_62 rfl (lv_at hl 0 rfl) ?_
    refine gh_get (v := .ref (gA G 24)) (C := RX5) (T := TX5) (N := 9) hx hb hw inlX5 hown hT hP 1 (Nat.le_of_ble_eq_true rfl) kd1 rfl rfl 2 (by decide) (hw _ uw40) rfl dX5_beginRound_63 ?_
    refine lv_iload_n hx hb dX5_beginRound_66 rfl (lv_at hl 1 rfl) ?_
    refine gh_put (ty := .int) (x := x1) (C := RX3) (T := TX3) (N := 7) hx hb hw inlX3 tyX3_ok nmX3 hown hT hP hS 24 (Nat.le_of_ble_eq_true rfl) kd24 rfl rfl 2 (by decide) (hw _ uw307) rfl (by decide +kernel) rfl rfl (Nat.le_of_ble_eq_true rfl) rfl dX5_beginRound_67 (fun H locs hP hS => ?_)
    exact b_70 x1 (gu V 24 2 x1) _ _ _ (lv_sub hl [0, 1] rfl) hP hS hs hres
  have b_44 : ∀ (x1 : Int32) (V : gV) (H : Heap) (locs : List Loc) (ls : Array Slot), lv_has ls 2 [(0, .ref (gA G 1)), (1, .int x1)] → va_P (gD G) vwCl (gL G V) H → va_S (gF G) s.heap H locs → PX5_beginRound_44  x1 V → res = BX5_beginRound_44  x1 V → W p l e r_X5_beginRound s m ([.ref (gA G 1), .int a1] : List Value).toArray below meth c H locs 0 0 (MQ below (gQV G res) ([.ref (gA G 1), .int a1] : List Value).toArray s 0 0 (gF G)) (F0 m 44 ls []) := by
    intro x1 V H locs ls hl hP hS hs hres
    have hs : (PX7_drawnBy (V 1 7) V) ∧ (PX5_beginRound_62 x1 (gu V 24 1 (MX7_drawnBy (V 1 7) V))) := hs
    have hres : res = (BX5_beginRound_62 x1 (gu V 24 1 (MX7_drawnBy (V 1 7) V))) := hres
    refine lv_aload_n hx hb dX5_beginRound_44 rfl (lv_at hl 0 rfl) ?_
    refine gh_get (v := .ref (gA G 24)) (C := RX5) (T := TX5) (N := 9) hx hb hw inlX5 hown hT hP 1 (Nat.le_of_ble_eq_true rfl) kd1 rfl rfl 2 (by decide) (hw _ uw40) rfl dX5_beginRound_45 ?_
    refine lv_aload_n hx hb dX5_beginRound_48 rfl (lv_at hl 0 rfl) ?_
    refine gh_get (v := .ref (gA G 2)) (C := RX5) (T := TX5) (N := 9) hx hb hw inlX5 hown hT hP 1 (Nat.le_of_ble_eq_true rfl) kd1 rfl rfl 0 (by decide) (hw _ uw32) rfl dX5_beginRound_49 ?_
    refine lv_aload_n hx hb dX5_beginRound_52 rfl (lv_at hl 0 rfl) ?_
    refine gh_get (v := .int (V 1 7)) (C := RX5) (T := TX5) (N := 9) hx hb hw inlX5 hown hT hP 1 (Nat.le_of_ble_eq_true rfl) kd1 rfl rfl 7 (by decide) (hw _ uw48) rfl dX5_beginRound_53 ?_
    obtain ⟨ho_1, hs⟩ := hs
    refine gh_kr (va_runV (As := [.int (V 1 7)]) (rest := [.ref (gA G 24)]) ⟨hx, hb, hml, hown, hw⟩ (cc_X7_drawnBy l G V (V 1 7) ho_1) (cwV 1 hw gv_RX5_87 rfl rfl rfl dd_X7_drawnBy ⟨Nat.le_of_ble_eq_true rfl, Nat.le_of_ble_eq_true rfl⟩) (gh_preV hT hP (Nat.le_of_ble_eq_true rfl) kd2 rfl rfl) rfl rfl hl.1 rfl (lv_room (Nat.le_of_ble_eq_true rfl)) dX5_beginRound_56 ⟨Nat.zero_le _, Nat.zero_le _⟩) hS (fun H locs hP hS => ?_)
    refine gh_put (ty := .int) (x := (MX7_drawnBy (V 1 7) V)) (C := RX3) (T := TX3) (N := 7) hx hb hw inlX3 tyX3_ok nmX3 hown hT hP hS 24 (Nat.le_of_ble_eq_true rfl) kd24 rfl rfl 1 (by decide) (hw _ uw306) rfl (by decide +kernel) rfl rfl (Nat.le_of_ble_eq_true rfl) rfl dX5_beginRound_59 (fun H locs hP hS => ?_)
    exact b_62 x1 (gu V 24 1 (MX7_drawnBy (V 1 7) V)) _ _ _ (lv_sub hl [0, 1] rfl) hP hS hs hres
  have b_36 : ∀ (x1 : Int32) (V : gV) (H : Heap) (locs : List Loc) (ls : Array Slot), lv_has ls 2 [(0, .ref (gA G 1)), (1, .int x1)] → va_P (gD G) vwCl (gL G V) H → va_S (gF G) s.heap H locs → PX5_beginRound_36  x1 V → res = BX5_beginRound_36  x1 V → W p l e r_X5_beginRound s m ([.ref (gA G 1), .int a1] : List Value).toArray below meth c H locs 0 0 (MQ below (gQV G res) ([.ref (gA G 1), .int a1] : List Value).toArray s 0 0 (gF G)) (F0 m 36 ls []) := by
    intro x1 V H locs ls hl hP hS hs hres
    have hs : (PX5_beginRound_44 x1 (gu V 24 0 (1 : Int32))) := hs
    have hres : res = (BX5_beginRound_44 x1 (gu V 24 0 (1 : Int32))) := hres
    refine lv_aload_n hx hb dX5_beginRound_36 rfl (lv_at hl 0 rfl) ?_
    refine gh_get (v := .ref (gA G 24)) (C := RX5) (T := TX5) (N := 9) hx hb hw inlX5 hown hT hP 1 (Nat.le_of_ble_eq_true rfl) kd1 rfl rfl 2 (by decide) (hw _ uw40) rfl dX5_beginRound_37 ?_
    refine lv_iconst (v := 1) hx hb dX5_beginRound_40 (by decide) ?_
    refine gh_put (ty := .boolean) (x := (1 : Int32)) (C := RX3) (T := TX3) (N := 7) hx hb hw inlX3 tyX3_ok nmX3 hown hT hP hS 24 (Nat.le_of_ble_eq_true rfl) kd24 rfl rfl 0 (by decide) (hw _ uw294) rfl (by decide +kernel) rfl rfl (Nat.le_of_ble_eq_true rfl) rfl dX5_beginRound_41 (fun H locs hP hS => ?_)
    exact b_44 x1 (gu V 24 0 (1 : Int32)) _ _ _ (lv_sub hl [0, 1] rfl) hP hS hs hres
  have b_26 : ∀ (x1 : Int32) (V : gV) (H : Heap) (locs : List Loc) (ls : Array Slot), lv_has ls 2 [(0, .ref (gA G 1)), (1, .int x1)] → va_P (gD G) vwCl (gL G V) H → va_S (gF G) s.heap H locs → PX5_beginRound_26  x1 V → res = BX5_beginRound_26  x1 V → W p l e r_X5_beginRound s m ([.ref (gA G 1), .int a1] : List Value).toArray below meth c H locs 0 0 (MQ below (gQV G res) ([.ref (gA G 1), .int a1] : List Value).toArray s 0 0 (gF G)) (F0 m 26 ls []) := by
    intro x1 V H locs ls hl hP hS hs hres
    have hs : (PX5_beginRound_36 x1 (gu V 1 4 ((V 1 4) + (1 : Int32)))) := hs
    have hres : res = (BX5_beginRound_36 x1 (gu V 1 4 ((V 1 4) + (1 : Int32)))) := hres
    refine lv_aload_n hx hb dX5_beginRound_26 rfl (lv_at hl 0 rfl) ?_
    refine lv_dup hx hb dX5_beginRound_27 rfl ?_
    refine gh_get (v := .int (V 1 4)) (C := RX5) (T := TX5) (N := 9) hx hb hw inlX5 hown hT hP 1 (Nat.le_of_ble_eq_true rfl) kd1 rfl rfl 4 (by decide) (hw _ uw45) rfl dX5_beginRound_28 ?_
    refine lv_iconst (v := 1) hx hb dX5_beginRound_31 (by decide) ?_
    refine lv_iadd hx hb dX5_beginRound_32 ?_
    refine gh_put (ty := .int) (x := ((V 1 4) + (1 : Int32))) (C := RX5) (T := TX5) (N := 9) hx hb hw inlX5 tyX5_ok nmX5 hown hT hP hS 1 (Nat.le_of_ble_eq_true rfl) kd1 rfl rfl 4 (by decide) (hw _ uw45) rfl (by decide +kernel) rfl rfl (Nat.le_of_ble_eq_true rfl) rfl dX5_beginRound_33 (fun H locs hP hS => ?_)
    exact b_36 x1 (gu V 1 4 ((V 1 4) + (1 : Int32))) _ _ _ (lv_sub hl [0, 1] rfl) hP hS hs hres
  have b_11 : ∀ (x1 : Int32) (V : gV) (H : Heap) (locs : List Loc) (ls : Array Slot), lv_has ls 2 [(0, .ref (gA G 1)), (1, .int x1)] → va_P (gD G) vwCl (gL G V) H → va_S (gF G) s.heap H locs → PX5_beginRound_11  x1 V → res = BX5_beginRound_11  x1 V → W p l e r_X5_beginRound s m ([.ref (gA G 1), .int a1] : List Value).toArray below meth c H locs 0 0 (MQ below (gQV G res) ([.ref (gA G 1), .int a1] : List Value).toArray s 0 0 (gF G)) (F0 m 11 ls []) := by
    intro x1 V H locs ls hl hP hS hs hres
    have hs : (PX5_beginRound_26 x1 (gu V 1 5 (MX0_behind (V 1 5) V))) := hs
    have hres : res = (BX5_beginRound_26 x1 (gu V 1 5 (MX0_behind (V 1 5) V))) := hres
    refine lv_aload_n hx hb dX5_beginRound_11 rfl (lv_at hl 0 rfl) ?_
    refine lv_aload_n hx hb dX5_beginRound_12 rfl (lv_at hl 0 rfl) ?_
    refine gh_get (v := .ref (gA G 11)) (C := RX5) (T := TX5) (N := 9) hx hb hw inlX5 hown hT hP 1 (Nat.le_of_ble_eq_true rfl) kd1 rfl rfl 1 (by decide) (hw _ uw36) rfl dX5_beginRound_13 ?_
    refine lv_aload_n hx hb dX5_beginRound_16 rfl (lv_at hl 0 rfl) ?_
    refine gh_get (v := .int (V 1 5)) (C := RX5) (T := TX5) (N := 9) hx hb hw inlX5 hown hT hP 1 (Nat.le_of_ble_eq_true rfl) kd1 rfl rfl 5 (by decide) (hw _ uw46) rfl dX5_beginRound_17 ?_
    refine gh_kr (va_runV (As := [.int (V 1 5)]) (rest := [.ref (gA G 1)]) ⟨hx, hb, hml, hown, hw⟩ (cc_X0_behind l G V (V 1 5)) (cwV 1 hw gv_RX5_84 rfl rfl rfl dd_X0_behind ⟨Nat.le_of_ble_eq_true rfl, Nat.le_of_ble_eq_true rfl⟩) (gh_preV hT hP (Nat.le_of_ble_eq_true rfl) kd11 rfl rfl) rfl rfl hl.1 rfl (lv_room (Nat.le_of_ble_eq_true rfl)) dX5_beginRound_20 ⟨Nat.zero_le _, Nat.zero_le _⟩) hS (fun H locs hP hS => ?_)
    refine gh_put (ty := .int) (x := (MX0_behind (V 1 5) V)) (C := RX5) (T := TX5) (N := 9) hx hb hw inlX5 tyX5_ok nmX5 hown hT hP hS 1 (Nat.le_of_ble_eq_true rfl) kd1 rfl rfl 5 (by decide) (hw _ uw46) rfl (by decide +kernel) rfl rfl (Nat.le_of_ble_eq_true rfl) rfl dX5_beginRound_23 (fun H locs hP hS => ?_)
    exact b_26 x1 (gu V 1 5 (MX0_behind (V 1 5) V)) _ _ _ (lv_sub hl [0, 1] rfl) hP hS hs hres
  refine lv_aload_n hx hb dX5_beginRound_0 rfl (lv_at hl 0 rfl) ?_
  refine lv_aload_n hx hb dX5_beginRound_1 rfl (lv_at hl 0 rfl) ?_
  refine gh_get (v := .int (V 1 7)) (C := RX5) (T := TX5) (N := 9) hx hb hw inlX5 hown hT hP 1 (Nat.le_of_ble_eq_true rfl) kd1 rfl rfl 7 (by decide) (hw _ uw48) rfl dX5_beginRound_2 ?_
  refine gh_kr (va_runSN (As := [.int (V 1 7)]) (rest := [.ref (gA G 1)]) ⟨hx, hb, hml, hown, hw⟩ (cc_X8_numberBehind l G V (V 1 7)) ⟨va_cnB 1 hw (gh_g1 uw314) rfl rfl rfl hT.2.2.1 (hw _ uw2) dd_X8_numberBehind.2 ⟨Nat.le_of_ble_eq_true rfl, Nat.le_of_ble_eq_true rfl⟩, hw _ uw313, trivial⟩ (gh_pre hT hP) rfl rfl hl.1 rfl (lv_room (Nat.le_of_ble_eq_true rfl)) dX5_beginRound_5 ⟨Nat.zero_le _, Nat.zero_le _⟩) hS (fun H locs hP hS => ?_)
  refine gh_put (ty := .int) (x := (MX8_numberBehind (V 1 7) V)) (C := RX5) (T := TX5) (N := 9) hx hb hw inlX5 tyX5_ok nmX5 hown hT hP hS 1 (Nat.le_of_ble_eq_true rfl) kd1 rfl rfl 7 (by decide) (hw _ uw48) rfl (by decide +kernel) rfl rfl (Nat.le_of_ble_eq_true rfl) rfl dX5_beginRound_8 (fun H locs hP hS => ?_)
  exact b_11 a1 (gu V 1 7 (MX8_numberBehind (V 1 7) V)) _ _ _ (lv_sub hl [0, 1] rfl) hP hS hs hres
theorem gv_RX5_160 : GoodIn wsL_law (wsV RX5 160 RX3 yX3_takeFromPot wc_X3_takeFromPot) := gh_gV uw432 uw433 uw434 uw39 uw435
def BX5_payForPlaces_40   (x1 : Int32) (x5 : Int32) (V : gV) : gV := (MX4_add 12 (MX4_at 22 x1 V) x5 V)
def BX5_payForPlaces_22   (x1 : Int32) (x4 : Int32) (s0 : Int32) (V : gV) : gV := BX5_payForPlaces_40 x1 s0 (MX4_add 12 x1 (x4 - s0) V)
def BX5_payForPlaces_8   (x1 : Int32) (x3 : Int32) (s0 : Int32) (V : gV) : gV := if x3 = 0 then (BX5_payForPlaces_22 x1 s0 (0 : Int32) V) else (BX5_payForPlaces_22 x1 s0 (s0 / (2 : Int32)) V)
def MX5_payForPlaces  (a1 : Int32) (a2 : Int32) (a3 : Int32) (V : gV) : gV := BX5_payForPlaces_8 a1 a3 ((MX3_takeFromPot a2 V).1) ((MX3_takeFromPot a2 V).2)
abbrev wc_X5_payForPlaces : List Cond := Cond.code yX5_payForPlaces cX5_payForPlaces 6 none :: wsL_law
abbrev r_X5_payForPlaces : Room := { frames := 2, cells := 0, slots := 0, locals := 44 }
theorem dd_X5_payForPlaces : yX5_payForPlaces.cls = RX5 ∧ yX5_payForPlaces.cls ≠ "java/lang/invoke/MethodHandle" ∧ yX5_payForPlaces.cls ≠ "java/lang/invoke/VarHandle" ∧ (parseMethodDescriptor yX5_payForPlaces.desc).map (fun d => d.parameters.length) = some 3 := by decide +kernel
set_option maxHeartbeats 8000000 in
set_option maxRecDepth 100000 in
theorem cc_X5_payForPlaces (l : Launch) (G : gG) (V : gV)   (a1 : Int32) (a2 : Int32) (a3 : Int32)  : Met l yX5_payForPlaces wc_X5_payForPlaces r_X5_payForPlaces (va_Pc [.ref (gA G 1), .int a1, .int a2, .int a3] (gW G V)) (gQV G (MX5_payForPlaces a1 a2 a3 V)) 0 0 (gF G) := by
  refine Met.ofW (cc := cX5_payForPlaces) (maxL := 6) (ret := none) (by decide) rfl ?_
  intro p e s m args below meth c s₁ B hml hv
  obtain ⟨rfl, hP, hT⟩ := hv
  have hx := B.exec
  have hb := B.bytes
  have hr := B.returns
  have hw := gh_hw (atoms_spec (ws := wc_X5_payForPlaces) B.pre)
  have hown : s.vm.findClass RX5 = some m.cls := findClass_of_methodNamed B.named
  have hlocks := B.notSynchronized
  have hS : va_S (gF G) s.heap s.heap [] := va_S.rf
  have hl := lv_entry ([.ref (gA G 1), .int a1, .int a2, .int a3]) (n := 6) (Nat.le_of_ble_eq_true rfl)
  rw [lg_entry_eq]
  generalize (lg_sl ([.ref (gA G 1), .int a1, .int a2, .int a3]) ++ List.replicate (6 - (lg_sl ([.ref (gA G 1), .int a1, .int a2, .int a3])).length) Slot.unset).toArray = ls at hl ⊢
  have hl : lv_has ls 6 [(0, .ref (gA G 1)), (1, .int a1), (2, .int a2), (3, .int a3)] := hl
  obtain ⟨res, hres⟩ : ∃ r, r = MX5_payForPlaces a1 a2 a3 V := ⟨_, rfl⟩
  rw [← hres]
  show W p l e r_X5_payForPlaces s m ([.ref (gA G 1), .int a1, .int a2, .int a3] : List Value).toArray below meth c s.heap [] 0 0 (MQ below (gQV G res) ([.ref (gA G 1), .int a1, .int a2, .int a3] : List Value).toArray s 0 0 (gF G)) (F0 m 0 ls [])
  have hres : res = (BX5_payForPlaces_8 a1 a3 ((MX3_takeFromPot a2 V).1) ((MX3_takeFromPot a2 V).2)) := hres
  have b_40 : ∀ (x1 : Int32) (x5 : Int32) (V : gV) (H : Heap) (locs : List Loc) (ls : Array Slot), lv_has ls 6 [(0, .ref (gA G 1)), (1, .int x1), (5, .int x5)] → va_P (gD G) vwCl (gL G V) H → va_S (gF G) s.heap H locs → res = BX5_payForPlaces_40  x1 x5 V → W p l e r_X5_payForPlaces s m ([.ref (gA G 1), .int a1, .int a2, .int a3] : List Value).toArray below meth c H locs 0 0 (MQ below (gQV G res) ([.ref (gA G 1), .int a1, .int a2, .int a3] : List Value).toArray s 0 0 (gF G)) (F0 m 40 ls []) := by
    intro x1 x5 V H locs ls hl hP hS hres
    have hres : res = ((MX4_add 12 (MX4_at 22 x1 V) x5 V)) := hres
    refine lv_aload_n hx hb dX5_payForPlaces_40 rfl (lv_at hl 0 rfl) ?_
    refine gh_get (v := .ref (gA G 11)) (C := RX5) (T := TX5) (N := 9) hx hb hw inlX5 hown hT hP 1 (Nat.le_of_ble_eq_true rfl) kd1 rfl rfl 1 (by decide) (hw _ uw36) rfl dX5_payForPlaces_41 ?_
    refine gh_get (v := .ref (gA G 12)) (C := RX0) (T := TX0) (N := 7) hx hb hw inlX0 hown hT hP 11 (Nat.le_of_ble_eq_true rfl) kd11 rfl rfl 1 (by decide) (hw _ uw430) rfl dX5_payForPlaces_44 ?_
    refine lv_aload_n hx hb dX5_payForPlaces_47 rfl (lv_at hl 0 rfl) ?_
    refine gh_get (v := .ref (gA G 11)) (C := RX5) (T := TX5) (N := 9) hx hb hw inlX5 hown hT hP 1 (Nat.le_of_ble_eq_true rfl) kd1 rfl rfl 1 (by decide) (hw _ uw36) rfl dX5_payForPlaces_48 ?_
    refine gh_get (v := .ref (gA G 22)) (C := RX0) (T := TX0) (N := 7) hx hb hw inlX0 hown hT hP 11 (Nat.le_of_ble_eq_true rfl) kd11 rfl rfl 6 (by decide) (hw _ uw431) rfl dX5_payForPlaces_51 ?_
    refine lv_iload_n hx hb dX5_payForPlaces_54 rfl (lv_at hl 1 rfl) ?_
    refine gh_kr (va_runV (As := [.int x1]) (rest := [.ref (gA G 12)]) ⟨hx, hb, hml, hown, hw⟩ (cc_X4_at l G V 22 gi22 x1) (cwV 1 hw gv_RX5_125 rfl rfl rfl dd_X4_at ⟨Nat.le_of_ble_eq_true rfl, Nat.le_of_ble_eq_true rfl⟩) (gh_preV hT hP (Nat.le_of_ble_eq_true rfl) kd22 rfl rfl) rfl rfl hl.1 rfl (lv_room (Nat.le_of_ble_eq_true rfl)) dX5_payForPlaces_55 ⟨Nat.zero_le _, Nat.zero_le _⟩) hS (fun H locs hP hS => ?_)
    refine lv_iload hx hb dX5_payForPlaces_58 (lv_at hl 2 rfl) ?_
    refine gh_kv (va_runV (As := [.int (MX4_at 22 x1 V), .int x5]) (rest := []) ⟨hx, hb, hml, hown, hw⟩ (cc_X4_add l G V 12 gi12 (MX4_at 22 x1 V) x5) (cwV 2 hw gv_RX5_116 rfl rfl rfl dd_X4_add ⟨Nat.le_of_ble_eq_true rfl, Nat.le_of_ble_eq_true rfl⟩) (gh_preV hT hP (Nat.le_of_ble_eq_true rfl) kd12 rfl rfl) rfl rfl hl.1 rfl (lv_room (Nat.le_of_ble_eq_true rfl)) dX5_payForPlaces_60 ⟨Nat.zero_le _, Nat.zero_le _⟩) hS (fun H locs hP hS => ?_)
    exact gh_vret hx hb hr hlocks hP hS hT hres dX5_payForPlaces_63
  have b_22 : ∀ (x1 : Int32) (x4 : Int32) (s0 : Int32) (V : gV) (H : Heap) (locs : List Loc) (ls : Array Slot), lv_has ls 6 [(0, .ref (gA G 1)), (1, .int x1), (4, .int x4)] → va_P (gD G) vwCl (gL G V) H → va_S (gF G) s.heap H locs → res = BX5_payForPlaces_22  x1 x4 s0 V → W p l e r_X5_payForPlaces s m ([.ref (gA G 1), .int a1, .int a2, .int a3] : List Value).toArray below meth c H locs 0 0 (MQ below (gQV G res) ([.ref (gA G 1), .int a1, .int a2, .int a3] : List Value).toArray s 0 0 (gF G)) (F0 m 22 ls [.int s0]) := by
    intro x1 x4 s0 V H locs ls hl hP hS hres
    have hres : res = (BX5_payForPlaces_40 x1 s0 (MX4_add 12 x1 (x4 - s0) V)) := hres
    refine lv_istore (lv' := [(5, .int s0), (0, .ref (gA G 1)), (1, .int x1), (4, .int x4)]) hx hb dX5_payForPlaces_22 hl (by decide) rfl (fun ls hl => ?_)
    refine lv_aload_n hx hb dX5_payForPlaces_24 rfl (lv_at hl 1 rfl) ?_
    refine gh_get (v := .ref (gA G 11)) (C := RX5) (T := TX5) (N := 9) hx hb hw inlX5 hown hT hP 1 (Nat.le_of_ble_eq_true rfl) kd1 rfl rfl 1 (by decide) (hw _ uw36) rfl dX5_payForPlaces_25 ?_
    refine gh_get (v := .ref (gA G 12)) (C := RX0) (T := TX0) (N := 7) hx hb hw inlX0 hown hT hP 11 (Nat.le_of_ble_eq_true rfl) kd11 rfl rfl 1 (by decide) (hw _ uw430) rfl dX5_payForPlaces_28 ?_
    refine lv_iload_n hx hb dX5_payForPlaces_31 rfl (lv_at hl 2 rfl) ?_
    refine lv_iload hx hb dX5_payForPlaces_32 (lv_at hl 3 rfl) ?_
    refine lv_iload hx hb dX5_payForPlaces_34 (lv_at hl 0 rfl) ?_
    refine lv_isub hx hb dX5_payForPlaces_36 ?_
    refine gh_kv (va_runV (As := [.int x1, .int (x4 - s0)]) (rest := []) ⟨hx, hb, hml, hown, hw⟩ (cc_X4_add l G V 12 gi12 x1 (x4 - s0)) (cwV 2 hw gv_RX5_116 rfl rfl rfl dd_X4_add ⟨Nat.le_of_ble_eq_true rfl, Nat.le_of_ble_eq_true rfl⟩) (gh_preV hT hP (Nat.le_of_ble_eq_true rfl) kd12 rfl rfl) rfl rfl hl.1 rfl (lv_room (Nat.le_of_ble_eq_true rfl)) dX5_payForPlaces_37 ⟨Nat.zero_le _, Nat.zero_le _⟩) hS (fun H locs hP hS => ?_)
    exact b_40 x1 s0 (MX4_add 12 x1 (x4 - s0) V) _ _ _ (lv_sub hl [1, 2, 0] rfl) hP hS hres
  have b_8 : ∀ (x1 : Int32) (x3 : Int32) (s0 : Int32) (V : gV) (H : Heap) (locs : List Loc) (ls : Array Slot), lv_has ls 6 [(0, .ref (gA G 1)), (1, .int x1), (3, .int x3)] → va_P (gD G) vwCl (gL G V) H → va_S (gF G) s.heap H locs → res = BX5_payForPlaces_8  x1 x3 s0 V → W p l e r_X5_payForPlaces s m ([.ref (gA G 1), .int a1, .int a2, .int a3] : List Value).toArray below meth c H locs 0 0 (MQ below (gQV G res) ([.ref (gA G 1), .int a1, .int a2, .int a3] : List Value).toArray s 0 0 (gF G)) (F0 m 8 ls [.int s0]) := by
    intro x1 x3 s0 V H locs ls hl hP hS hres
    have hres : res = (if x3 = 0 then (BX5_payForPlaces_22 x1 s0 (0 : Int32) V) else (BX5_payForPlaces_22 x1 s0 (s0 / (2 : Int32)) V)) := hres
    refine lv_istore (lv' := [(4, .int s0), (0, .ref (gA G 1)), (1, .int x1), (3, .int x3)]) hx hb dX5_payForPlaces_8 hl (by decide) rfl (fun ls hl => ?_)
    refine lv_iload_n hx hb dX5_payForPlaces_10 rfl (lv_at hl 3 rfl) ?_
    refine lv_if_eq (tgt := 21) hx hb dX5_payForPlaces_11 (by decide) (fun c_1 => ?_) (fun c_1 => ?_)
    · have hres := hres.trans (if_pos c_1)
      refine lv_iconst (v := 0) hx hb dX5_payForPlaces_21 (by decide) ?_
      exact b_22 x1 s0 (0 : Int32) V _ _ _ (lv_sub hl [1, 2, 0] rfl) hP hS hres
    have hres := hres.trans (if_neg c_1)
    refine lv_iload hx hb dX5_payForPlaces_14 (lv_at hl 0 rfl) ?_
    refine lv_iconst (v := 2) hx hb dX5_payForPlaces_16 (by decide) ?_
    refine lv_idiv hx hb dX5_payForPlaces_17 (by decide) ?_
    refine lv_goto (tgt := 22) hx hb dX5_payForPlaces_18 (by decide) ?_
    exact b_22 x1 s0 (s0 / (2 : Int32)) V _ _ _ (lv_sub hl [1, 2, 0] rfl) hP hS hres
  refine lv_aload_n hx hb dX5_payForPlaces_0 rfl (lv_at hl 0 rfl) ?_
  refine gh_get (v := .ref (gA G 24)) (C := RX5) (T := TX5) (N := 9) hx hb hw inlX5 hown hT hP 1 (Nat.le_of_ble_eq_true rfl) kd1 rfl rfl 2 (by decide) (hw _ uw40) rfl dX5_payForPlaces_1 ?_
  refine lv_iload_n hx hb dX5_payForPlaces_4 rfl (lv_at hl 2 rfl) ?_
  refine gh_ki (va_runV (As := [.int a2]) (rest := []) ⟨hx, hb, hml, hown, hw⟩ (cc_X3_takeFromPot l G V a2) (cwV 1 hw gv_RX5_160 rfl rfl rfl dd_X3_takeFromPot ⟨Nat.le_of_ble_eq_true rfl, Nat.le_of_ble_eq_true rfl⟩) (gh_preV hT hP (Nat.le_of_ble_eq_true rfl) kd24 rfl rfl) rfl rfl hl.1 rfl (lv_room (Nat.le_of_ble_eq_true rfl)) dX5_payForPlaces_5 ⟨Nat.zero_le _, Nat.zero_le _⟩) hS (fun H locs hP hS => ?_)
  exact b_8 a1 a3 ((MX3_takeFromPot a2 V).1) ((MX3_takeFromPot a2 V).2) _ _ _ (lv_sub hl [0, 1, 3] rfl) hP hS hres
theorem gv_RX5_177 : GoodIn wsL_law (wsV RX5 177 RX2 yX2_putFirst wc_X2_putFirst) := gh_gV uw412 uw413 uw414 uw43 uw415
theorem gv_RX5_181 : GoodIn wsL_law (wsV RX5 181 RX0 yX0_dropHints wc_X0_dropHints) := gh_gV uw422 uw423 uw424 uw35 uw425
def BX5_endRound_19    (V : gV) : gV := (gu V 24 0 (0 : Int32))
def BX5_endRound_12    (V : gV) : gV := BX5_endRound_19 (MX0_dropHints V)
def PX5_endRound_12    (V : gV) : Prop := (PX0_dropHints V)
def MX5_endRound  (a1 : Int32) (V : gV) : gV := BX5_endRound_12 (MX2_putFirst a1 V)
def PX5_endRound  (a1 : Int32) (V : gV) : Prop := (PX2_putFirst a1 V) ∧ (PX5_endRound_12 (MX2_putFirst a1 V))
abbrev wc_X5_endRound : List Cond := Cond.code yX5_endRound cX5_endRound 2 none :: wsL_law
abbrev r_X5_endRound : Room := { frames := 3, cells := 0, slots := 0, locals := 64 }
theorem dd_X5_endRound : yX5_endRound.cls = RX5 ∧ yX5_endRound.cls ≠ "java/lang/invoke/MethodHandle" ∧ yX5_endRound.cls ≠ "java/lang/invoke/VarHandle" ∧ (parseMethodDescriptor yX5_endRound.desc).map (fun d => d.parameters.length) = some 1 := by decide +kernel
set_option maxHeartbeats 8000000 in
set_option maxRecDepth 100000 in
theorem cc_X5_endRound (l : Launch) (G : gG) (V : gV)   (a1 : Int32) (hs : PX5_endRound a1 V) : Met l yX5_endRound wc_X5_endRound r_X5_endRound (va_Pc [.ref (gA G 1), .int a1] (gW G V)) (gQV G (MX5_endRound a1 V)) 0 0 (gF G) := by
  refine Met.ofW (cc := cX5_endRound) (maxL := 2) (ret := none) (by decide) rfl ?_
  intro p e s m args below meth c s₁ B hml hv
  obtain ⟨rfl, hP, hT⟩ := hv
  have hx := B.exec
  have hb := B.bytes
  have hr := B.returns
  have hw := gh_hw (atoms_spec (ws := wc_X5_endRound) B.pre)
  have hown : s.vm.findClass RX5 = some m.cls := findClass_of_methodNamed B.named
  have hlocks := B.notSynchronized
  have hS : va_S (gF G) s.heap s.heap [] := va_S.rf
  have hl := lv_entry ([.ref (gA G 1), .int a1]) (n := 2) (Nat.le_of_ble_eq_true rfl)
  rw [lg_entry_eq]
  generalize (lg_sl ([.ref (gA G 1), .int a1]) ++ List.replicate (2 - (lg_sl ([.ref (gA G 1), .int a1])).length) Slot.unset).toArray = ls at hl ⊢
  have hl : lv_has ls 2 [(0, .ref (gA G 1)), (1, .int a1)] := hl
  obtain ⟨res, hres⟩ : ∃ r, r = MX5_endRound a1 V := ⟨_, rfl⟩
  rw [← hres]
  show W p l e r_X5_endRound s m ([.ref (gA G 1), .int a1] : List Value).toArray below meth c s.heap [] 0 0 (MQ below (gQV G res) ([.ref (gA G 1), .int a1] : List Value).toArray s 0 0 (gF G)) (F0 m 0 ls [])
  have hs : (PX2_putFirst a1 V) ∧ (PX5_endRound_12 (MX2_putFirst a1 V)) := hs
  have hres : res = (BX5_endRound_12 (MX2_putFirst a1 V)) := hres
  have b_19 : ∀  (V : gV) (H : Heap) (locs : List Loc) (ls : Array Slot), lv_has ls 2 [(0, .ref (gA G 1))] → va_P (gD G) vwCl (gL G V) H → va_S (gF G) s.heap H locs → res = BX5_endRound_19   V → W p l e r_X5_endRound s m ([.ref (gA G 1), .int a1] : List Value).toArray below meth c H locs 0 0 (MQ below (gQV G res) ([.ref (gA G 1), .int a1] : List Value).toArray s 0 0 (gF G)) (F0 m 19 ls []) := by
    intro  V H locs ls hl hP hS hres
    have hres : res = ((gu V 24 0 (0 : Int32))) := hres
    refine lv_aload_n hx hb dX5_endRound_19 rfl (lv_at hl 0 rfl) ?_
    refine gh_get (v := .ref (gA G 24)) (C := RX5) (T := TX5) (N := 9) hx hb hw inlX5 hown hT hP 1 (Nat.le_of_ble_eq_true rfl) kd1 rfl rfl 2 (by decide) (hw _ uw40) rfl dX5_endRound_20 ?_
    refine lv_iconst (v := 0) hx hb dX5_endRound_23 (by decide) ?_
    refine gh_put (ty := .boolean) (x := (0 : Int32)) (C := RX3) (T := TX3) (N := 7) hx hb hw inlX3 tyX3_ok nmX3 hown hT hP hS 24 (Nat.le_of_ble_eq_true rfl) kd24 rfl rfl 0 (by decide) (hw _ uw294) rfl (by decide +kernel) rfl rfl (Nat.le_of_ble_eq_true rfl) rfl dX5_endRound_24 (fun H locs hP hS => ?_)
    exact gh_vret hx hb hr hlocks hP hS hT hres dX5_endRound_27
  have b_12 : ∀  (V : gV) (H : Heap) (locs : List Loc) (ls : Array Slot), lv_has ls 2 [(0, .ref (gA G 1))] → va_P (gD G) vwCl (gL G V) H → va_S (gF G) s.heap H locs → PX5_endRound_12   V → res = BX5_endRound_12   V → W p l e r_X5_endRound s m ([.ref (gA G 1), .int a1] : List Value).toArray below meth c H locs 0 0 (MQ below (gQV G res) ([.ref (gA G 1), .int a1] : List Value).toArray s 0 0 (gF G)) (F0 m 12 ls []) := by
    intro  V H locs ls hl hP hS hs hres
    have hs : (PX0_dropHints V) := hs
    have hres : res = (BX5_endRound_19 (MX0_dropHints V)) := hres
    refine lv_aload_n hx hb dX5_endRound_12 rfl (lv_at hl 0 rfl) ?_
    refine gh_get (v := .ref (gA G 11)) (C := RX5) (T := TX5) (N := 9) hx hb hw inlX5 hown hT hP 1 (Nat.le_of_ble_eq_true rfl) kd1 rfl rfl 1 (by decide) (hw _ uw36) rfl dX5_endRound_13 ?_
    have ho_2 := hs
    refine gh_kv (va_runV (As := []) (rest := []) ⟨hx, hb, hml, hown, hw⟩ (cc_X0_dropHints l G V ho_2) (cwV 0 hw gv_RX5_181 rfl rfl rfl dd_X0_dropHints ⟨Nat.le_of_ble_eq_true rfl, Nat.le_of_ble_eq_true rfl⟩) (gh_preV hT hP (Nat.le_of_ble_eq_true rfl) kd11 rfl rfl) rfl rfl hl.1 rfl (lv_room (Nat.le_of_ble_eq_true rfl)) dX5_endRound_16 ⟨Nat.zero_le _, Nat.zero_le _⟩) hS (fun H locs hP hS => ?_)
    exact b_19 (MX0_dropHints V) _ _ _ (lv_sub hl [0] rfl) hP hS hres
  refine lv_aload_n hx hb dX5_endRound_0 rfl (lv_at hl 0 rfl) ?_
  refine gh_get (v := .ref (gA G 25)) (C := RX5) (T := TX5) (N := 9) hx hb hw inlX5 hown hT hP 1 (Nat.le_of_ble_eq_true rfl) kd1 rfl rfl 3 (by decide) (hw _ uw44) rfl dX5_endRound_1 ?_
  refine lv_aload_n hx hb dX5_endRound_4 rfl (lv_at hl 0 rfl) ?_
  refine gh_get (v := .ref (gA G 24)) (C := RX5) (T := TX5) (N := 9) hx hb hw inlX5 hown hT hP 1 (Nat.le_of_ble_eq_true rfl) kd1 rfl rfl 2 (by decide) (hw _ uw40) rfl dX5_endRound_5 ?_
  refine lv_iload_n hx hb dX5_endRound_8 rfl (lv_at hl 1 rfl) ?_
  obtain ⟨ho_1, hs⟩ := hs
  refine gh_kv (va_runV (As := [.ref (gA G 24), .int a1]) (rest := []) ⟨hx, hb, hml, hown, hw⟩ (cc_X2_putFirst l G V a1 ho_1) (cwV 2 hw gv_RX5_177 rfl rfl rfl dd_X2_putFirst ⟨Nat.le_of_ble_eq_true rfl, Nat.le_of_ble_eq_true rfl⟩) (gh_preV hT hP (Nat.le_of_ble_eq_true rfl) kd25 rfl rfl) rfl rfl hl.1 rfl (lv_room (Nat.le_of_ble_eq_true rfl)) dX5_endRound_9 ⟨Nat.zero_le _, Nat.zero_le _⟩) hS (fun H locs hP hS => ?_)
  exact b_12 (MX2_putFirst a1 V) _ _ _ (lv_sub hl [0] rfl) hP hS hs hres
theorem gv_RX5_171 : GoodIn wsL_law (wsV RX5 171 RX5 yX5_endRound wc_X5_endRound) := gh_gV uw408 uw409 uw410 uw14 uw411
def BX5_countMiss_61    (V : gV) : gV := (MX5_endRound (5 : Int32) V)
def PX5_countMiss_61    (V : gV) : Prop := (PX5_endRound (5 : Int32) V)
def BX5_countMiss_31    (V : gV) : gV := if (V 24 5) < (V 1 8) then ((gu V 24 3 (MX0_behind (V 24 3) V))) else (BX5_countMiss_61 (gu V 1 6 ((V 1 6) + (V 24 4))))
def PX5_countMiss_31    (V : gV) : Prop := ((¬ (V 24 5) < (V 1 8) → (PX5_countMiss_61 (gu V 1 6 ((V 1 6) + (V 24 4))))))
def BX5_countMiss_18    (V : gV) : gV := BX5_countMiss_31 (gu V 24 5 ((V 24 5) + (1 : Int32)))
def PX5_countMiss_18    (V : gV) : Prop := (PX5_countMiss_31 (gu V 24 5 ((V 24 5) + (1 : Int32))))
def MX5_countMiss   (V : gV) : gV := BX5_countMiss_18 (MX4_add 18 (V 24 3) (1 : Int32) V)
def PX5_countMiss   (V : gV) : Prop := (PX5_countMiss_18 (MX4_add 18 (V 24 3) (1 : Int32) V))
abbrev wc_X5_countMiss : List Cond := Cond.code yX5_countMiss cX5_countMiss 1 none :: wsL_law
abbrev r_X5_countMiss : Room := { frames := 4, cells := 0, slots := 0, locals := 85 }
theorem dd_X5_countMiss : yX5_countMiss.cls = RX5 ∧ yX5_countMiss.cls ≠ "java/lang/invoke/MethodHandle" ∧ yX5_countMiss.cls ≠ "java/lang/invoke/VarHandle" ∧ (parseMethodDescriptor yX5_countMiss.desc).map (fun d => d.parameters.length) = some 0 := by decide +kernel
set_option maxHeartbeats 8000000 in
set_option maxRecDepth 100000 in
theorem cc_X5_countMiss (l : Launch) (G : gG) (V : gV)    (hs : PX5_countMiss V) : Met l yX5_countMiss wc_X5_countMiss r_X5_countMiss (va_Pc [.ref (gA G 1)] (gW G V)) (gQV G (MX5_countMiss V)) 0 0 (gF G) := by
  refine Met.ofW (cc := cX5_countMiss) (maxL := 1) (ret := none) (by decide) rfl ?_
  intro p e s m args below meth c s₁ B hml hv
  obtain ⟨rfl, hP, hT⟩ := hv
  have hx := B.exec
  have hb := B.bytes
  have hr := B.returns
  have hw := gh_hw (atoms_spec (ws := wc_X5_countMiss) B.pre)
  have hown : s.vm.findClass RX5 = some m.cls := findClass_of_methodNamed B.named
  have hlocks := B.notSynchronized
  have hS : va_S (gF G) s.heap s.heap [] := va_S.rf
  have hl := lv_entry ([.ref (gA G 1)]) (n := 1) (Nat.le_of_ble_eq_true rfl)
  rw [lg_entry_eq]
  generalize (lg_sl ([.ref (gA G 1)]) ++ List.replicate (1 - (lg_sl ([.ref (gA G 1)])).length) Slot.unset).toArray = ls at hl ⊢
  have hl : lv_has ls 1 [(0, .ref (gA G 1))] := hl
  obtain ⟨res, hres⟩ : ∃ r, r = MX5_countMiss V := ⟨_, rfl⟩
  rw [← hres]
  show W p l e r_X5_countMiss s m ([.ref (gA G 1)] : List Value).toArray below meth c s.heap [] 0 0 (MQ below (gQV G res) ([.ref (gA G 1)] : List Value).toArray s 0 0 (gF G)) (F0 m 0 ls [])
  have hs : (PX5_countMiss_18 (MX4_add 18 (V 24 3) (1 : Int32) V)) := hs
  have hres : res = (BX5_countMiss_18 (MX4_add 18 (V 24 3) (1 : Int32) V)) := hres
  have b_61 : ∀  (V : gV) (H : Heap) (locs : List Loc) (ls : Array Slot), lv_has ls 1 [(0, .ref (gA G 1))] → va_P (gD G) vwCl (gL G V) H → va_S (gF G) s.heap H locs → PX5_countMiss_61   V → res = BX5_countMiss_61   V → W p l e r_X5_countMiss s m ([.ref (gA G 1)] : List Value).toArray below meth c H locs 0 0 (MQ below (gQV G res) ([.ref (gA G 1)] : List Value).toArray s 0 0 (gF G)) (F0 m 61 ls []) := by
    intro  V H locs ls hl hP hS hs hres
    have hs : (PX5_endRound (5 : Int32) V) := hs
    have hres : res = ((MX5_endRound (5 : Int32) V)) := hres
    refine lv_aload_n hx hb dX5_countMiss_61 rfl (lv_at hl 0 rfl) ?_
    refine lv_iconst (v := 5) hx hb dX5_countMiss_62 (by decide) ?_
    have ho_2 := hs
    refine gh_kv (va_runV (As := [.int (5 : Int32)]) (rest := []) ⟨hx, hb, hml, hown, hw⟩ (cc_X5_endRound l G V (5 : Int32) ho_2) (cwV 1 hw gv_RX5_171 rfl rfl rfl dd_X5_endRound ⟨Nat.le_of_ble_eq_true rfl, Nat.le_of_ble_eq_true rfl⟩) (gh_preV hT hP (Nat.le_of_ble_eq_true rfl) kd1 rfl rfl) rfl rfl hl.1 rfl (lv_room (Nat.le_of_ble_eq_true rfl)) dX5_countMiss_63 ⟨Nat.zero_le _, Nat.zero_le _⟩) hS (fun H locs hP hS => ?_)
    refine lv_goto (tgt := 90) hx hb dX5_countMiss_66 (by decide) ?_
    exact gh_vret hx hb hr hlocks hP hS hT hres dX5_countMiss_90
  have b_31 : ∀  (V : gV) (H : Heap) (locs : List Loc) (ls : Array Slot), lv_has ls 1 [(0, .ref (gA G 1))] → va_P (gD G) vwCl (gL G V) H → va_S (gF G) s.heap H locs → PX5_countMiss_31   V → res = BX5_countMiss_31   V → W p l e r_X5_countMiss s m ([.ref (gA G 1)] : List Value).toArray below meth c H locs 0 0 (MQ below (gQV G res) ([.ref (gA G 1)] : List Value).toArray s 0 0 (gF G)) (F0 m 31 ls []) := by
    intro  V H locs ls hl hP hS hs hres
    have hs : ((¬ (V 24 5) < (V 1 8) → (PX5_countMiss_61 (gu V 1 6 ((V 1 6) + (V 24 4)))))) := hs
    have hres : res = (if (V 24 5) < (V 1 8) then ((gu V 24 3 (MX0_behind (V 24 3) V))) else (BX5_countMiss_61 (gu V 1 6 ((V 1 6) + (V 24 4))))) := hres
    refine lv_aload_n hx hb dX5_countMiss_31 rfl (lv_at hl 0 rfl) ?_
    refine gh_get (v := .ref (gA G 24)) (C := RX5) (T := TX5) (N := 9) hx hb hw inlX5 hown hT hP 1 (Nat.le_of_ble_eq_true rfl) kd1 rfl rfl 2 (by decide) (hw _ uw40) rfl dX5_countMiss_32 ?_
    refine gh_get (v := .int (V 24 5)) (C := RX3) (T := TX3) (N := 7) hx hb hw inlX3 hown hT hP 24 (Nat.le_of_ble_eq_true rfl) kd24 rfl rfl 5 (by decide) (hw _ uw310) rfl dX5_countMiss_35 ?_
    refine lv_aload_n hx hb dX5_countMiss_38 rfl (lv_at hl 0 rfl) ?_
    refine gh_get (v := .int (V 1 8)) (C := RX5) (T := TX5) (N := 9) hx hb hw inlX5 hown hT hP 1 (Nat.le_of_ble_eq_true rfl) kd1 rfl rfl 8 (by decide) (hw _ uw49) rfl dX5_countMiss_39 ?_
    refine lv_icmp_lt (tgt := 69) hx hb dX5_countMiss_42 (by decide) (fun c_1 => ?_) (fun c_1 => ?_)
    · have hres := hres.trans (if_pos c_1)
      refine lv_aload_n hx hb dX5_countMiss_69 rfl (lv_at hl 0 rfl) ?_
      refine gh_get (v := .ref (gA G 24)) (C := RX5) (T := TX5) (N := 9) hx hb hw inlX5 hown hT hP 1 (Nat.le_of_ble_eq_true rfl) kd1 rfl rfl 2 (by decide) (hw _ uw40) rfl dX5_countMiss_70 ?_
      refine lv_aload_n hx hb dX5_countMiss_73 rfl (lv_at hl 0 rfl) ?_
      refine gh_get (v := .ref (gA G 11)) (C := RX5) (T := TX5) (N := 9) hx hb hw inlX5 hown hT hP 1 (Nat.le_of_ble_eq_true rfl) kd1 rfl rfl 1 (by decide) (hw _ uw36) rfl dX5_countMiss_74 ?_
      refine lv_aload_n hx hb dX5_countMiss_77 rfl (lv_at hl 0 rfl) ?_
      refine gh_get (v := .ref (gA G 24)) (C := RX5) (T := TX5) (N := 9) hx hb hw inlX5 hown hT hP 1 (Nat.le_of_ble_eq_true rfl) kd1 rfl rfl 2 (by decide) (hw _ uw40) rfl dX5_countMiss_78 ?_
      refine gh_get (v := .int (V 24 3)) (C := RX3) (T := TX3) (N := 7) hx hb hw inlX3 hown hT hP 24 (Nat.le_of_ble_eq_true rfl) kd24 rfl rfl 3 (by decide) (hw _ uw308) rfl dX5_countMiss_81 ?_
      refine gh_kr (va_runV (As := [.int (V 24 3)]) (rest := [.ref (gA G 24)]) ⟨hx, hb, hml, hown, hw⟩ (cc_X0_behind l G V (V 24 3)) (cwV 1 hw gv_RX5_84 rfl rfl rfl dd_X0_behind ⟨Nat.le_of_ble_eq_true rfl, Nat.le_of_ble_eq_true rfl⟩) (gh_preV hT hP (Nat.le_of_ble_eq_true rfl) kd11 rfl rfl) rfl rfl hl.1 rfl (lv_room (Nat.le_of_ble_eq_true rfl)) dX5_countMiss_84 ⟨Nat.zero_le _, Nat.zero_le _⟩) hS (fun H locs hP hS => ?_)
      refine gh_put (ty := .int) (x := (MX0_behind (V 24 3) V)) (C := RX3) (T := TX3) (N := 7) hx hb hw inlX3 tyX3_ok nmX3 hown hT hP hS 24 (Nat.le_of_ble_eq_true rfl) kd24 rfl rfl 3 (by decide) (hw _ uw308) rfl (by decide +kernel) rfl rfl (Nat.le_of_ble_eq_true rfl) rfl dX5_countMiss_87 (fun H locs hP hS => ?_)
      exact gh_vret hx hb hr hlocks hP hS hT hres dX5_countMiss_90
    have hres := hres.trans (if_neg c_1)
    have hs := hs c_1
    refine lv_aload_n hx hb dX5_countMiss_45 rfl (lv_at hl 0 rfl) ?_
    refine lv_dup hx hb dX5_countMiss_46 rfl ?_
    refine gh_get (v := .int (V 1 6)) (C := RX5) (T := TX5) (N := 9) hx hb hw inlX5 hown hT hP 1 (Nat.le_of_ble_eq_true rfl) kd1 rfl rfl 6 (by decide) (hw _ uw47) rfl dX5_countMiss_47 ?_
    refine lv_aload_n hx hb dX5_countMiss_50 rfl (lv_at hl 0 rfl) ?_
    refine gh_get (v := .ref (gA G 24)) (C := RX5) (T := TX5) (N := 9) hx hb hw inlX5 hown hT hP 1 (Nat.le_of_ble_eq_true rfl) kd1 rfl rfl 2 (by decide) (hw _ uw40) rfl dX5_countMiss_51 ?_
    refine gh_get (v := .int (V 24 4)) (C := RX3) (T := TX3) (N := 7) hx hb hw inlX3 hown hT hP 24 (Nat.le_of_ble_eq_true rfl) kd24 rfl rfl 4 (by decide) (hw _ uw309) rfl dX5_countMiss_54 ?_
    refine lv_iadd hx hb dX5_countMiss_57 ?_
    refine gh_put (ty := .int) (x := ((V 1 6) + (V 24 4))) (C := RX5) (T := TX5) (N := 9) hx hb hw inlX5 tyX5_ok nmX5 hown hT hP hS 1 (Nat.le_of_ble_eq_true rfl) kd1 rfl rfl 6 (by decide) (hw _ uw47) rfl (by decide +kernel) rfl rfl (Nat.le_of_ble_eq_true rfl) rfl dX5_countMiss_58 (fun H locs hP hS => ?_)
    exact b_61 (gu V 1 6 ((V 1 6) + (V 24 4))) _ _ _ (lv_sub hl [0] rfl) hP hS hs hres
  have b_18 : ∀  (V : gV) (H : Heap) (locs : List Loc) (ls : Array Slot), lv_has ls 1 [(0, .ref (gA G 1))] → va_P (gD G) vwCl (gL G V) H → va_S (gF G) s.heap H locs → PX5_countMiss_18   V → res = BX5_countMiss_18   V → W p l e r_X5_countMiss s m ([.ref (gA G 1)] : List Value).toArray below meth c H locs 0 0 (MQ below (gQV G res) ([.ref (gA G 1)] : List Value).toArray s 0 0 (gF G)) (F0 m 18 ls []) := by
    intro  V H locs ls hl hP hS hs hres
    have hs : (PX5_countMiss_31 (gu V 24 5 ((V 24 5) + (1 : Int32)))) := hs
    have hres : res = (BX5_countMiss_31 (gu V 24 5 ((V 24 5) + (1 : Int32)))) := hres
    refine lv_aload_n hx hb dX5_countMiss_18 rfl (lv_at hl 0 rfl) ?_
    refine gh_get (v := .ref (gA G 24)) (C := RX5) (T := TX5) (N := 9) hx hb hw inlX5 hown hT hP 1 (Nat.le_of_ble_eq_true rfl) kd1 rfl rfl 2 (by decide) (hw _ uw40) rfl dX5_countMiss_19 ?_
    refine lv_dup hx hb dX5_countMiss_22 rfl ?_
    refine gh_get (v := .int (V 24 5)) (C := RX3) (T := TX3) (N := 7) hx hb hw inlX3 hown hT hP 24 (Nat.le_of_ble_eq_true rfl) kd24 rfl rfl 5 (by decide) (hw _ uw310) rfl dX5_countMiss_23 ?_
    refine lv_iconst (v := 1) hx hb dX5_countMiss_26 (by decide) ?_
    refine lv_iadd hx hb dX5_countMiss_27 ?_
    refine gh_put (ty := .int) (x := ((V 24 5) + (1 : Int32))) (C := RX3) (T := TX3) (N := 7) hx hb hw inlX3 tyX3_ok nmX3 hown hT hP hS 24 (Nat.le_of_ble_eq_true rfl) kd24 rfl rfl 5 (by decide) (hw _ uw310) rfl (by decide +kernel) rfl rfl (Nat.le_of_ble_eq_true rfl) rfl dX5_countMiss_28 (fun H locs hP hS => ?_)
    exact b_31 (gu V 24 5 ((V 24 5) + (1 : Int32))) _ _ _ (lv_sub hl [0] rfl) hP hS hs hres
  refine lv_aload_n hx hb dX5_countMiss_0 rfl (lv_at hl 0 rfl) ?_
  refine gh_get (v := .ref (gA G 11)) (C := RX5) (T := TX5) (N := 9) hx hb hw inlX5 hown hT hP 1 (Nat.le_of_ble_eq_true rfl) kd1 rfl rfl 1 (by decide) (hw _ uw36) rfl dX5_countMiss_1 ?_
  refine gh_get (v := .ref (gA G 18)) (C := RX0) (T := TX0) (N := 7) hx hb hw inlX0 hown hT hP 11 (Nat.le_of_ble_eq_true rfl) kd11 rfl rfl 4 (by decide) (hw _ uw407) rfl dX5_countMiss_4 ?_
  refine lv_aload_n hx hb dX5_countMiss_7 rfl (lv_at hl 0 rfl) ?_
  refine gh_get (v := .ref (gA G 24)) (C := RX5) (T := TX5) (N := 9) hx hb hw inlX5 hown hT hP 1 (Nat.le_of_ble_eq_true rfl) kd1 rfl rfl 2 (by decide) (hw _ uw40) rfl dX5_countMiss_8 ?_
  refine gh_get (v := .int (V 24 3)) (C := RX3) (T := TX3) (N := 7) hx hb hw inlX3 hown hT hP 24 (Nat.le_of_ble_eq_true rfl) kd24 rfl rfl 3 (by decide) (hw _ uw308) rfl dX5_countMiss_11 ?_
  refine lv_iconst (v := 1) hx hb dX5_countMiss_14 (by decide) ?_
  refine gh_kv (va_runV (As := [.int (V 24 3), .int (1 : Int32)]) (rest := []) ⟨hx, hb, hml, hown, hw⟩ (cc_X4_add l G V 18 gi18 (V 24 3) (1 : Int32)) (cwV 2 hw gv_RX5_116 rfl rfl rfl dd_X4_add ⟨Nat.le_of_ble_eq_true rfl, Nat.le_of_ble_eq_true rfl⟩) (gh_preV hT hP (Nat.le_of_ble_eq_true rfl) kd18 rfl rfl) rfl rfl hl.1 rfl (lv_room (Nat.le_of_ble_eq_true rfl)) dX5_countMiss_15 ⟨Nat.zero_le _, Nat.zero_le _⟩) hS (fun H locs hP hS => ?_)
  exact b_18 (MX4_add 18 (V 24 3) (1 : Int32) V) _ _ _ (lv_sub hl [0] rfl) hP hS hs hres
def BX5_winRound_42    (V : gV) : gV := (MX5_endRound (V 24 3) V)
def PX5_winRound_42    (V : gV) : Prop := (PX5_endRound (V 24 3) V)
def BX5_winRound_24    (V : gV) : gV := BX5_winRound_42 (MX4_add 14 (V 24 3) (1 : Int32) V)
def PX5_winRound_24    (V : gV) : Prop := (PX5_winRound_42 (MX4_add 14 (V 24 3) (1 : Int32) V))
def MX5_winRound   (V : gV) : gV := BX5_winRound_24 (MX4_add 12 (V 24 3) (V 24 4) V)
def PX5_winRound   (V : gV) : Prop := (PX5_winRound_24 (MX4_add 12 (V 24 3) (V 24 4) V))
abbrev wc_X5_winRound : List Cond := Cond.code yX5_winRound cX5_winRound 1 none :: wsL_law
abbrev r_X5_winRound : Room := { frames := 4, cells := 0, slots := 0, locals := 85 }
theorem dd_X5_winRound : yX5_winRound.cls = RX5 ∧ yX5_winRound.cls ≠ "java/lang/invoke/MethodHandle" ∧ yX5_winRound.cls ≠ "java/lang/invoke/VarHandle" ∧ (parseMethodDescriptor yX5_winRound.desc).map (fun d => d.parameters.length) = some 0 := by decide +kernel
set_option maxHeartbeats 8000000 in
set_option maxRecDepth 100000 in
theorem cc_X5_winRound (l : Launch) (G : gG) (V : gV)    (hs : PX5_winRound V) : Met l yX5_winRound wc_X5_winRound r_X5_winRound (va_Pc [.ref (gA G 1)] (gW G V)) (gQV G (MX5_winRound V)) 0 0 (gF G) := by
  refine Met.ofW (cc := cX5_winRound) (maxL := 1) (ret := none) (by decide) rfl ?_
  intro p e s m args below meth c s₁ B hml hv
  obtain ⟨rfl, hP, hT⟩ := hv
  have hx := B.exec
  have hb := B.bytes
  have hr := B.returns
  have hw := gh_hw (atoms_spec (ws := wc_X5_winRound) B.pre)
  have hown : s.vm.findClass RX5 = some m.cls := findClass_of_methodNamed B.named
  have hlocks := B.notSynchronized
  have hS : va_S (gF G) s.heap s.heap [] := va_S.rf
  have hl := lv_entry ([.ref (gA G 1)]) (n := 1) (Nat.le_of_ble_eq_true rfl)
  rw [lg_entry_eq]
  generalize (lg_sl ([.ref (gA G 1)]) ++ List.replicate (1 - (lg_sl ([.ref (gA G 1)])).length) Slot.unset).toArray = ls at hl ⊢
  have hl : lv_has ls 1 [(0, .ref (gA G 1))] := hl
  obtain ⟨res, hres⟩ : ∃ r, r = MX5_winRound V := ⟨_, rfl⟩
  rw [← hres]
  show W p l e r_X5_winRound s m ([.ref (gA G 1)] : List Value).toArray below meth c s.heap [] 0 0 (MQ below (gQV G res) ([.ref (gA G 1)] : List Value).toArray s 0 0 (gF G)) (F0 m 0 ls [])
  have hs : (PX5_winRound_24 (MX4_add 12 (V 24 3) (V 24 4) V)) := hs
  have hres : res = (BX5_winRound_24 (MX4_add 12 (V 24 3) (V 24 4) V)) := hres
  have b_42 : ∀  (V : gV) (H : Heap) (locs : List Loc) (ls : Array Slot), lv_has ls 1 [(0, .ref (gA G 1))] → va_P (gD G) vwCl (gL G V) H → va_S (gF G) s.heap H locs → PX5_winRound_42   V → res = BX5_winRound_42   V → W p l e r_X5_winRound s m ([.ref (gA G 1)] : List Value).toArray below meth c H locs 0 0 (MQ below (gQV G res) ([.ref (gA G 1)] : List Value).toArray s 0 0 (gF G)) (F0 m 42 ls []) := by
    intro  V H locs ls hl hP hS hs hres
    have hs : (PX5_endRound (V 24 3) V) := hs
    have hres : res = ((MX5_endRound (V 24 3) V)) := hres
    refine lv_aload_n hx hb dX5_winRound_42 rfl (lv_at hl 0 rfl) ?_
    refine lv_aload_n hx hb dX5_winRound_43 rfl (lv_at hl 0 rfl) ?_
    refine gh_get (v := .ref (gA G 24)) (C := RX5) (T := TX5) (N := 9) hx hb hw inlX5 hown hT hP 1 (Nat.le_of_ble_eq_true rfl) kd1 rfl rfl 2 (by decide) (hw _ uw40) rfl dX5_winRound_44 ?_
    refine gh_get (v := .int (V 24 3)) (C := RX3) (T := TX3) (N := 7) hx hb hw inlX3 hown hT hP 24 (Nat.le_of_ble_eq_true rfl) kd24 rfl rfl 3 (by decide) (hw _ uw308) rfl dX5_winRound_47 ?_
    have ho_1 := hs
    refine gh_kv (va_runV (As := [.int (V 24 3)]) (rest := []) ⟨hx, hb, hml, hown, hw⟩ (cc_X5_endRound l G V (V 24 3) ho_1) (cwV 1 hw gv_RX5_171 rfl rfl rfl dd_X5_endRound ⟨Nat.le_of_ble_eq_true rfl, Nat.le_of_ble_eq_true rfl⟩) (gh_preV hT hP (Nat.le_of_ble_eq_true rfl) kd1 rfl rfl) rfl rfl hl.1 rfl (lv_room (Nat.le_of_ble_eq_true rfl)) dX5_winRound_50 ⟨Nat.zero_le _, Nat.zero_le _⟩) hS (fun H locs hP hS => ?_)
    exact gh_vret hx hb hr hlocks hP hS hT hres dX5_winRound_53
  have b_24 : ∀  (V : gV) (H : Heap) (locs : List Loc) (ls : Array Slot), lv_has ls 1 [(0, .ref (gA G 1))] → va_P (gD G) vwCl (gL G V) H → va_S (gF G) s.heap H locs → PX5_winRound_24   V → res = BX5_winRound_24   V → W p l e r_X5_winRound s m ([.ref (gA G 1)] : List Value).toArray below meth c H locs 0 0 (MQ below (gQV G res) ([.ref (gA G 1)] : List Value).toArray s 0 0 (gF G)) (F0 m 24 ls []) := by
    intro  V H locs ls hl hP hS hs hres
    have hs : (PX5_winRound_42 (MX4_add 14 (V 24 3) (1 : Int32) V)) := hs
    have hres : res = (BX5_winRound_42 (MX4_add 14 (V 24 3) (1 : Int32) V)) := hres
    refine lv_aload_n hx hb dX5_winRound_24 rfl (lv_at hl 0 rfl) ?_
    refine gh_get (v := .ref (gA G 11)) (C := RX5) (T := TX5) (N := 9) hx hb hw inlX5 hown hT hP 1 (Nat.le_of_ble_eq_true rfl) kd1 rfl rfl 1 (by decide) (hw _ uw36) rfl dX5_winRound_25 ?_
    refine gh_get (v := .ref (gA G 14)) (C := RX0) (T := TX0) (N := 7) hx hb hw inlX0 hown hT hP 11 (Nat.le_of_ble_eq_true rfl) kd11 rfl rfl 2 (by decide) (hw _ uw446) rfl dX5_winRound_28 ?_
    refine lv_aload_n hx hb dX5_winRound_31 rfl (lv_at hl 0 rfl) ?_
    refine gh_get (v := .ref (gA G 24)) (C := RX5) (T := TX5) (N := 9) hx hb hw inlX5 hown hT hP 1 (Nat.le_of_ble_eq_true rfl) kd1 rfl rfl 2 (by decide) (hw _ uw40) rfl dX5_winRound_32 ?_
    refine gh_get (v := .int (V 24 3)) (C := RX3) (T := TX3) (N := 7) hx hb hw inlX3 hown hT hP 24 (Nat.le_of_ble_eq_true rfl) kd24 rfl rfl 3 (by decide) (hw _ uw308) rfl dX5_winRound_35 ?_
    refine lv_iconst (v := 1) hx hb dX5_winRound_38 (by decide) ?_
    refine gh_kv (va_runV (As := [.int (V 24 3), .int (1 : Int32)]) (rest := []) ⟨hx, hb, hml, hown, hw⟩ (cc_X4_add l G V 14 gi14 (V 24 3) (1 : Int32)) (cwV 2 hw gv_RX5_116 rfl rfl rfl dd_X4_add ⟨Nat.le_of_ble_eq_true rfl, Nat.le_of_ble_eq_true rfl⟩) (gh_preV hT hP (Nat.le_of_ble_eq_true rfl) kd14 rfl rfl) rfl rfl hl.1 rfl (lv_room (Nat.le_of_ble_eq_true rfl)) dX5_winRound_39 ⟨Nat.zero_le _, Nat.zero_le _⟩) hS (fun H locs hP hS => ?_)
    exact b_42 (MX4_add 14 (V 24 3) (1 : Int32) V) _ _ _ (lv_sub hl [0] rfl) hP hS hs hres
  refine lv_aload_n hx hb dX5_winRound_0 rfl (lv_at hl 0 rfl) ?_
  refine gh_get (v := .ref (gA G 11)) (C := RX5) (T := TX5) (N := 9) hx hb hw inlX5 hown hT hP 1 (Nat.le_of_ble_eq_true rfl) kd1 rfl rfl 1 (by decide) (hw _ uw36) rfl dX5_winRound_1 ?_
  refine gh_get (v := .ref (gA G 12)) (C := RX0) (T := TX0) (N := 7) hx hb hw inlX0 hown hT hP 11 (Nat.le_of_ble_eq_true rfl) kd11 rfl rfl 1 (by decide) (hw _ uw430) rfl dX5_winRound_4 ?_
  refine lv_aload_n hx hb dX5_winRound_7 rfl (lv_at hl 0 rfl) ?_
  refine gh_get (v := .ref (gA G 24)) (C := RX5) (T := TX5) (N := 9) hx hb hw inlX5 hown hT hP 1 (Nat.le_of_ble_eq_true rfl) kd1 rfl rfl 2 (by decide) (hw _ uw40) rfl dX5_winRound_8 ?_
  refine gh_get (v := .int (V 24 3)) (C := RX3) (T := TX3) (N := 7) hx hb hw inlX3 hown hT hP 24 (Nat.le_of_ble_eq_true rfl) kd24 rfl rfl 3 (by decide) (hw _ uw308) rfl dX5_winRound_11 ?_
  refine lv_aload_n hx hb dX5_winRound_14 rfl (lv_at hl 0 rfl) ?_
  refine gh_get (v := .ref (gA G 24)) (C := RX5) (T := TX5) (N := 9) hx hb hw inlX5 hown hT hP 1 (Nat.le_of_ble_eq_true rfl) kd1 rfl rfl 2 (by decide) (hw _ uw40) rfl dX5_winRound_15 ?_
  refine gh_get (v := .int (V 24 4)) (C := RX3) (T := TX3) (N := 7) hx hb hw inlX3 hown hT hP 24 (Nat.le_of_ble_eq_true rfl) kd24 rfl rfl 4 (by decide) (hw _ uw309) rfl dX5_winRound_18 ?_
  refine gh_kv (va_runV (As := [.int (V 24 3), .int (V 24 4)]) (rest := []) ⟨hx, hb, hml, hown, hw⟩ (cc_X4_add l G V 12 gi12 (V 24 3) (V 24 4)) (cwV 2 hw gv_RX5_116 rfl rfl rfl dd_X4_add ⟨Nat.le_of_ble_eq_true rfl, Nat.le_of_ble_eq_true rfl⟩) (gh_preV hT hP (Nat.le_of_ble_eq_true rfl) kd12 rfl rfl) rfl rfl hl.1 rfl (lv_room (Nat.le_of_ble_eq_true rfl)) dX5_winRound_21 ⟨Nat.zero_le _, Nat.zero_le _⟩) hS (fun H locs hP hS => ?_)
  exact b_24 (MX4_add 12 (V 24 3) (V 24 4) V) _ _ _ (lv_sub hl [0] rfl) hP hS hs hres
theorem gv_RX5_128 : GoodIn wsL_law (wsV RX5 128 RX0 yX0_dropHint wc_X0_dropHint) := gh_gV uw387 uw233 uw234 uw35 uw235
theorem gv_RX5_131 : GoodIn wsL_law (wsV RX5 131 RX7 yX7_placesOf wc_X7_placesOf) := gh_gV uw388 uw389 uw390 uw31 uw391
theorem gv_RX5_135 : GoodIn wsL_law (va_wsS RX5 135 yJ6_bitCount_0f7a4 wc_J6_bitCount_0f7a4) := gh_gS uw396 uw397 uw398 uw399
theorem gv_RX5_146 : GoodIn wsL_law (wsV RX5 146 RX5 yX5_payForPlaces wc_X5_payForPlaces) := gh_gV uw426 uw427 uw428 uw14 uw429
theorem gv_RX5_150 : GoodIn wsL_law (wsV RX5 150 RX5 yX5_openPlaces wc_X5_openPlaces) := gh_gV uw437 uw438 uw439 uw14 uw440
theorem gv_RX5_157 : GoodIn wsL_law (wsV RX5 157 RX5 yX5_winRound wc_X5_winRound) := gh_gV uw442 uw443 uw444 uw14 uw445
theorem gv_RX5_140 : GoodIn wsL_law (wsV RX5 140 RX5 yX5_countMiss wc_X5_countMiss) := gh_gV uw403 uw404 uw405 uw14 uw406
def BX5_guessLetter_103   (x4 : Int32) (V : gV) : Int32 × gV := if (MX5_openPlaces V) = (MX4_at 3 (V 24 1) V) then ((x4, (MX5_winRound V))) else ((x4, V))
def PX5_guessLetter_103   (x4 : Int32) (V : gV) : Prop := (PX5_openPlaces V) ∧ (((MX5_openPlaces V) = (MX4_at 3 (V 24 1) V) → (PX5_winRound V)))
def BX5_guessLetter_95   (x2 : Int32) (x3 : Int32) (x4 : Int32) (V : gV) : Int32 × gV := BX5_guessLetter_103 x4 (MX5_payForPlaces x2 x4 x3 V)
def PX5_guessLetter_95   (x2 : Int32) (x3 : Int32) (x4 : Int32) (V : gV) : Prop := (PX5_guessLetter_103 x4 (MX5_payForPlaces x2 x4 x3 V))
def BX5_guessLetter_52   (x1 : Int32) (x2 : Int32) (x3 : Int32) (V : gV) : Int32 × gV := if (MJ6_bitCount_0f7a4 (MX7_placesOf (V 24 1) x1 V) V) = 0 then (((0 : Int32), (MX5_countMiss V))) else (BX5_guessLetter_95 x2 x3 (MJ6_bitCount_0f7a4 (MX7_placesOf (V 24 1) x1 V) V) (MX4_add 16 x2 (1 : Int32) V))
def PX5_guessLetter_52   (x1 : Int32) (x2 : Int32) (x3 : Int32) (V : gV) : Prop := (PX7_placesOf (V 24 1) x1 V) ∧ (((MJ6_bitCount_0f7a4 (MX7_placesOf (V 24 1) x1 V) V) = 0 → (PX5_countMiss V)) ∧ (¬ (MJ6_bitCount_0f7a4 (MX7_placesOf (V 24 1) x1 V) V) = 0 → (PX5_guessLetter_95 x2 x3 (MJ6_bitCount_0f7a4 (MX7_placesOf (V 24 1) x1 V) V) (MX4_add 16 x2 (1 : Int32) V))))
def BX5_guessLetter_37   (x1 : Int32) (x2 : Int32) (x3 : Int32) (V : gV) : Int32 × gV := BX5_guessLetter_52 x1 x2 x3 (gu V 24 6 ((V 24 6) ||| ((1 : Int32) <<< (x1 &&& 31))))
def PX5_guessLetter_37   (x1 : Int32) (x2 : Int32) (x3 : Int32) (V : gV) : Prop := (PX5_guessLetter_52 x1 x2 x3 (gu V 24 6 ((V 24 6) ||| ((1 : Int32) <<< (x1 &&& 31)))))
def BX5_guessLetter_28   (x1 : Int32) (x2 : Int32) (s0 : Int32) (V : gV) : Int32 × gV := BX5_guessLetter_37 x1 x2 s0 (MX0_dropHint x2 V)
def PX5_guessLetter_28   (x1 : Int32) (x2 : Int32) (s0 : Int32) (V : gV) : Prop := (PX5_guessLetter_37 x1 x2 s0 (MX0_dropHint x2 V))
def MX5_guessLetter  (a1 : Int32) (V : gV) : Int32 × gV := if (MX4_at 20 (V 24 3) V) = a1 then (BX5_guessLetter_28 a1 (V 24 3) (1 : Int32) V) else (BX5_guessLetter_28 a1 (V 24 3) (0 : Int32) V)
def PX5_guessLetter  (a1 : Int32) (V : gV) : Prop := (((MX4_at 20 (V 24 3) V) = a1 → (PX5_guessLetter_28 a1 (V 24 3) (1 : Int32) V)) ∧ (¬ (MX4_at 20 (V 24 3) V) = a1 → (PX5_guessLetter_28 a1 (V 24 3) (0 : Int32) V)))
abbrev wc_X5_guessLetter : List Cond := Cond.code yX5_guessLetter cX5_guessLetter 5 (some .int) :: wsL_law
abbrev r_X5_guessLetter : Room := { frames := 5, cells := 0, slots := 0, locals := 105 }
theorem dd_X5_guessLetter : yX5_guessLetter.cls = RX5 ∧ yX5_guessLetter.cls ≠ "java/lang/invoke/MethodHandle" ∧ yX5_guessLetter.cls ≠ "java/lang/invoke/VarHandle" ∧ (parseMethodDescriptor yX5_guessLetter.desc).map (fun d => d.parameters.length) = some 1 := by decide +kernel
set_option maxHeartbeats 8000000 in
set_option maxRecDepth 100000 in
theorem cc_X5_guessLetter (l : Launch) (G : gG) (V : gV)   (a1 : Int32) (hs : PX5_guessLetter a1 V) : Met l yX5_guessLetter wc_X5_guessLetter r_X5_guessLetter (va_Pc [.ref (gA G 1), .int a1] (gW G V)) (gQI G (MX5_guessLetter a1 V)) 0 0 (gF G) := by
  refine Met.ofW (cc := cX5_guessLetter) (maxL := 5) (ret := (some .int)) (by decide) rfl ?_
  intro p e s m args below meth c s₁ B hml hv
  obtain ⟨rfl, hP, hT⟩ := hv
  have hx := B.exec
  have hb := B.bytes
  have hr := B.returns
  have hw := gh_hw (atoms_spec (ws := wc_X5_guessLetter) B.pre)
  have hown : s.vm.findClass RX5 = some m.cls := findClass_of_methodNamed B.named
  have hlocks := B.notSynchronized
  have hS : va_S (gF G) s.heap s.heap [] := va_S.rf
  have hl := lv_entry ([.ref (gA G 1), .int a1]) (n := 5) (Nat.le_of_ble_eq_true rfl)
  rw [lg_entry_eq]
  generalize (lg_sl ([.ref (gA G 1), .int a1]) ++ List.replicate (5 - (lg_sl ([.ref (gA G 1), .int a1])).length) Slot.unset).toArray = ls at hl ⊢
  have hl : lv_has ls 5 [(0, .ref (gA G 1)), (1, .int a1)] := hl
  obtain ⟨res, hres⟩ : ∃ r, r = MX5_guessLetter a1 V := ⟨_, rfl⟩
  rw [← hres]
  show W p l e r_X5_guessLetter s m ([.ref (gA G 1), .int a1] : List Value).toArray below meth c s.heap [] 0 0 (MQ below (gQI G res) ([.ref (gA G 1), .int a1] : List Value).toArray s 0 0 (gF G)) (F0 m 0 ls [])
  have hs : (((MX4_at 20 (V 24 3) V) = a1 → (PX5_guessLetter_28 a1 (V 24 3) (1 : Int32) V)) ∧ (¬ (MX4_at 20 (V 24 3) V) = a1 → (PX5_guessLetter_28 a1 (V 24 3) (0 : Int32) V))) := hs
  have hres : res = (if (MX4_at 20 (V 24 3) V) = a1 then (BX5_guessLetter_28 a1 (V 24 3) (1 : Int32) V) else (BX5_guessLetter_28 a1 (V 24 3) (0 : Int32) V)) := hres
  have b_103 : ∀ (x4 : Int32) (V : gV) (H : Heap) (locs : List Loc) (ls : Array Slot), lv_has ls 5 [(0, .ref (gA G 1)), (4, .int x4)] → va_P (gD G) vwCl (gL G V) H → va_S (gF G) s.heap H locs → PX5_guessLetter_103  x4 V → res = BX5_guessLetter_103  x4 V → W p l e r_X5_guessLetter s m ([.ref (gA G 1), .int a1] : List Value).toArray below meth c H locs 0 0 (MQ below (gQI G res) ([.ref (gA G 1), .int a1] : List Value).toArray s 0 0 (gF G)) (F0 m 103 ls []) := by
    intro x4 V H locs ls hl hP hS hs hres
    have hs : (PX5_openPlaces V) ∧ (((MX5_openPlaces V) = (MX4_at 3 (V 24 1) V) → (PX5_winRound V))) := hs
    have hres : res = (if (MX5_openPlaces V) = (MX4_at 3 (V 24 1) V) then ((x4, (MX5_winRound V))) else ((x4, V))) := hres
    refine lv_aload_n hx hb dX5_guessLetter_103 rfl (lv_at hl 0 rfl) ?_
    obtain ⟨ho_4, hs⟩ := hs
    refine gh_kr (va_runV (As := []) (rest := []) ⟨hx, hb, hml, hown, hw⟩ (cc_X5_openPlaces l G V ho_4) (cwV 0 hw gv_RX5_150 rfl rfl rfl dd_X5_openPlaces ⟨Nat.le_of_ble_eq_true rfl, Nat.le_of_ble_eq_true rfl⟩) (gh_preV hT hP (Nat.le_of_ble_eq_true rfl) kd1 rfl rfl) rfl rfl hl.1 rfl (lv_room (Nat.le_of_ble_eq_true rfl)) dX5_guessLetter_104 ⟨Nat.zero_le _, Nat.zero_le _⟩) hS (fun H locs hP hS => ?_)
    refine lv_aload_n hx hb dX5_guessLetter_107 rfl (lv_at hl 0 rfl) ?_
    refine gh_get (v := .ref (gA G 2)) (C := RX5) (T := TX5) (N := 9) hx hb hw inlX5 hown hT hP 1 (Nat.le_of_ble_eq_true rfl) kd1 rfl rfl 0 (by decide) (hw _ uw32) rfl dX5_guessLetter_108 ?_
    refine gh_get (v := .ref (gA G 3)) (C := RX7) (T := TX7) (N := 5) hx hb hw inlX7 hown hT hP 2 (Nat.le_of_ble_eq_true rfl) kd2 rfl rfl 1 (by decide) (hw _ uw385) rfl dX5_guessLetter_111 ?_
    refine lv_aload_n hx hb dX5_guessLetter_114 rfl (lv_at hl 0 rfl) ?_
    refine gh_get (v := .ref (gA G 24)) (C := RX5) (T := TX5) (N := 9) hx hb hw inlX5 hown hT hP 1 (Nat.le_of_ble_eq_true rfl) kd1 rfl rfl 2 (by decide) (hw _ uw40) rfl dX5_guessLetter_115 ?_
    refine gh_get (v := .int (V 24 1)) (C := RX3) (T := TX3) (N := 7) hx hb hw inlX3 hown hT hP 24 (Nat.le_of_ble_eq_true rfl) kd24 rfl rfl 1 (by decide) (hw _ uw306) rfl dX5_guessLetter_118 ?_
    refine gh_kr (va_runV (As := [.int (V 24 1)]) (rest := [.int (MX5_openPlaces V)]) ⟨hx, hb, hml, hown, hw⟩ (cc_X4_at l G V 3 gi3 (V 24 1)) (cwV 1 hw gv_RX5_125 rfl rfl rfl dd_X4_at ⟨Nat.le_of_ble_eq_true rfl, Nat.le_of_ble_eq_true rfl⟩) (gh_preV hT hP (Nat.le_of_ble_eq_true rfl) kd3 rfl rfl) rfl rfl hl.1 rfl (lv_room (Nat.le_of_ble_eq_true rfl)) dX5_guessLetter_121 ⟨Nat.zero_le _, Nat.zero_le _⟩) hS (fun H locs hP hS => ?_)
    refine lv_icmp_ne (tgt := 131) hx hb dX5_guessLetter_124 (by decide) (fun c_5 => ?_) (fun c_5 => ?_)
    · have hres := hres.trans (if_neg c_5)
      refine lv_iload hx hb dX5_guessLetter_131 (lv_at hl 1 rfl) ?_
      exact gh_iret hx hb hr hlocks hP hS hT hres dX5_guessLetter_133
    have hres := hres.trans (if_pos c_5)
    have hs := hs c_5
    refine lv_aload_n hx hb dX5_guessLetter_127 rfl (lv_at hl 0 rfl) ?_
    have ho_6 := hs
    refine gh_kv (va_runV (As := []) (rest := []) ⟨hx, hb, hml, hown, hw⟩ (cc_X5_winRound l G V ho_6) (cwV 0 hw gv_RX5_157 rfl rfl rfl dd_X5_winRound ⟨Nat.le_of_ble_eq_true rfl, Nat.le_of_ble_eq_true rfl⟩) (gh_preV hT hP (Nat.le_of_ble_eq_true rfl) kd1 rfl rfl) rfl rfl hl.1 rfl (lv_room (Nat.le_of_ble_eq_true rfl)) dX5_guessLetter_128 ⟨Nat.zero_le _, Nat.zero_le _⟩) hS (fun H locs hP hS => ?_)
    refine lv_iload hx hb dX5_guessLetter_131 (lv_at hl 1 rfl) ?_
    exact gh_iret hx hb hr hlocks hP hS hT hres dX5_guessLetter_133
  have b_95 : ∀ (x2 : Int32) (x3 : Int32) (x4 : Int32) (V : gV) (H : Heap) (locs : List Loc) (ls : Array Slot), lv_has ls 5 [(0, .ref (gA G 1)), (2, .int x2), (3, .int x3), (4, .int x4)] → va_P (gD G) vwCl (gL G V) H → va_S (gF G) s.heap H locs → PX5_guessLetter_95  x2 x3 x4 V → res = BX5_guessLetter_95  x2 x3 x4 V → W p l e r_X5_guessLetter s m ([.ref (gA G 1), .int a1] : List Value).toArray below meth c H locs 0 0 (MQ below (gQI G res) ([.ref (gA G 1), .int a1] : List Value).toArray s 0 0 (gF G)) (F0 m 95 ls []) := by
    intro x2 x3 x4 V H locs ls hl hP hS hs hres
    have hs : (PX5_guessLetter_103 x4 (MX5_payForPlaces x2 x4 x3 V)) := hs
    have hres : res = (BX5_guessLetter_103 x4 (MX5_payForPlaces x2 x4 x3 V)) := hres
    refine lv_aload_n hx hb dX5_guessLetter_95 rfl (lv_at hl 0 rfl) ?_
    refine lv_iload_n hx hb dX5_guessLetter_96 rfl (lv_at hl 1 rfl) ?_
    refine lv_iload hx hb dX5_guessLetter_97 (lv_at hl 3 rfl) ?_
    refine lv_iload_n hx hb dX5_guessLetter_99 rfl (lv_at hl 2 rfl) ?_
    refine gh_kv (va_runV (As := [.int x2, .int x4, .int x3]) (rest := []) ⟨hx, hb, hml, hown, hw⟩ (cc_X5_payForPlaces l G V x2 x4 x3) (cwV 3 hw gv_RX5_146 rfl rfl rfl dd_X5_payForPlaces ⟨Nat.le_of_ble_eq_true rfl, Nat.le_of_ble_eq_true rfl⟩) (gh_preV hT hP (Nat.le_of_ble_eq_true rfl) kd1 rfl rfl) rfl rfl hl.1 rfl (lv_room (Nat.le_of_ble_eq_true rfl)) dX5_guessLetter_100 ⟨Nat.zero_le _, Nat.zero_le _⟩) hS (fun H locs hP hS => ?_)
    exact b_103 x4 (MX5_payForPlaces x2 x4 x3 V) _ _ _ (lv_sub hl [0, 3] rfl) hP hS hs hres
  have b_52 : ∀ (x1 : Int32) (x2 : Int32) (x3 : Int32) (V : gV) (H : Heap) (locs : List Loc) (ls : Array Slot), lv_has ls 5 [(0, .ref (gA G 1)), (1, .int x1), (2, .int x2), (3, .int x3)] → va_P (gD G) vwCl (gL G V) H → va_S (gF G) s.heap H locs → PX5_guessLetter_52  x1 x2 x3 V → res = BX5_guessLetter_52  x1 x2 x3 V → W p l e r_X5_guessLetter s m ([.ref (gA G 1), .int a1] : List Value).toArray below meth c H locs 0 0 (MQ below (gQI G res) ([.ref (gA G 1), .int a1] : List Value).toArray s 0 0 (gF G)) (F0 m 52 ls []) := by
    intro x1 x2 x3 V H locs ls hl hP hS hs hres
    have hs : (PX7_placesOf (V 24 1) x1 V) ∧ (((MJ6_bitCount_0f7a4 (MX7_placesOf (V 24 1) x1 V) V) = 0 → (PX5_countMiss V)) ∧ (¬ (MJ6_bitCount_0f7a4 (MX7_placesOf (V 24 1) x1 V) V) = 0 → (PX5_guessLetter_95 x2 x3 (MJ6_bitCount_0f7a4 (MX7_placesOf (V 24 1) x1 V) V) (MX4_add 16 x2 (1 : Int32) V)))) := hs
    have hres : res = (if (MJ6_bitCount_0f7a4 (MX7_placesOf (V 24 1) x1 V) V) = 0 then (((0 : Int32), (MX5_countMiss V))) else (BX5_guessLetter_95 x2 x3 (MJ6_bitCount_0f7a4 (MX7_placesOf (V 24 1) x1 V) V) (MX4_add 16 x2 (1 : Int32) V))) := hres
    refine lv_aload_n hx hb dX5_guessLetter_52 rfl (lv_at hl 0 rfl) ?_
    refine gh_get (v := .ref (gA G 2)) (C := RX5) (T := TX5) (N := 9) hx hb hw inlX5 hown hT hP 1 (Nat.le_of_ble_eq_true rfl) kd1 rfl rfl 0 (by decide) (hw _ uw32) rfl dX5_guessLetter_53 ?_
    refine lv_aload_n hx hb dX5_guessLetter_56 rfl (lv_at hl 0 rfl) ?_
    refine gh_get (v := .ref (gA G 24)) (C := RX5) (T := TX5) (N := 9) hx hb hw inlX5 hown hT hP 1 (Nat.le_of_ble_eq_true rfl) kd1 rfl rfl 2 (by decide) (hw _ uw40) rfl dX5_guessLetter_57 ?_
    refine gh_get (v := .int (V 24 1)) (C := RX3) (T := TX3) (N := 7) hx hb hw inlX3 hown hT hP 24 (Nat.le_of_ble_eq_true rfl) kd24 rfl rfl 1 (by decide) (hw _ uw306) rfl dX5_guessLetter_60 ?_
    refine lv_iload_n hx hb dX5_guessLetter_63 rfl (lv_at hl 1 rfl) ?_
    obtain ⟨ho_2, hs⟩ := hs
    refine gh_kr (va_runV (As := [.int (V 24 1), .int x1]) (rest := []) ⟨hx, hb, hml, hown, hw⟩ (cc_X7_placesOf l G V (V 24 1) x1 ho_2) (cwV 2 hw gv_RX5_131 rfl rfl rfl dd_X7_placesOf ⟨Nat.le_of_ble_eq_true rfl, Nat.le_of_ble_eq_true rfl⟩) (gh_preV hT hP (Nat.le_of_ble_eq_true rfl) kd2 rfl rfl) rfl rfl hl.1 rfl (lv_room (Nat.le_of_ble_eq_true rfl)) dX5_guessLetter_64 ⟨Nat.zero_le _, Nat.zero_le _⟩) hS (fun H locs hP hS => ?_)
    refine gh_kr (va_runS (As := [.int (MX7_placesOf (V 24 1) x1 V)]) (rest := []) ⟨hx, hb, hml, hown, hw⟩ (cc_J6_bitCount_0f7a4 l G V (MX7_placesOf (V 24 1) x1 V)) (va_cwS 1 hw gv_RX5_135 rfl rfl rfl dd_J6_bitCount_0f7a4.2 ⟨Nat.le_of_ble_eq_true rfl, Nat.le_of_ble_eq_true rfl⟩) (gh_pre hT hP) rfl rfl hl.1 rfl (lv_room (Nat.le_of_ble_eq_true rfl)) dX5_guessLetter_67 ⟨Nat.zero_le _, Nat.zero_le _⟩) hS (fun H locs hP hS => ?_)
    refine lv_istore (lv' := [(4, .int (MJ6_bitCount_0f7a4 (MX7_placesOf (V 24 1) x1 V) V)), (0, .ref (gA G 1)), (1, .int x1), (2, .int x2), (3, .int x3)]) hx hb dX5_guessLetter_70 hl (by decide) rfl (fun ls hl => ?_)
    refine lv_iload hx hb dX5_guessLetter_72 (lv_at hl 0 rfl) ?_
    refine lv_if_ne (tgt := 83) hx hb dX5_guessLetter_74 (by decide) (fun c_3 => ?_) (fun c_3 => ?_)
    · have hres := hres.trans (if_neg c_3)
      have hs := hs.2 c_3
      refine lv_aload_n hx hb dX5_guessLetter_83 rfl (lv_at hl 1 rfl) ?_
      refine gh_get (v := .ref (gA G 11)) (C := RX5) (T := TX5) (N := 9) hx hb hw inlX5 hown hT hP 1 (Nat.le_of_ble_eq_true rfl) kd1 rfl rfl 1 (by decide) (hw _ uw36) rfl dX5_guessLetter_84 ?_
      refine gh_get (v := .ref (gA G 16)) (C := RX0) (T := TX0) (N := 7) hx hb hw inlX0 hown hT hP 11 (Nat.le_of_ble_eq_true rfl) kd11 rfl rfl 3 (by decide) (hw _ uw384) rfl dX5_guessLetter_87 ?_
      refine lv_iload_n hx hb dX5_guessLetter_90 rfl (lv_at hl 3 rfl) ?_
      refine lv_iconst (v := 1) hx hb dX5_guessLetter_91 (by decide) ?_
      refine gh_kv (va_runV (As := [.int x2, .int (1 : Int32)]) (rest := []) ⟨hx, hb, hml, hown, hw⟩ (cc_X4_add l G V 16 gi16 x2 (1 : Int32)) (cwV 2 hw gv_RX5_116 rfl rfl rfl dd_X4_add ⟨Nat.le_of_ble_eq_true rfl, Nat.le_of_ble_eq_true rfl⟩) (gh_preV hT hP (Nat.le_of_ble_eq_true rfl) kd16 rfl rfl) rfl rfl hl.1 rfl (lv_room (Nat.le_of_ble_eq_true rfl)) dX5_guessLetter_92 ⟨Nat.zero_le _, Nat.zero_le _⟩) hS (fun H locs hP hS => ?_)
      exact b_95 x2 x3 (MJ6_bitCount_0f7a4 (MX7_placesOf (V 24 1) x1 V) V) (MX4_add 16 x2 (1 : Int32) V) _ _ _ (lv_sub hl [1, 3, 4, 0] rfl) hP hS hs hres
    have hres := hres.trans (if_pos c_3)
    have hs := hs.1 c_3
    refine lv_aload_n hx hb dX5_guessLetter_77 rfl (lv_at hl 1 rfl) ?_
    have ho_7 := hs
    refine gh_kv (va_runV (As := []) (rest := []) ⟨hx, hb, hml, hown, hw⟩ (cc_X5_countMiss l G V ho_7) (cwV 0 hw gv_RX5_140 rfl rfl rfl dd_X5_countMiss ⟨Nat.le_of_ble_eq_true rfl, Nat.le_of_ble_eq_true rfl⟩) (gh_preV hT hP (Nat.le_of_ble_eq_true rfl) kd1 rfl rfl) rfl rfl hl.1 rfl (lv_room (Nat.le_of_ble_eq_true rfl)) dX5_guessLetter_78 ⟨Nat.zero_le _, Nat.zero_le _⟩) hS (fun H locs hP hS => ?_)
    refine lv_iconst (v := 0) hx hb dX5_guessLetter_81 (by decide) ?_
    exact gh_iret hx hb hr hlocks hP hS hT hres dX5_guessLetter_82
  have b_37 : ∀ (x1 : Int32) (x2 : Int32) (x3 : Int32) (V : gV) (H : Heap) (locs : List Loc) (ls : Array Slot), lv_has ls 5 [(0, .ref (gA G 1)), (1, .int x1), (2, .int x2), (3, .int x3)] → va_P (gD G) vwCl (gL G V) H → va_S (gF G) s.heap H locs → PX5_guessLetter_37  x1 x2 x3 V → res = BX5_guessLetter_37  x1 x2 x3 V → W p l e r_X5_guessLetter s m ([.ref (gA G 1), .int a1] : List Value).toArray below meth c H locs 0 0 (MQ below (gQI G res) ([.ref (gA G 1), .int a1] : List Value).toArray s 0 0 (gF G)) (F0 m 37 ls []) := by
    intro x1 x2 x3 V H locs ls hl hP hS hs hres
    have hs : (PX5_guessLetter_52 x1 x2 x3 (gu V 24 6 ((V 24 6) ||| ((1 : Int32) <<< (x1 &&& 31))))) := hs
    have hres : res = (BX5_guessLetter_52 x1 x2 x3 (gu V 24 6 ((V 24 6) ||| ((1 : Int32) <<< (x1 &&& 31))))) := hres
    refine lv_aload_n hx hb dX5_guessLetter_37 rfl (lv_at hl 0 rfl) ?_
    refine gh_get (v := .ref (gA G 24)) (C := RX5) (T := TX5) (N := 9) hx hb hw inlX5 hown hT hP 1 (Nat.le_of_ble_eq_true rfl) kd1 rfl rfl 2 (by decide) (hw _ uw40) rfl dX5_guessLetter_38 ?_
    refine lv_dup hx hb dX5_guessLetter_41 rfl ?_
    refine gh_get (v := .int (V 24 6)) (C := RX3) (T := TX3) (N := 7) hx hb hw inlX3 hown hT hP 24 (Nat.le_of_ble_eq_true rfl) kd24 rfl rfl 6 (by decide) (hw _ uw311) rfl dX5_guessLetter_42 ?_
    refine lv_iconst (v := 1) hx hb dX5_guessLetter_45 (by decide) ?_
    refine lv_iload_n hx hb dX5_guessLetter_46 rfl (lv_at hl 1 rfl) ?_
    refine lv_ishl hx hb dX5_guessLetter_47 ?_
    refine lv_ior hx hb dX5_guessLetter_48 ?_
    refine gh_put (ty := .int) (x := ((V 24 6) ||| ((1 : Int32) <<< (x1 &&& 31)))) (C := RX3) (T := TX3) (N := 7) hx hb hw inlX3 tyX3_ok nmX3 hown hT hP hS 24 (Nat.le_of_ble_eq_true rfl) kd24 rfl rfl 6 (by decide) (hw _ uw311) rfl (by decide +kernel) rfl rfl (Nat.le_of_ble_eq_true rfl) rfl dX5_guessLetter_49 (fun H locs hP hS => ?_)
    exact b_52 x1 x2 x3 (gu V 24 6 ((V 24 6) ||| ((1 : Int32) <<< (x1 &&& 31)))) _ _ _ (lv_sub hl [0, 1, 2, 3] rfl) hP hS hs hres
  have b_28 : ∀ (x1 : Int32) (x2 : Int32) (s0 : Int32) (V : gV) (H : Heap) (locs : List Loc) (ls : Array Slot), lv_has ls 5 [(0, .ref (gA G 1)), (1, .int x1), (2, .int x2)] → va_P (gD G) vwCl (gL G V) H → va_S (gF G) s.heap H locs → PX5_guessLetter_28  x1 x2 s0 V → res = BX5_guessLetter_28  x1 x2 s0 V → W p l e r_X5_guessLetter s m ([.ref (gA G 1), .int a1] : List Value).toArray below meth c H locs 0 0 (MQ below (gQI G res) ([.ref (gA G 1), .int a1] : List Value).toArray s 0 0 (gF G)) (F0 m 28 ls [.int s0]) := by
    intro x1 x2 s0 V H locs ls hl hP hS hs hres
    have hs : (PX5_guessLetter_37 x1 x2 s0 (MX0_dropHint x2 V)) := hs
    have hres : res = (BX5_guessLetter_37 x1 x2 s0 (MX0_dropHint x2 V)) := hres
    refine lv_istore_n (lv' := [(3, .int s0), (0, .ref (gA G 1)), (1, .int x1), (2, .int x2)]) hx hb dX5_guessLetter_28 rfl hl (by decide) rfl (fun ls hl => ?_)
    refine lv_aload_n hx hb dX5_guessLetter_29 rfl (lv_at hl 1 rfl) ?_
    refine gh_get (v := .ref (gA G 11)) (C := RX5) (T := TX5) (N := 9) hx hb hw inlX5 hown hT hP 1 (Nat.le_of_ble_eq_true rfl) kd1 rfl rfl 1 (by decide) (hw _ uw36) rfl dX5_guessLetter_30 ?_
    refine lv_iload_n hx hb dX5_guessLetter_33 rfl (lv_at hl 3 rfl) ?_
    refine gh_kv (va_runV (As := [.int x2]) (rest := []) ⟨hx, hb, hml, hown, hw⟩ (cc_X0_dropHint l G V x2) (cwV 1 hw gv_RX5_128 rfl rfl rfl dd_X0_dropHint ⟨Nat.le_of_ble_eq_true rfl, Nat.le_of_ble_eq_true rfl⟩) (gh_preV hT hP (Nat.le_of_ble_eq_true rfl) kd11 rfl rfl) rfl rfl hl.1 rfl (lv_room (Nat.le_of_ble_eq_true rfl)) dX5_guessLetter_34 ⟨Nat.zero_le _, Nat.zero_le _⟩) hS (fun H locs hP hS => ?_)
    exact b_37 x1 x2 s0 (MX0_dropHint x2 V) _ _ _ (lv_sub hl [1, 2, 3, 0] rfl) hP hS hs hres
  refine lv_aload_n hx hb dX5_guessLetter_0 rfl (lv_at hl 0 rfl) ?_
  refine gh_get (v := .ref (gA G 24)) (C := RX5) (T := TX5) (N := 9) hx hb hw inlX5 hown hT hP 1 (Nat.le_of_ble_eq_true rfl) kd1 rfl rfl 2 (by decide) (hw _ uw40) rfl dX5_guessLetter_1 ?_
  refine gh_get (v := .int (V 24 3)) (C := RX3) (T := TX3) (N := 7) hx hb hw inlX3 hown hT hP 24 (Nat.le_of_ble_eq_true rfl) kd24 rfl rfl 3 (by decide) (hw _ uw308) rfl dX5_guessLetter_4 ?_
  refine lv_istore_n (lv' := [(2, .int (V 24 3)), (0, .ref (gA G 1)), (1, .int a1)]) hx hb dX5_guessLetter_7 rfl hl (by decide) rfl (fun ls hl => ?_)
  refine lv_aload_n hx hb dX5_guessLetter_8 rfl (lv_at hl 1 rfl) ?_
  refine gh_get (v := .ref (gA G 11)) (C := RX5) (T := TX5) (N := 9) hx hb hw inlX5 hown hT hP 1 (Nat.le_of_ble_eq_true rfl) kd1 rfl rfl 1 (by decide) (hw _ uw36) rfl dX5_guessLetter_9 ?_
  refine gh_get (v := .ref (gA G 20)) (C := RX0) (T := TX0) (N := 7) hx hb hw inlX0 hown hT hP 11 (Nat.le_of_ble_eq_true rfl) kd11 rfl rfl 5 (by decide) (hw _ uw383) rfl dX5_guessLetter_12 ?_
  refine lv_iload_n hx hb dX5_guessLetter_15 rfl (lv_at hl 0 rfl) ?_
  refine gh_kr (va_runV (As := [.int (V 24 3)]) (rest := []) ⟨hx, hb, hml, hown, hw⟩ (cc_X4_at l G V 20 gi20 (V 24 3)) (cwV 1 hw gv_RX5_125 rfl rfl rfl dd_X4_at ⟨Nat.le_of_ble_eq_true rfl, Nat.le_of_ble_eq_true rfl⟩) (gh_preV hT hP (Nat.le_of_ble_eq_true rfl) kd20 rfl rfl) rfl rfl hl.1 rfl (lv_room (Nat.le_of_ble_eq_true rfl)) dX5_guessLetter_16 ⟨Nat.zero_le _, Nat.zero_le _⟩) hS (fun H locs hP hS => ?_)
  refine lv_iload_n hx hb dX5_guessLetter_19 rfl (lv_at hl 2 rfl) ?_
  refine lv_icmp_ne (tgt := 27) hx hb dX5_guessLetter_20 (by decide) (fun c_1 => ?_) (fun c_1 => ?_)
  · have hres := hres.trans (if_neg c_1)
    have hs := hs.2 c_1
    refine lv_iconst (v := 0) hx hb dX5_guessLetter_27 (by decide) ?_
    exact b_28 a1 (V 24 3) (0 : Int32) V _ _ _ (lv_sub hl [1, 2, 0] rfl) hP hS hs hres
  have hres := hres.trans (if_pos c_1)
  have hs := hs.1 c_1
  refine lv_iconst (v := 1) hx hb dX5_guessLetter_23 (by decide) ?_
  refine lv_goto (tgt := 28) hx hb dX5_guessLetter_24 (by decide) ?_
  exact b_28 a1 (V 24 3) (1 : Int32) V _ _ _ (lv_sub hl [1, 2, 0] rfl) hP hS hs hres
def MX5_tellWord  (a1 : Int32) (V : gV) : Int32 × gV := if a1 = (V 24 1) then (((1 : Int32), (MX5_winRound V))) else (((0 : Int32), (MX5_countMiss V)))
def PX5_tellWord  (a1 : Int32) (V : gV) : Prop := ((a1 = (V 24 1) → (PX5_winRound V)) ∧ (¬ a1 = (V 24 1) → (PX5_countMiss V)))
abbrev wc_X5_tellWord : List Cond := Cond.code yX5_tellWord cX5_tellWord 2 (some .boolean) :: wsL_law
abbrev r_X5_tellWord : Room := { frames := 5, cells := 0, slots := 0, locals := 105 }
theorem dd_X5_tellWord : yX5_tellWord.cls = RX5 ∧ yX5_tellWord.cls ≠ "java/lang/invoke/MethodHandle" ∧ yX5_tellWord.cls ≠ "java/lang/invoke/VarHandle" ∧ (parseMethodDescriptor yX5_tellWord.desc).map (fun d => d.parameters.length) = some 1 := by decide +kernel
set_option maxHeartbeats 8000000 in
set_option maxRecDepth 100000 in
theorem cc_X5_tellWord (l : Launch) (G : gG) (V : gV)   (a1 : Int32) (hs : PX5_tellWord a1 V) : Met l yX5_tellWord wc_X5_tellWord r_X5_tellWord (va_Pc [.ref (gA G 1), .int a1] (gW G V)) (gQI G (MX5_tellWord a1 V)) 0 0 (gF G) := by
  refine Met.ofW (cc := cX5_tellWord) (maxL := 2) (ret := (some .boolean)) (by decide) rfl ?_
  intro p e s m args below meth c s₁ B hml hv
  obtain ⟨rfl, hP, hT⟩ := hv
  have hx := B.exec
  have hb := B.bytes
  have hr := B.returns
  have hw := gh_hw (atoms_spec (ws := wc_X5_tellWord) B.pre)
  have hown : s.vm.findClass RX5 = some m.cls := findClass_of_methodNamed B.named
  have hlocks := B.notSynchronized
  have hS : va_S (gF G) s.heap s.heap [] := va_S.rf
  have hl := lv_entry ([.ref (gA G 1), .int a1]) (n := 2) (Nat.le_of_ble_eq_true rfl)
  rw [lg_entry_eq]
  generalize (lg_sl ([.ref (gA G 1), .int a1]) ++ List.replicate (2 - (lg_sl ([.ref (gA G 1), .int a1])).length) Slot.unset).toArray = ls at hl ⊢
  have hl : lv_has ls 2 [(0, .ref (gA G 1)), (1, .int a1)] := hl
  obtain ⟨res, hres⟩ : ∃ r, r = MX5_tellWord a1 V := ⟨_, rfl⟩
  rw [← hres]
  show W p l e r_X5_tellWord s m ([.ref (gA G 1), .int a1] : List Value).toArray below meth c s.heap [] 0 0 (MQ below (gQI G res) ([.ref (gA G 1), .int a1] : List Value).toArray s 0 0 (gF G)) (F0 m 0 ls [])
  have hs : ((a1 = (V 24 1) → (PX5_winRound V)) ∧ (¬ a1 = (V 24 1) → (PX5_countMiss V))) := hs
  have hres : res = (if a1 = (V 24 1) then (((1 : Int32), (MX5_winRound V))) else (((0 : Int32), (MX5_countMiss V)))) := hres
  refine lv_iload_n hx hb dX5_tellWord_0 rfl (lv_at hl 1 rfl) ?_
  refine lv_aload_n hx hb dX5_tellWord_1 rfl (lv_at hl 0 rfl) ?_
  refine gh_get (v := .ref (gA G 24)) (C := RX5) (T := TX5) (N := 9) hx hb hw inlX5 hown hT hP 1 (Nat.le_of_ble_eq_true rfl) kd1 rfl rfl 2 (by decide) (hw _ uw40) rfl dX5_tellWord_2 ?_
  refine gh_get (v := .int (V 24 1)) (C := RX3) (T := TX3) (N := 7) hx hb hw inlX3 hown hT hP 24 (Nat.le_of_ble_eq_true rfl) kd24 rfl rfl 1 (by decide) (hw _ uw306) rfl dX5_tellWord_5 ?_
  refine lv_icmp_eq (tgt := 17) hx hb dX5_tellWord_8 (by decide) (fun c_1 => ?_) (fun c_1 => ?_)
  · have hres := hres.trans (if_pos c_1)
    have hs := hs.1 c_1
    refine lv_aload_n hx hb dX5_tellWord_17 rfl (lv_at hl 0 rfl) ?_
    have ho_2 := hs
    refine gh_kv (va_runV (As := []) (rest := []) ⟨hx, hb, hml, hown, hw⟩ (cc_X5_winRound l G V ho_2) (cwV 0 hw gv_RX5_157 rfl rfl rfl dd_X5_winRound ⟨Nat.le_of_ble_eq_true rfl, Nat.le_of_ble_eq_true rfl⟩) (gh_preV hT hP (Nat.le_of_ble_eq_true rfl) kd1 rfl rfl) rfl rfl hl.1 rfl (lv_room (Nat.le_of_ble_eq_true rfl)) dX5_tellWord_18 ⟨Nat.zero_le _, Nat.zero_le _⟩) hS (fun H locs hP hS => ?_)
    refine lv_iconst (v := 1) hx hb dX5_tellWord_21 (by decide) ?_
    exact gh_zret hx hb hr rfl hlocks hP hS hT hres dX5_tellWord_22
  have hres := hres.trans (if_neg c_1)
  have hs := hs.2 c_1
  refine lv_aload_n hx hb dX5_tellWord_11 rfl (lv_at hl 0 rfl) ?_
  have ho_3 := hs
  refine gh_kv (va_runV (As := []) (rest := []) ⟨hx, hb, hml, hown, hw⟩ (cc_X5_countMiss l G V ho_3) (cwV 0 hw gv_RX5_140 rfl rfl rfl dd_X5_countMiss ⟨Nat.le_of_ble_eq_true rfl, Nat.le_of_ble_eq_true rfl⟩) (gh_preV hT hP (Nat.le_of_ble_eq_true rfl) kd1 rfl rfl) rfl rfl hl.1 rfl (lv_room (Nat.le_of_ble_eq_true rfl)) dX5_tellWord_12 ⟨Nat.zero_le _, Nat.zero_le _⟩) hS (fun H locs hP hS => ?_)
  refine lv_iconst (v := 0) hx hb dX5_tellWord_15 (by decide) ?_
  exact gh_zret hx hb hr rfl hlocks hP hS hT hres dX5_tellWord_16
theorem gv_RX5_191 : GoodIn wsL_law (wsV RX5 191 RX7 yX7_fitting wc_X7_fitting) := gh_gV uw516 uw517 uw518 uw31 uw519
def MX5_fitting   (V : gV) : Int32 := (MX7_fitting (V 24 1) (V 24 6) V)
def PX5_fitting   (V : gV) : Prop := (PX7_fitting (V 24 1) (V 24 6) V)
abbrev wc_X5_fitting : List Cond := Cond.code yX5_fitting cX5_fitting 1 (some .int) :: wsL_law
abbrev r_X5_fitting : Room := { frames := 4, cells := 0, slots := 0, locals := 95 }
theorem dd_X5_fitting : yX5_fitting.cls = RX5 ∧ yX5_fitting.cls ≠ "java/lang/invoke/MethodHandle" ∧ yX5_fitting.cls ≠ "java/lang/invoke/VarHandle" ∧ (parseMethodDescriptor yX5_fitting.desc).map (fun d => d.parameters.length) = some 0 := by decide +kernel
set_option maxHeartbeats 8000000 in
set_option maxRecDepth 100000 in
theorem cc_X5_fitting (l : Launch) (G : gG) (V : gV)    (hs : PX5_fitting V) : Met l yX5_fitting wc_X5_fitting r_X5_fitting (va_Pc [.ref (gA G 1)] (gW G V)) (gQR G (MX5_fitting V) V) 0 0 (gF G) := by
  refine Met.ofW (cc := cX5_fitting) (maxL := 1) (ret := (some .int)) (by decide) rfl ?_
  intro p e s m args below meth c s₁ B hml hv
  obtain ⟨rfl, hP, hT⟩ := hv
  have hx := B.exec
  have hb := B.bytes
  have hr := B.returns
  have hw := gh_hw (atoms_spec (ws := wc_X5_fitting) B.pre)
  have hown : s.vm.findClass RX5 = some m.cls := findClass_of_methodNamed B.named
  have hlocks := B.notSynchronized
  have hS : va_S (gF G) s.heap s.heap [] := va_S.rf
  have hl := lv_entry ([.ref (gA G 1)]) (n := 1) (Nat.le_of_ble_eq_true rfl)
  rw [lg_entry_eq]
  generalize (lg_sl ([.ref (gA G 1)]) ++ List.replicate (1 - (lg_sl ([.ref (gA G 1)])).length) Slot.unset).toArray = ls at hl ⊢
  have hl : lv_has ls 1 [(0, .ref (gA G 1))] := hl
  obtain ⟨res, hres⟩ : ∃ r, r = MX5_fitting V := ⟨_, rfl⟩
  rw [← hres]
  show W p l e r_X5_fitting s m ([.ref (gA G 1)] : List Value).toArray below meth c s.heap [] 0 0 (MQ below (gQR G res V) ([.ref (gA G 1)] : List Value).toArray s 0 0 (gF G)) (F0 m 0 ls [])
  have hs : (PX7_fitting (V 24 1) (V 24 6) V) := hs
  have hres : res = ((MX7_fitting (V 24 1) (V 24 6) V)) := hres
  refine lv_aload_n hx hb dX5_fitting_0 rfl (lv_at hl 0 rfl) ?_
  refine gh_get (v := .ref (gA G 2)) (C := RX5) (T := TX5) (N := 9) hx hb hw inlX5 hown hT hP 1 (Nat.le_of_ble_eq_true rfl) kd1 rfl rfl 0 (by decide) (hw _ uw32) rfl dX5_fitting_1 ?_
  refine lv_aload_n hx hb dX5_fitting_4 rfl (lv_at hl 0 rfl) ?_
  refine gh_get (v := .ref (gA G 24)) (C := RX5) (T := TX5) (N := 9) hx hb hw inlX5 hown hT hP 1 (Nat.le_of_ble_eq_true rfl) kd1 rfl rfl 2 (by decide) (hw _ uw40) rfl dX5_fitting_5 ?_
  refine gh_get (v := .int (V 24 1)) (C := RX3) (T := TX3) (N := 7) hx hb hw inlX3 hown hT hP 24 (Nat.le_of_ble_eq_true rfl) kd24 rfl rfl 1 (by decide) (hw _ uw306) rfl dX5_fitting_8 ?_
  refine lv_aload_n hx hb dX5_fitting_11 rfl (lv_at hl 0 rfl) ?_
  refine gh_get (v := .ref (gA G 24)) (C := RX5) (T := TX5) (N := 9) hx hb hw inlX5 hown hT hP 1 (Nat.le_of_ble_eq_true rfl) kd1 rfl rfl 2 (by decide) (hw _ uw40) rfl dX5_fitting_12 ?_
  refine gh_get (v := .int (V 24 6)) (C := RX3) (T := TX3) (N := 7) hx hb hw inlX3 hown hT hP 24 (Nat.le_of_ble_eq_true rfl) kd24 rfl rfl 6 (by decide) (hw _ uw311) rfl dX5_fitting_15 ?_
  have ho_1 := hs
  refine gh_kr (va_runV (As := [.int (V 24 1), .int (V 24 6)]) (rest := []) ⟨hx, hb, hml, hown, hw⟩ (cc_X7_fitting l G V (V 24 1) (V 24 6) ho_1) (cwV 2 hw gv_RX5_191 rfl rfl rfl dd_X7_fitting ⟨Nat.le_of_ble_eq_true rfl, Nat.le_of_ble_eq_true rfl⟩) (gh_preV hT hP (Nat.le_of_ble_eq_true rfl) kd2 rfl rfl) rfl rfl hl.1 rfl (lv_room (Nat.le_of_ble_eq_true rfl)) dX5_fitting_18 ⟨Nat.zero_le _, Nat.zero_le _⟩) hS (fun H locs hP hS => ?_)
  exact gh_iretR hx hb hr hlocks hP hS hT hres dX5_fitting_21
theorem gv_RX5_194 : GoodIn wsL_law (wsV RX5 194 RX3 yX3_takes wc_X3_takes) := gh_gV uw618 uw376 uw377 uw39 uw378
theorem gv_RX5_197 : GoodIn wsL_law (wsV RX5 197 RX7 yX7_weightHaving wc_X7_weightHaving) := gh_gV uw619 uw620 uw621 uw31 uw622
def BX5_likeliestLetter_54  (K7 : Int32 → Int32 → Int32 → Int32 → gV → Int32) (x1 : Int32) (x2 : Int32) (x3 : Int32) (x4 : Int32) (V : gV) : Int32 := K7 x1 x2 x3 (x4 + (1 : Int32)) V
def PX5_likeliestLetter_54  (KP7 : Int32 → Int32 → Int32 → Int32 → gV → Prop) (x1 : Int32) (x2 : Int32) (x3 : Int32) (x4 : Int32) (V : gV) : Prop := (KP7 x1 x2 x3 (x4 + (1 : Int32)) V)
def BX5_likeliestLetter_40  (K7 : Int32 → Int32 → Int32 → Int32 → gV → Int32) (x1 : Int32) (x2 : Int32) (x3 : Int32) (x4 : Int32) (s0 : Int32) (V : gV) : Int32 := if s0 ≤ x3 then (BX5_likeliestLetter_54 K7 x1 x2 x3 x4 V) else (BX5_likeliestLetter_54 K7 x1 x4 s0 x4 V)
def PX5_likeliestLetter_40  (KP7 : Int32 → Int32 → Int32 → Int32 → gV → Prop) (x1 : Int32) (x2 : Int32) (x3 : Int32) (x4 : Int32) (s0 : Int32) (V : gV) : Prop := ((s0 ≤ x3 → (PX5_likeliestLetter_54 KP7 x1 x2 x3 x4 V)) ∧ (¬ s0 ≤ x3 → (PX5_likeliestLetter_54 KP7 x1 x4 s0 x4 V)))
def BX5_likeliestLetter_7   : Nat → Int32 → Int32 → Int32 → Int32 → gV → Int32
  | 0, _, _, _, _, _ => 0
  | n + 1, x1, x2, x3, x4, V => if (26 : Int32) ≤ x4 then (x2) else (if (MX3_takes x4 V) = 0 then (BX5_likeliestLetter_40 (BX5_likeliestLetter_7 n) x1 x2 x3 x4 (-1 : Int32) V) else (BX5_likeliestLetter_40 (BX5_likeliestLetter_7 n) x1 x2 x3 x4 (MX7_weightHaving x1 x4 V) V))
def PX5_likeliestLetter_7   : Nat → Int32 → Int32 → Int32 → Int32 → gV → Prop
  | 0, _, _, _, _, _ => False
  | n + 1, x1, x2, x3, x4, V => ((¬ (26 : Int32) ≤ x4 → (((MX3_takes x4 V) = 0 → (PX5_likeliestLetter_40 (PX5_likeliestLetter_7 n) x1 x2 x3 x4 (-1 : Int32) V)) ∧ (¬ (MX3_takes x4 V) = 0 → (PX7_weightHaving x1 x4 V) ∧ (PX5_likeliestLetter_40 (PX5_likeliestLetter_7 n) x1 x2 x3 x4 (MX7_weightHaving x1 x4 V) V)))))
def MX5_likeliestLetter  (a1 : Int32) (V : gV) : Int32 := BX5_likeliestLetter_7 1000 a1 (0 : Int32) (-1 : Int32) (0 : Int32) V
def PX5_likeliestLetter  (a1 : Int32) (V : gV) : Prop := (PX5_likeliestLetter_7 1000 a1 (0 : Int32) (-1 : Int32) (0 : Int32) V)
abbrev wc_X5_likeliestLetter : List Cond := Cond.code yX5_likeliestLetter cX5_likeliestLetter 6 (some .int) :: wsL_law
abbrev r_X5_likeliestLetter : Room := { frames := 4, cells := 0, slots := 0, locals := 92 }
theorem dd_X5_likeliestLetter : yX5_likeliestLetter.cls = RX5 ∧ yX5_likeliestLetter.cls ≠ "java/lang/invoke/MethodHandle" ∧ yX5_likeliestLetter.cls ≠ "java/lang/invoke/VarHandle" ∧ (parseMethodDescriptor yX5_likeliestLetter.desc).map (fun d => d.parameters.length) = some 1 := by decide +kernel
set_option maxHeartbeats 8000000 in
set_option maxRecDepth 100000 in
theorem cc_X5_likeliestLetter (l : Launch) (G : gG) (V : gV)   (a1 : Int32) (hs : PX5_likeliestLetter a1 V) : Met l yX5_likeliestLetter wc_X5_likeliestLetter r_X5_likeliestLetter (va_Pc [.ref (gA G 1), .int a1] (gW G V)) (gQR G (MX5_likeliestLetter a1 V) V) 0 0 (gF G) := by
  refine Met.ofW (cc := cX5_likeliestLetter) (maxL := 6) (ret := (some .int)) (by decide) rfl ?_
  intro p e s m args below meth c s₁ B hml hv
  obtain ⟨rfl, hP, hT⟩ := hv
  have hx := B.exec
  have hb := B.bytes
  have hr := B.returns
  have hw := gh_hw (atoms_spec (ws := wc_X5_likeliestLetter) B.pre)
  have hown : s.vm.findClass RX5 = some m.cls := findClass_of_methodNamed B.named
  have hlocks := B.notSynchronized
  have hS : va_S (gF G) s.heap s.heap [] := va_S.rf
  have hl := lv_entry ([.ref (gA G 1), .int a1]) (n := 6) (Nat.le_of_ble_eq_true rfl)
  rw [lg_entry_eq]
  generalize (lg_sl ([.ref (gA G 1), .int a1]) ++ List.replicate (6 - (lg_sl ([.ref (gA G 1), .int a1])).length) Slot.unset).toArray = ls at hl ⊢
  have hl : lv_has ls 6 [(0, .ref (gA G 1)), (1, .int a1)] := hl
  obtain ⟨res, hres⟩ : ∃ r, r = MX5_likeliestLetter a1 V := ⟨_, rfl⟩
  rw [← hres]
  show W p l e r_X5_likeliestLetter s m ([.ref (gA G 1), .int a1] : List Value).toArray below meth c s.heap [] 0 0 (MQ below (gQR G res V) ([.ref (gA G 1), .int a1] : List Value).toArray s 0 0 (gF G)) (F0 m 0 ls [])
  have hs : (PX5_likeliestLetter_7 1000 a1 (0 : Int32) (-1 : Int32) (0 : Int32) V) := hs
  have hres : res = (BX5_likeliestLetter_7 1000 a1 (0 : Int32) (-1 : Int32) (0 : Int32) V) := hres
  have b_7 : ∀ (n : Nat) (x1 : Int32) (x2 : Int32) (x3 : Int32) (x4 : Int32) (H : Heap) (locs : List Loc) (ls : Array Slot), lv_has ls 6 [(0, .ref (gA G 1)), (1, .int x1), (2, .int x2), (3, .int x3), (4, .int x4)] → va_P (gD G) vwCl (gL G V) H → va_S (gF G) s.heap H locs → PX5_likeliestLetter_7  n x1 x2 x3 x4 V → res = BX5_likeliestLetter_7  n x1 x2 x3 x4 V → W p l e r_X5_likeliestLetter s m ([.ref (gA G 1), .int a1] : List Value).toArray below meth c H locs 0 0 (MQ below (gQR G res V) ([.ref (gA G 1), .int a1] : List Value).toArray s 0 0 (gF G)) (F0 m 7 ls []) := by
    intro n
    induction n with
    | zero =>
      intro x1 x2 x3 x4 H locs ls hl hP hS hs hres
      exact (show False from hs).elim
    | succ n7 ih7 =>
      have b_54 : ∀ (x1 : Int32) (x2 : Int32) (x3 : Int32) (x4 : Int32) (H : Heap) (locs : List Loc) (ls : Array Slot), lv_has ls 6 [(0, .ref (gA G 1)), (1, .int x1), (2, .int x2), (3, .int x3), (4, .int x4)] → va_P (gD G) vwCl (gL G V) H → va_S (gF G) s.heap H locs → PX5_likeliestLetter_54 (PX5_likeliestLetter_7 n7) x1 x2 x3 x4 V → res = BX5_likeliestLetter_54 (BX5_likeliestLetter_7 n7) x1 x2 x3 x4 V → W p l e r_X5_likeliestLetter s m ([.ref (gA G 1), .int a1] : List Value).toArray below meth c H locs 0 0 (MQ below (gQR G res V) ([.ref (gA G 1), .int a1] : List Value).toArray s 0 0 (gF G)) (F0 m 54 ls []) := by
        intro x1 x2 x3 x4 H locs ls hl hP hS hs hres
        have hs : ((PX5_likeliestLetter_7 n7) x1 x2 x3 (x4 + (1 : Int32)) V) := hs
        have hres : res = ((BX5_likeliestLetter_7 n7) x1 x2 x3 (x4 + (1 : Int32)) V) := hres
        refine lv_iinc (v := (x4 + (1 : Int32))) (lv' := [(4, .int (x4 + (1 : Int32))), (0, .ref (gA G 1)), (1, .int x1), (2, .int x2), (3, .int x3)]) hx hb dX5_likeliestLetter_54 hl (k := 4) rfl rfl (by decide) rfl (fun ls hl => ?_)
        refine lv_goto (tgt := 7) hx hb dX5_likeliestLetter_57 (by decide) ?_
        exact ih7 x1 x2 x3 (x4 + (1 : Int32)) _ _ _ (lv_sub hl [1, 2, 3, 4, 0] rfl) hP hS hs hres
      have b_40 : ∀ (x1 : Int32) (x2 : Int32) (x3 : Int32) (x4 : Int32) (s0 : Int32) (H : Heap) (locs : List Loc) (ls : Array Slot), lv_has ls 6 [(0, .ref (gA G 1)), (1, .int x1), (2, .int x2), (3, .int x3), (4, .int x4)] → va_P (gD G) vwCl (gL G V) H → va_S (gF G) s.heap H locs → PX5_likeliestLetter_40 (PX5_likeliestLetter_7 n7) x1 x2 x3 x4 s0 V → res = BX5_likeliestLetter_40 (BX5_likeliestLetter_7 n7) x1 x2 x3 x4 s0 V → W p l e r_X5_likeliestLetter s m ([.ref (gA G 1), .int a1] : List Value).toArray below meth c H locs 0 0 (MQ below (gQR G res V) ([.ref (gA G 1), .int a1] : List Value).toArray s 0 0 (gF G)) (F0 m 40 ls [.int s0]) := by
        intro x1 x2 x3 x4 s0 H locs ls hl hP hS hs hres
        have hs : ((s0 ≤ x3 → (PX5_likeliestLetter_54 (PX5_likeliestLetter_7 n7) x1 x2 x3 x4 V)) ∧ (¬ s0 ≤ x3 → (PX5_likeliestLetter_54 (PX5_likeliestLetter_7 n7) x1 x4 s0 x4 V))) := hs
        have hres : res = (if s0 ≤ x3 then (BX5_likeliestLetter_54 (BX5_likeliestLetter_7 n7) x1 x2 x3 x4 V) else (BX5_likeliestLetter_54 (BX5_likeliestLetter_7 n7) x1 x4 s0 x4 V)) := hres
        refine lv_istore (lv' := [(5, .int s0), (0, .ref (gA G 1)), (1, .int x1), (2, .int x2), (3, .int x3), (4, .int x4)]) hx hb dX5_likeliestLetter_40 hl (by decide) rfl (fun ls hl => ?_)
        refine lv_iload hx hb dX5_likeliestLetter_42 (lv_at hl 0 rfl) ?_
        refine lv_iload_n hx hb dX5_likeliestLetter_44 rfl (lv_at hl 4 rfl) ?_
        refine lv_icmp_le (tgt := 54) hx hb dX5_likeliestLetter_45 (by decide) (fun c_3 => ?_) (fun c_3 => ?_)
        · have hres := hres.trans (if_pos c_3)
          have hs := hs.1 c_3
          exact b_54 x1 x2 x3 x4 _ _ _ (lv_sub hl [1, 2, 3, 4, 5] rfl) hP hS hs hres
        have hres := hres.trans (if_neg c_3)
        have hs := hs.2 c_3
        refine lv_iload hx hb dX5_likeliestLetter_48 (lv_at hl 5 rfl) ?_
        refine lv_istore_n (lv' := [(2, .int x4), (5, .int s0), (0, .ref (gA G 1)), (1, .int x1), (3, .int x3), (4, .int x4)]) hx hb dX5_likeliestLetter_50 rfl hl (by decide) rfl (fun ls hl => ?_)
        refine lv_iload hx hb dX5_likeliestLetter_51 (lv_at hl 1 rfl) ?_
        refine lv_istore_n (lv' := [(3, .int s0), (2, .int x4), (5, .int s0), (0, .ref (gA G 1)), (1, .int x1), (4, .int x4)]) hx hb dX5_likeliestLetter_53 rfl hl (by decide) rfl (fun ls hl => ?_)
        exact b_54 x1 x4 s0 x4 _ _ _ (lv_sub hl [3, 4, 1, 0, 5] rfl) hP hS hs hres
      intro x1 x2 x3 x4 H locs ls hl hP hS hs hres
      have hs : ((¬ (26 : Int32) ≤ x4 → (((MX3_takes x4 V) = 0 → (PX5_likeliestLetter_40 (PX5_likeliestLetter_7 n7) x1 x2 x3 x4 (-1 : Int32) V)) ∧ (¬ (MX3_takes x4 V) = 0 → (PX7_weightHaving x1 x4 V) ∧ (PX5_likeliestLetter_40 (PX5_likeliestLetter_7 n7) x1 x2 x3 x4 (MX7_weightHaving x1 x4 V) V))))) := hs
      have hres : res = (if (26 : Int32) ≤ x4 then (x2) else (if (MX3_takes x4 V) = 0 then (BX5_likeliestLetter_40 (BX5_likeliestLetter_7 n7) x1 x2 x3 x4 (-1 : Int32) V) else (BX5_likeliestLetter_40 (BX5_likeliestLetter_7 n7) x1 x2 x3 x4 (MX7_weightHaving x1 x4 V) V))) := hres
      refine lv_iload hx hb dX5_likeliestLetter_7 (lv_at hl 4 rfl) ?_
      refine lv_bipush (v := 26) hx hb dX5_likeliestLetter_9 (by decide) ?_
      refine lv_icmp_ge (tgt := 60) hx hb dX5_likeliestLetter_11 (by decide) (fun c_1 => ?_) (fun c_1 => ?_)
      · have hres := hres.trans (if_pos c_1)
        refine lv_iload_n hx hb dX5_likeliestLetter_60 rfl (lv_at hl 2 rfl) ?_
        exact gh_iretR hx hb hr hlocks hP hS hT hres dX5_likeliestLetter_61
      have hres := hres.trans (if_neg c_1)
      have hs := hs c_1
      refine lv_aload_n hx hb dX5_likeliestLetter_14 rfl (lv_at hl 0 rfl) ?_
      refine gh_get (v := .ref (gA G 24)) (C := RX5) (T := TX5) (N := 9) hx hb hw inlX5 hown hT hP 1 (Nat.le_of_ble_eq_true rfl) kd1 rfl rfl 2 (by decide) (hw _ uw40) rfl dX5_likeliestLetter_15 ?_
      refine lv_iload hx hb dX5_likeliestLetter_18 (lv_at hl 4 rfl) ?_
      refine gh_kr (va_runV (As := [.int x4]) (rest := []) ⟨hx, hb, hml, hown, hw⟩ (cc_X3_takes l G V x4) (cwV 1 hw gv_RX5_194 rfl rfl rfl dd_X3_takes ⟨Nat.le_of_ble_eq_true rfl, Nat.le_of_ble_eq_true rfl⟩) (gh_preV hT hP (Nat.le_of_ble_eq_true rfl) kd24 rfl rfl) rfl rfl hl.1 rfl (lv_room (Nat.le_of_ble_eq_true rfl)) dX5_likeliestLetter_20 ⟨Nat.zero_le _, Nat.zero_le _⟩) hS (fun H locs hP hS => ?_)
      refine lv_if_eq (tgt := 39) hx hb dX5_likeliestLetter_23 (by decide) (fun c_2 => ?_) (fun c_2 => ?_)
      · have hres := hres.trans (if_pos c_2)
        have hs := hs.1 c_2
        refine lv_iconst (v := -1) hx hb dX5_likeliestLetter_39 (by decide) ?_
        exact b_40 x1 x2 x3 x4 (-1 : Int32) _ _ _ (lv_sub hl [0, 1, 2, 3, 4] rfl) hP hS hs hres
      have hres := hres.trans (if_neg c_2)
      have hs := hs.2 c_2
      refine lv_aload_n hx hb dX5_likeliestLetter_26 rfl (lv_at hl 0 rfl) ?_
      refine gh_get (v := .ref (gA G 2)) (C := RX5) (T := TX5) (N := 9) hx hb hw inlX5 hown hT hP 1 (Nat.le_of_ble_eq_true rfl) kd1 rfl rfl 0 (by decide) (hw _ uw32) rfl dX5_likeliestLetter_27 ?_
      refine lv_iload_n hx hb dX5_likeliestLetter_30 rfl (lv_at hl 1 rfl) ?_
      refine lv_iload hx hb dX5_likeliestLetter_31 (lv_at hl 4 rfl) ?_
      obtain ⟨ho_4, hs⟩ := hs
      refine gh_kr (va_runV (As := [.int x1, .int x4]) (rest := []) ⟨hx, hb, hml, hown, hw⟩ (cc_X7_weightHaving l G V x1 x4 ho_4) (cwV 2 hw gv_RX5_197 rfl rfl rfl dd_X7_weightHaving ⟨Nat.le_of_ble_eq_true rfl, Nat.le_of_ble_eq_true rfl⟩) (gh_preV hT hP (Nat.le_of_ble_eq_true rfl) kd2 rfl rfl) rfl rfl hl.1 rfl (lv_room (Nat.le_of_ble_eq_true rfl)) dX5_likeliestLetter_33 ⟨Nat.zero_le _, Nat.zero_le _⟩) hS (fun H locs hP hS => ?_)
      refine lv_goto (tgt := 40) hx hb dX5_likeliestLetter_36 (by decide) ?_
      exact b_40 x1 x2 x3 x4 (MX7_weightHaving x1 x4 V) _ _ _ (lv_sub hl [0, 1, 2, 3, 4] rfl) hP hS hs hres
  refine lv_iconst (v := 0) hx hb dX5_likeliestLetter_0 (by decide) ?_
  refine lv_istore_n (lv' := [(2, .int (0 : Int32)), (0, .ref (gA G 1)), (1, .int a1)]) hx hb dX5_likeliestLetter_1 rfl hl (by decide) rfl (fun ls hl => ?_)
  refine lv_iconst (v := -1) hx hb dX5_likeliestLetter_2 (by decide) ?_
  refine lv_istore_n (lv' := [(3, .int (-1 : Int32)), (2, .int (0 : Int32)), (0, .ref (gA G 1)), (1, .int a1)]) hx hb dX5_likeliestLetter_3 rfl hl (by decide) rfl (fun ls hl => ?_)
  refine lv_iconst (v := 0) hx hb dX5_likeliestLetter_4 (by decide) ?_
  refine lv_istore (lv' := [(4, .int (0 : Int32)), (3, .int (-1 : Int32)), (2, .int (0 : Int32)), (0, .ref (gA G 1)), (1, .int a1)]) hx hb dX5_likeliestLetter_5 hl (by decide) rfl (fun ls hl => ?_)
  exact b_7 1000 a1 (0 : Int32) (-1 : Int32) (0 : Int32) _ _ _ (lv_sub hl [3, 4, 2, 1, 0] rfl) hP hS hs hres
theorem gv_RX5_200 : GoodIn wsL_law (wsV RX5 200 RX7 yX7_largestGroup wc_X7_largestGroup) := gh_gV uw689 uw653 uw654 uw31 uw655
def BX5_sharpestLetter_55  (K8 : Int32 → Int32 → Int32 → Int32 → gV → Int32) (x1 : Int32) (x2 : Int32) (x3 : Int32) (x4 : Int32) (V : gV) : Int32 := K8 x1 x2 x3 (x4 + (1 : Int32)) V
def PX5_sharpestLetter_55  (KP8 : Int32 → Int32 → Int32 → Int32 → gV → Prop) (x1 : Int32) (x2 : Int32) (x3 : Int32) (x4 : Int32) (V : gV) : Prop := (KP8 x1 x2 x3 (x4 + (1 : Int32)) V)
def BX5_sharpestLetter_41  (K8 : Int32 → Int32 → Int32 → Int32 → gV → Int32) (x1 : Int32) (x2 : Int32) (x3 : Int32) (x4 : Int32) (s0 : Int32) (V : gV) : Int32 := if x3 ≤ s0 then (BX5_sharpestLetter_55 K8 x1 x2 x3 x4 V) else (BX5_sharpestLetter_55 K8 x1 x4 s0 x4 V)
def PX5_sharpestLetter_41  (KP8 : Int32 → Int32 → Int32 → Int32 → gV → Prop) (x1 : Int32) (x2 : Int32) (x3 : Int32) (x4 : Int32) (s0 : Int32) (V : gV) : Prop := ((x3 ≤ s0 → (PX5_sharpestLetter_55 KP8 x1 x2 x3 x4 V)) ∧ (¬ x3 ≤ s0 → (PX5_sharpestLetter_55 KP8 x1 x4 s0 x4 V)))
def BX5_sharpestLetter_8   : Nat → Int32 → Int32 → Int32 → Int32 → gV → Int32
  | 0, _, _, _, _, _ => 0
  | n + 1, x1, x2, x3, x4, V => if (26 : Int32) ≤ x4 then (x2) else (if (MX3_takes x4 V) = 0 then (BX5_sharpestLetter_41 (BX5_sharpestLetter_8 n) x1 x2 x3 x4 x3 V) else (BX5_sharpestLetter_41 (BX5_sharpestLetter_8 n) x1 x2 x3 x4 (MX7_largestGroup x1 x4 V) V))
def PX5_sharpestLetter_8   : Nat → Int32 → Int32 → Int32 → Int32 → gV → Prop
  | 0, _, _, _, _, _ => False
  | n + 1, x1, x2, x3, x4, V => ((¬ (26 : Int32) ≤ x4 → (((MX3_takes x4 V) = 0 → (PX5_sharpestLetter_41 (PX5_sharpestLetter_8 n) x1 x2 x3 x4 x3 V)) ∧ (¬ (MX3_takes x4 V) = 0 → (PX7_largestGroup x1 x4 V) ∧ (PX5_sharpestLetter_41 (PX5_sharpestLetter_8 n) x1 x2 x3 x4 (MX7_largestGroup x1 x4 V) V)))))
def MX5_sharpestLetter  (a1 : Int32) (V : gV) : Int32 := BX5_sharpestLetter_8 1000 a1 (0 : Int32) (17 : Int32) (0 : Int32) V
def PX5_sharpestLetter  (a1 : Int32) (V : gV) : Prop := (PX5_sharpestLetter_8 1000 a1 (0 : Int32) (17 : Int32) (0 : Int32) V)
abbrev wc_X5_sharpestLetter : List Cond := Cond.code yX5_sharpestLetter cX5_sharpestLetter 6 (some .int) :: wsL_law
abbrev r_X5_sharpestLetter : Room := { frames := 5, cells := 0, slots := 0, locals := 118 }
theorem dd_X5_sharpestLetter : yX5_sharpestLetter.cls = RX5 ∧ yX5_sharpestLetter.cls ≠ "java/lang/invoke/MethodHandle" ∧ yX5_sharpestLetter.cls ≠ "java/lang/invoke/VarHandle" ∧ (parseMethodDescriptor yX5_sharpestLetter.desc).map (fun d => d.parameters.length) = some 1 := by decide +kernel
set_option maxHeartbeats 8000000 in
set_option maxRecDepth 100000 in
theorem cc_X5_sharpestLetter (l : Launch) (G : gG) (V : gV)   (a1 : Int32) (hs : PX5_sharpestLetter a1 V) : Met l yX5_sharpestLetter wc_X5_sharpestLetter r_X5_sharpestLetter (va_Pc [.ref (gA G 1), .int a1] (gW G V)) (gQR G (MX5_sharpestLetter a1 V) V) 0 0 (gF G) := by
  refine Met.ofW (cc := cX5_sharpestLetter) (maxL := 6) (ret := (some .int)) (by decide) rfl ?_
  intro p e s m args below meth c s₁ B hml hv
  obtain ⟨rfl, hP, hT⟩ := hv
  have hx := B.exec
  have hb := B.bytes
  have hr := B.returns
  have hw := gh_hw (atoms_spec (ws := wc_X5_sharpestLetter) B.pre)
  have hown : s.vm.findClass RX5 = some m.cls := findClass_of_methodNamed B.named
  have hlocks := B.notSynchronized
  have hS : va_S (gF G) s.heap s.heap [] := va_S.rf
  have hl := lv_entry ([.ref (gA G 1), .int a1]) (n := 6) (Nat.le_of_ble_eq_true rfl)
  rw [lg_entry_eq]
  generalize (lg_sl ([.ref (gA G 1), .int a1]) ++ List.replicate (6 - (lg_sl ([.ref (gA G 1), .int a1])).length) Slot.unset).toArray = ls at hl ⊢
  have hl : lv_has ls 6 [(0, .ref (gA G 1)), (1, .int a1)] := hl
  obtain ⟨res, hres⟩ : ∃ r, r = MX5_sharpestLetter a1 V := ⟨_, rfl⟩
  rw [← hres]
  show W p l e r_X5_sharpestLetter s m ([.ref (gA G 1), .int a1] : List Value).toArray below meth c s.heap [] 0 0 (MQ below (gQR G res V) ([.ref (gA G 1), .int a1] : List Value).toArray s 0 0 (gF G)) (F0 m 0 ls [])
  have hs : (PX5_sharpestLetter_8 1000 a1 (0 : Int32) (17 : Int32) (0 : Int32) V) := hs
  have hres : res = (BX5_sharpestLetter_8 1000 a1 (0 : Int32) (17 : Int32) (0 : Int32) V) := hres
  have b_8 : ∀ (n : Nat) (x1 : Int32) (x2 : Int32) (x3 : Int32) (x4 : Int32) (H : Heap) (locs : List Loc) (ls : Array Slot), lv_has ls 6 [(0, .ref (gA G 1)), (1, .int x1), (2, .int x2), (3, .int x3), (4, .int x4)] → va_P (gD G) vwCl (gL G V) H → va_S (gF G) s.heap H locs → PX5_sharpestLetter_8  n x1 x2 x3 x4 V → res = BX5_sharpestLetter_8  n x1 x2 x3 x4 V → W p l e r_X5_sharpestLetter s m ([.ref (gA G 1), .int a1] : List Value).toArray below meth c H locs 0 0 (MQ below (gQR G res V) ([.ref (gA G 1), .int a1] : List Value).toArray s 0 0 (gF G)) (F0 m 8 ls []) := by
    intro n
    induction n with
    | zero =>
      intro x1 x2 x3 x4 H locs ls hl hP hS hs hres
      exact (show False from hs).elim
    | succ n8 ih8 =>
      have b_55 : ∀ (x1 : Int32) (x2 : Int32) (x3 : Int32) (x4 : Int32) (H : Heap) (locs : List Loc) (ls : Array Slot), lv_has ls 6 [(0, .ref (gA G 1)), (1, .int x1), (2, .int x2), (3, .int x3), (4, .int x4)] → va_P (gD G) vwCl (gL G V) H → va_S (gF G) s.heap H locs → PX5_sharpestLetter_55 (PX5_sharpestLetter_8 n8) x1 x2 x3 x4 V → res = BX5_sharpestLetter_55 (BX5_sharpestLetter_8 n8) x1 x2 x3 x4 V → W p l e r_X5_sharpestLetter s m ([.ref (gA G 1), .int a1] : List Value).toArray below meth c H locs 0 0 (MQ below (gQR G res V) ([.ref (gA G 1), .int a1] : List Value).toArray s 0 0 (gF G)) (F0 m 55 ls []) := by
        intro x1 x2 x3 x4 H locs ls hl hP hS hs hres
        have hs : ((PX5_sharpestLetter_8 n8) x1 x2 x3 (x4 + (1 : Int32)) V) := hs
        have hres : res = ((BX5_sharpestLetter_8 n8) x1 x2 x3 (x4 + (1 : Int32)) V) := hres
        refine lv_iinc (v := (x4 + (1 : Int32))) (lv' := [(4, .int (x4 + (1 : Int32))), (0, .ref (gA G 1)), (1, .int x1), (2, .int x2), (3, .int x3)]) hx hb dX5_sharpestLetter_55 hl (k := 4) rfl rfl (by decide) rfl (fun ls hl => ?_)
        refine lv_goto (tgt := 8) hx hb dX5_sharpestLetter_58 (by decide) ?_
        exact ih8 x1 x2 x3 (x4 + (1 : Int32)) _ _ _ (lv_sub hl [1, 2, 3, 4, 0] rfl) hP hS hs hres
      have b_41 : ∀ (x1 : Int32) (x2 : Int32) (x3 : Int32) (x4 : Int32) (s0 : Int32) (H : Heap) (locs : List Loc) (ls : Array Slot), lv_has ls 6 [(0, .ref (gA G 1)), (1, .int x1), (2, .int x2), (3, .int x3), (4, .int x4)] → va_P (gD G) vwCl (gL G V) H → va_S (gF G) s.heap H locs → PX5_sharpestLetter_41 (PX5_sharpestLetter_8 n8) x1 x2 x3 x4 s0 V → res = BX5_sharpestLetter_41 (BX5_sharpestLetter_8 n8) x1 x2 x3 x4 s0 V → W p l e r_X5_sharpestLetter s m ([.ref (gA G 1), .int a1] : List Value).toArray below meth c H locs 0 0 (MQ below (gQR G res V) ([.ref (gA G 1), .int a1] : List Value).toArray s 0 0 (gF G)) (F0 m 41 ls [.int s0]) := by
        intro x1 x2 x3 x4 s0 H locs ls hl hP hS hs hres
        have hs : ((x3 ≤ s0 → (PX5_sharpestLetter_55 (PX5_sharpestLetter_8 n8) x1 x2 x3 x4 V)) ∧ (¬ x3 ≤ s0 → (PX5_sharpestLetter_55 (PX5_sharpestLetter_8 n8) x1 x4 s0 x4 V))) := hs
        have hres : res = (if x3 ≤ s0 then (BX5_sharpestLetter_55 (BX5_sharpestLetter_8 n8) x1 x2 x3 x4 V) else (BX5_sharpestLetter_55 (BX5_sharpestLetter_8 n8) x1 x4 s0 x4 V)) := hres
        refine lv_istore (lv' := [(5, .int s0), (0, .ref (gA G 1)), (1, .int x1), (2, .int x2), (3, .int x3), (4, .int x4)]) hx hb dX5_sharpestLetter_41 hl (by decide) rfl (fun ls hl => ?_)
        refine lv_iload hx hb dX5_sharpestLetter_43 (lv_at hl 0 rfl) ?_
        refine lv_iload_n hx hb dX5_sharpestLetter_45 rfl (lv_at hl 4 rfl) ?_
        refine lv_icmp_ge (tgt := 55) hx hb dX5_sharpestLetter_46 (by decide) (fun c_3 => ?_) (fun c_3 => ?_)
        · have hres := hres.trans (if_pos c_3)
          have hs := hs.1 c_3
          exact b_55 x1 x2 x3 x4 _ _ _ (lv_sub hl [1, 2, 3, 4, 5] rfl) hP hS hs hres
        have hres := hres.trans (if_neg c_3)
        have hs := hs.2 c_3
        refine lv_iload hx hb dX5_sharpestLetter_49 (lv_at hl 5 rfl) ?_
        refine lv_istore_n (lv' := [(2, .int x4), (5, .int s0), (0, .ref (gA G 1)), (1, .int x1), (3, .int x3), (4, .int x4)]) hx hb dX5_sharpestLetter_51 rfl hl (by decide) rfl (fun ls hl => ?_)
        refine lv_iload hx hb dX5_sharpestLetter_52 (lv_at hl 1 rfl) ?_
        refine lv_istore_n (lv' := [(3, .int s0), (2, .int x4), (5, .int s0), (0, .ref (gA G 1)), (1, .int x1), (4, .int x4)]) hx hb dX5_sharpestLetter_54 rfl hl (by decide) rfl (fun ls hl => ?_)
        exact b_55 x1 x4 s0 x4 _ _ _ (lv_sub hl [3, 4, 1, 0, 5] rfl) hP hS hs hres
      intro x1 x2 x3 x4 H locs ls hl hP hS hs hres
      have hs : ((¬ (26 : Int32) ≤ x4 → (((MX3_takes x4 V) = 0 → (PX5_sharpestLetter_41 (PX5_sharpestLetter_8 n8) x1 x2 x3 x4 x3 V)) ∧ (¬ (MX3_takes x4 V) = 0 → (PX7_largestGroup x1 x4 V) ∧ (PX5_sharpestLetter_41 (PX5_sharpestLetter_8 n8) x1 x2 x3 x4 (MX7_largestGroup x1 x4 V) V))))) := hs
      have hres : res = (if (26 : Int32) ≤ x4 then (x2) else (if (MX3_takes x4 V) = 0 then (BX5_sharpestLetter_41 (BX5_sharpestLetter_8 n8) x1 x2 x3 x4 x3 V) else (BX5_sharpestLetter_41 (BX5_sharpestLetter_8 n8) x1 x2 x3 x4 (MX7_largestGroup x1 x4 V) V))) := hres
      refine lv_iload hx hb dX5_sharpestLetter_8 (lv_at hl 4 rfl) ?_
      refine lv_bipush (v := 26) hx hb dX5_sharpestLetter_10 (by decide) ?_
      refine lv_icmp_ge (tgt := 61) hx hb dX5_sharpestLetter_12 (by decide) (fun c_1 => ?_) (fun c_1 => ?_)
      · have hres := hres.trans (if_pos c_1)
        refine lv_iload_n hx hb dX5_sharpestLetter_61 rfl (lv_at hl 2 rfl) ?_
        exact gh_iretR hx hb hr hlocks hP hS hT hres dX5_sharpestLetter_62
      have hres := hres.trans (if_neg c_1)
      have hs := hs c_1
      refine lv_aload_n hx hb dX5_sharpestLetter_15 rfl (lv_at hl 0 rfl) ?_
      refine gh_get (v := .ref (gA G 24)) (C := RX5) (T := TX5) (N := 9) hx hb hw inlX5 hown hT hP 1 (Nat.le_of_ble_eq_true rfl) kd1 rfl rfl 2 (by decide) (hw _ uw40) rfl dX5_sharpestLetter_16 ?_
      refine lv_iload hx hb dX5_sharpestLetter_19 (lv_at hl 4 rfl) ?_
      refine gh_kr (va_runV (As := [.int x4]) (rest := []) ⟨hx, hb, hml, hown, hw⟩ (cc_X3_takes l G V x4) (cwV 1 hw gv_RX5_194 rfl rfl rfl dd_X3_takes ⟨Nat.le_of_ble_eq_true rfl, Nat.le_of_ble_eq_true rfl⟩) (gh_preV hT hP (Nat.le_of_ble_eq_true rfl) kd24 rfl rfl) rfl rfl hl.1 rfl (lv_room (Nat.le_of_ble_eq_true rfl)) dX5_sharpestLetter_21 ⟨Nat.zero_le _, Nat.zero_le _⟩) hS (fun H locs hP hS => ?_)
      refine lv_if_eq (tgt := 40) hx hb dX5_sharpestLetter_24 (by decide) (fun c_2 => ?_) (fun c_2 => ?_)
      · have hres := hres.trans (if_pos c_2)
        have hs := hs.1 c_2
        refine lv_iload_n hx hb dX5_sharpestLetter_40 rfl (lv_at hl 3 rfl) ?_
        exact b_41 x1 x2 x3 x4 x3 _ _ _ (lv_sub hl [0, 1, 2, 3, 4] rfl) hP hS hs hres
      have hres := hres.trans (if_neg c_2)
      have hs := hs.2 c_2
      refine lv_aload_n hx hb dX5_sharpestLetter_27 rfl (lv_at hl 0 rfl) ?_
      refine gh_get (v := .ref (gA G 2)) (C := RX5) (T := TX5) (N := 9) hx hb hw inlX5 hown hT hP 1 (Nat.le_of_ble_eq_true rfl) kd1 rfl rfl 0 (by decide) (hw _ uw32) rfl dX5_sharpestLetter_28 ?_
      refine lv_iload_n hx hb dX5_sharpestLetter_31 rfl (lv_at hl 1 rfl) ?_
      refine lv_iload hx hb dX5_sharpestLetter_32 (lv_at hl 4 rfl) ?_
      obtain ⟨ho_4, hs⟩ := hs
      refine gh_kr (va_runV (As := [.int x1, .int x4]) (rest := []) ⟨hx, hb, hml, hown, hw⟩ (cc_X7_largestGroup l G V x1 x4 ho_4) (cwV 2 hw gv_RX5_200 rfl rfl rfl dd_X7_largestGroup ⟨Nat.le_of_ble_eq_true rfl, Nat.le_of_ble_eq_true rfl⟩) (gh_preV hT hP (Nat.le_of_ble_eq_true rfl) kd2 rfl rfl) rfl rfl hl.1 rfl (lv_room (Nat.le_of_ble_eq_true rfl)) dX5_sharpestLetter_34 ⟨Nat.zero_le _, Nat.zero_le _⟩) hS (fun H locs hP hS => ?_)
      refine lv_goto (tgt := 41) hx hb dX5_sharpestLetter_37 (by decide) ?_
      exact b_41 x1 x2 x3 x4 (MX7_largestGroup x1 x4 V) _ _ _ (lv_sub hl [0, 1, 2, 3, 4] rfl) hP hS hs hres
  refine lv_iconst (v := 0) hx hb dX5_sharpestLetter_0 (by decide) ?_
  refine lv_istore_n (lv' := [(2, .int (0 : Int32)), (0, .ref (gA G 1)), (1, .int a1)]) hx hb dX5_sharpestLetter_1 rfl hl (by decide) rfl (fun ls hl => ?_)
  refine lv_bipush (v := 17) hx hb dX5_sharpestLetter_2 (by decide) ?_
  refine lv_istore_n (lv' := [(3, .int (17 : Int32)), (2, .int (0 : Int32)), (0, .ref (gA G 1)), (1, .int a1)]) hx hb dX5_sharpestLetter_4 rfl hl (by decide) rfl (fun ls hl => ?_)
  refine lv_iconst (v := 0) hx hb dX5_sharpestLetter_5 (by decide) ?_
  refine lv_istore (lv' := [(4, .int (0 : Int32)), (3, .int (17 : Int32)), (2, .int (0 : Int32)), (0, .ref (gA G 1)), (1, .int a1)]) hx hb dX5_sharpestLetter_6 hl (by decide) rfl (fun ls hl => ?_)
  exact b_8 1000 a1 (0 : Int32) (17 : Int32) (0 : Int32) _ _ _ (lv_sub hl [3, 4, 2, 1, 0] rfl) hP hS hs hres
theorem gv_RX5_55 : GoodIn wsL_law (wsV RX5 55 RX7 yX7_copyFrom wc_X7_copyFrom) := gh_gV uw153 uw154 uw155 uw31 uw156
theorem gv_RX5_59 : GoodIn wsL_law (wsV RX5 59 RX0 yX0_copyFrom wc_X0_copyFrom) := gh_gV uw166 uw167 uw168 uw35 uw169
theorem gv_RX5_62 : GoodIn wsL_law (wsV RX5 62 RX3 yX3_copyFrom wc_X3_copyFrom) := gh_gV uw172 uw173 uw174 uw39 uw175
theorem gv_RX5_65 : GoodIn wsL_law (wsV RX5 65 RX2 yX2_copyFrom wc_X2_copyFrom) := gh_gV uw183 uw184 uw185 uw43 uw186
def BX5_copyFrom_76 (k : Nat) (o : Nat)   (V : gV) : gV := (gu V k 8 (V o 8))
def BX5_copyFrom_68 (k : Nat) (o : Nat)   (V : gV) : gV := BX5_copyFrom_76 k o (gu V k 7 (V o 7))
def BX5_copyFrom_60 (k : Nat) (o : Nat)   (V : gV) : gV := BX5_copyFrom_68 k o (gu V k 6 (V o 6))
def BX5_copyFrom_52 (k : Nat) (o : Nat)   (V : gV) : gV := BX5_copyFrom_60 k o (gu V k 5 (V o 5))
def BX5_copyFrom_44 (k : Nat) (o : Nat)   (V : gV) : gV := BX5_copyFrom_52 k o (gu V k 4 (V o 4))
def BX5_copyFrom_33 (k : Nat) (o : Nat)   (V : gV) : gV := BX5_copyFrom_44 k o (MX2_copyFrom (k + 24) (o + 24) V)
def BX5_copyFrom_22 (k : Nat) (o : Nat)   (V : gV) : gV := BX5_copyFrom_33 k o (MX3_copyFrom (k + 23) (o + 23) V)
def PX5_copyFrom_22 (k : Nat) (o : Nat)   (V : gV) : Prop := (PX3_copyFrom (k + 23) (o + 23) V)
def BX5_copyFrom_11 (k : Nat) (o : Nat)   (V : gV) : gV := BX5_copyFrom_22 k o (MX0_copyFrom (k + 10) (o + 10) V)
def PX5_copyFrom_11 (k : Nat) (o : Nat)   (V : gV) : Prop := (PX5_copyFrom_22 k o (MX0_copyFrom (k + 10) (o + 10) V))
def MX5_copyFrom (k : Nat) (o : Nat)  (V : gV) : gV := BX5_copyFrom_11 k o (MX7_copyFrom (k + 1) (o + 1) V)
def PX5_copyFrom (k : Nat) (o : Nat)  (V : gV) : Prop := (PX5_copyFrom_11 k o (MX7_copyFrom (k + 1) (o + 1) V))
abbrev wc_X5_copyFrom : List Cond := Cond.code yX5_copyFrom cX5_copyFrom 2 none :: wsL_law
abbrev r_X5_copyFrom : Room := { frames := 3, cells := 0, slots := 0, locals := 82 }
theorem dd_X5_copyFrom : yX5_copyFrom.cls = RX5 ∧ yX5_copyFrom.cls ≠ "java/lang/invoke/MethodHandle" ∧ yX5_copyFrom.cls ≠ "java/lang/invoke/VarHandle" ∧ (parseMethodDescriptor yX5_copyFrom.desc).map (fun d => d.parameters.length) = some 1 := by decide +kernel
set_option maxHeartbeats 8000000 in
set_option maxRecDepth 100000 in
theorem cc_X5_copyFrom (l : Launch) (G : gG) (V : gV) (k : Nat) (hk : gX5 k) (o : Nat) (ho : gX5 o)   (hs : PX5_copyFrom k o V) : Met l yX5_copyFrom wc_X5_copyFrom r_X5_copyFrom (va_Pc [.ref (gA G k), .ref (gA G o)] (gW G V)) (gQV G (MX5_copyFrom k o V)) 0 0 (gF G) := by
  refine Met.ofW (cc := cX5_copyFrom) (maxL := 2) (ret := none) (by decide) rfl ?_
  intro p e s m args below meth c s₁ B hml hv
  obtain ⟨rfl, hP, hT⟩ := hv
  have hx := B.exec
  have hb := B.bytes
  have hr := B.returns
  have hw := gh_hw (atoms_spec (ws := wc_X5_copyFrom) B.pre)
  have hown : s.vm.findClass RX5 = some m.cls := findClass_of_methodNamed B.named
  have hlocks := B.notSynchronized
  have hS : va_S (gF G) s.heap s.heap [] := va_S.rf
  have hl := lv_entry ([.ref (gA G k), .ref (gA G o)]) (n := 2) (Nat.le_of_ble_eq_true rfl)
  rw [lg_entry_eq]
  generalize (lg_sl ([.ref (gA G k), .ref (gA G o)]) ++ List.replicate (2 - (lg_sl ([.ref (gA G k), .ref (gA G o)])).length) Slot.unset).toArray = ls at hl ⊢
  have hl : lv_has ls 2 [(0, .ref (gA G k)), (1, .ref (gA G o))] := hl
  obtain ⟨res, hres⟩ : ∃ r, r = MX5_copyFrom k o V := ⟨_, rfl⟩
  rw [← hres]
  show W p l e r_X5_copyFrom s m ([.ref (gA G k), .ref (gA G o)] : List Value).toArray below meth c s.heap [] 0 0 (MQ below (gQV G res) ([.ref (gA G k), .ref (gA G o)] : List Value).toArray s 0 0 (gF G)) (F0 m 0 ls [])
  have hs : (PX5_copyFrom_11 k o (MX7_copyFrom (k + 1) (o + 1) V)) := hs
  have hres : res = (BX5_copyFrom_11 k o (MX7_copyFrom (k + 1) (o + 1) V)) := hres
  have b_76 : ∀  (V : gV) (H : Heap) (locs : List Loc) (ls : Array Slot), lv_has ls 2 [(0, .ref (gA G k)), (1, .ref (gA G o))] → va_P (gD G) vwCl (gL G V) H → va_S (gF G) s.heap H locs → res = BX5_copyFrom_76 k o  V → W p l e r_X5_copyFrom s m ([.ref (gA G k), .ref (gA G o)] : List Value).toArray below meth c H locs 0 0 (MQ below (gQV G res) ([.ref (gA G k), .ref (gA G o)] : List Value).toArray s 0 0 (gF G)) (F0 m 76 ls []) := by
    intro  V H locs ls hl hP hS hres
    have hres : res = ((gu V k 8 (V o 8))) := hres
    refine lv_aload_n hx hb dX5_copyFrom_76 rfl (lv_at hl 0 rfl) ?_
    refine lv_aload_n hx hb dX5_copyFrom_77 rfl (lv_at hl 1 rfl) ?_
    refine gh_get (v := .int (V o 8)) (C := RX5) (T := TX5) (N := 9) hx hb hw inlX5 hown hT hP o (Nat.lt_of_le_of_lt (Nat.le_add_right _ 32) (ho).1) (ho).2.1 rfl rfl 8 (by decide) (hw _ uw49) rfl dX5_copyFrom_78 ?_
    refine gh_put (ty := .int) (x := (V o 8)) (C := RX5) (T := TX5) (N := 9) hx hb hw inlX5 tyX5_ok nmX5 hown hT hP hS k (Nat.lt_of_le_of_lt (Nat.le_add_right _ 32) (hk).1) (hk).2.1 rfl rfl 8 (by decide) (hw _ uw49) rfl (by decide +kernel) rfl rfl (Nat.le_of_ble_eq_true rfl) rfl dX5_copyFrom_81 (fun H locs hP hS => ?_)
    exact gh_vret hx hb hr hlocks hP hS hT hres dX5_copyFrom_84
  have b_68 : ∀  (V : gV) (H : Heap) (locs : List Loc) (ls : Array Slot), lv_has ls 2 [(0, .ref (gA G k)), (1, .ref (gA G o))] → va_P (gD G) vwCl (gL G V) H → va_S (gF G) s.heap H locs → res = BX5_copyFrom_68 k o  V → W p l e r_X5_copyFrom s m ([.ref (gA G k), .ref (gA G o)] : List Value).toArray below meth c H locs 0 0 (MQ below (gQV G res) ([.ref (gA G k), .ref (gA G o)] : List Value).toArray s 0 0 (gF G)) (F0 m 68 ls []) := by
    intro  V H locs ls hl hP hS hres
    have hres : res = (BX5_copyFrom_76 k o (gu V k 7 (V o 7))) := hres
    refine lv_aload_n hx hb dX5_copyFrom_68 rfl (lv_at hl 0 rfl) ?_
    refine lv_aload_n hx hb dX5_copyFrom_69 rfl (lv_at hl 1 rfl) ?_
    refine gh_get (v := .int (V o 7)) (C := RX5) (T := TX5) (N := 9) hx hb hw inlX5 hown hT hP o (Nat.lt_of_le_of_lt (Nat.le_add_right _ 32) (ho).1) (ho).2.1 rfl rfl 7 (by decide) (hw _ uw48) rfl dX5_copyFrom_70 ?_
    refine gh_put (ty := .int) (x := (V o 7)) (C := RX5) (T := TX5) (N := 9) hx hb hw inlX5 tyX5_ok nmX5 hown hT hP hS k (Nat.lt_of_le_of_lt (Nat.le_add_right _ 32) (hk).1) (hk).2.1 rfl rfl 7 (by decide) (hw _ uw48) rfl (by decide +kernel) rfl rfl (Nat.le_of_ble_eq_true rfl) rfl dX5_copyFrom_73 (fun H locs hP hS => ?_)
    exact b_76 (gu V k 7 (V o 7)) _ _ _ (lv_sub hl [0, 1] rfl) hP hS hres
  have b_60 : ∀  (V : gV) (H : Heap) (locs : List Loc) (ls : Array Slot), lv_has ls 2 [(0, .ref (gA G k)), (1, .ref (gA G o))] → va_P (gD G) vwCl (gL G V) H → va_S (gF G) s.heap H locs → res = BX5_copyFrom_60 k o  V → W p l e r_X5_copyFrom s m ([.ref (gA G k), .ref (gA G o)] : List Value).toArray below meth c H locs 0 0 (MQ below (gQV G res) ([.ref (gA G k), .ref (gA G o)] : List Value).toArray s 0 0 (gF G)) (F0 m 60 ls []) := by
    intro  V H locs ls hl hP hS hres
    have hres : res = (BX5_copyFrom_68 k o (gu V k 6 (V o 6))) := hres
    refine lv_aload_n hx hb dX5_copyFrom_60 rfl (lv_at hl 0 rfl) ?_
    refine lv_aload_n hx hb dX5_copyFrom_61 rfl (lv_at hl 1 rfl) ?_
    refine gh_get (v := .int (V o 6)) (C := RX5) (T := TX5) (N := 9) hx hb hw inlX5 hown hT hP o (Nat.lt_of_le_of_lt (Nat.le_add_right _ 32) (ho).1) (ho).2.1 rfl rfl 6 (by decide) (hw _ uw47) rfl dX5_copyFrom_62 ?_
    refine gh_put (ty := .int) (x := (V o 6)) (C := RX5) (T := TX5) (N := 9) hx hb hw inlX5 tyX5_ok nmX5 hown hT hP hS k (Nat.lt_of_le_of_lt (Nat.le_add_right _ 32) (hk).1) (hk).2.1 rfl rfl 6 (by decide) (hw _ uw47) rfl (by decide +kernel) rfl rfl (Nat.le_of_ble_eq_true rfl) rfl dX5_copyFrom_65 (fun H locs hP hS => ?_)
    exact b_68 (gu V k 6 (V o 6)) _ _ _ (lv_sub hl [0, 1] rfl) hP hS hres
  have b_52 : ∀  (V : gV) (H : Heap) (locs : List Loc) (ls : Array Slot), lv_has ls 2 [(0, .ref (gA G k)), (1, .ref (gA G o))] → va_P (gD G) vwCl (gL G V) H → va_S (gF G) s.heap H locs → res = BX5_copyFrom_52 k o  V → W p l e r_X5_copyFrom s m ([.ref (gA G k), .ref (gA G o)] : List Value).toArray below meth c H locs 0 0 (MQ below (gQV G res) ([.ref (gA G k), .ref (gA G o)] : List Value).toArray s 0 0 (gF G)) (F0 m 52 ls []) := by
    intro  V H locs ls hl hP hS hres
    have hres : res = (BX5_copyFrom_60 k o (gu V k 5 (V o 5))) := hres
    refine lv_aload_n hx hb dX5_copyFrom_52 rfl (lv_at hl 0 rfl) ?_
    refine lv_aload_n hx hb dX5_copyFrom_53 rfl (lv_at hl 1 rfl) ?_
    refine gh_get (v := .int (V o 5)) (C := RX5) (T := TX5) (N := 9) hx hb hw inlX5 hown hT hP o (Nat.lt_of_le_of_lt (Nat.le_add_right _ 32) (ho).1) (ho).2.1 rfl rfl 5 (by decide) (hw _ uw46) rfl dX5_copyFrom_54 ?_
    refine gh_put (ty := .int) (x := (V o 5)) (C := RX5) (T := TX5) (N := 9) hx hb hw inlX5 tyX5_ok nmX5 hown hT hP hS k (Nat.lt_of_le_of_lt (Nat.le_add_right _ 32) (hk).1) (hk).2.1 rfl rfl 5 (by decide) (hw _ uw46) rfl (by decide +kernel) rfl rfl (Nat.le_of_ble_eq_true rfl) rfl dX5_copyFrom_57 (fun H locs hP hS => ?_)
    exact b_60 (gu V k 5 (V o 5)) _ _ _ (lv_sub hl [0, 1] rfl) hP hS hres
  have b_44 : ∀  (V : gV) (H : Heap) (locs : List Loc) (ls : Array Slot), lv_has ls 2 [(0, .ref (gA G k)), (1, .ref (gA G o))] → va_P (gD G) vwCl (gL G V) H → va_S (gF G) s.heap H locs → res = BX5_copyFrom_44 k o  V → W p l e r_X5_copyFrom s m ([.ref (gA G k), .ref (gA G o)] : List Value).toArray below meth c H locs 0 0 (MQ below (gQV G res) ([.ref (gA G k), .ref (gA G o)] : List Value).toArray s 0 0 (gF G)) (F0 m 44 ls []) := by
    intro  V H locs ls hl hP hS hres
    have hres : res = (BX5_copyFrom_52 k o (gu V k 4 (V o 4))) := hres
    refine lv_aload_n hx hb dX5_copyFrom_44 rfl (lv_at hl 0 rfl) ?_
    refine lv_aload_n hx hb dX5_copyFrom_45 rfl (lv_at hl 1 rfl) ?_
    refine gh_get (v := .int (V o 4)) (C := RX5) (T := TX5) (N := 9) hx hb hw inlX5 hown hT hP o (Nat.lt_of_le_of_lt (Nat.le_add_right _ 32) (ho).1) (ho).2.1 rfl rfl 4 (by decide) (hw _ uw45) rfl dX5_copyFrom_46 ?_
    refine gh_put (ty := .int) (x := (V o 4)) (C := RX5) (T := TX5) (N := 9) hx hb hw inlX5 tyX5_ok nmX5 hown hT hP hS k (Nat.lt_of_le_of_lt (Nat.le_add_right _ 32) (hk).1) (hk).2.1 rfl rfl 4 (by decide) (hw _ uw45) rfl (by decide +kernel) rfl rfl (Nat.le_of_ble_eq_true rfl) rfl dX5_copyFrom_49 (fun H locs hP hS => ?_)
    exact b_52 (gu V k 4 (V o 4)) _ _ _ (lv_sub hl [0, 1] rfl) hP hS hres
  have b_33 : ∀  (V : gV) (H : Heap) (locs : List Loc) (ls : Array Slot), lv_has ls 2 [(0, .ref (gA G k)), (1, .ref (gA G o))] → va_P (gD G) vwCl (gL G V) H → va_S (gF G) s.heap H locs → res = BX5_copyFrom_33 k o  V → W p l e r_X5_copyFrom s m ([.ref (gA G k), .ref (gA G o)] : List Value).toArray below meth c H locs 0 0 (MQ below (gQV G res) ([.ref (gA G k), .ref (gA G o)] : List Value).toArray s 0 0 (gF G)) (F0 m 33 ls []) := by
    intro  V H locs ls hl hP hS hres
    have hres : res = (BX5_copyFrom_44 k o (MX2_copyFrom (k + 24) (o + 24) V)) := hres
    refine lv_aload_n hx hb dX5_copyFrom_33 rfl (lv_at hl 0 rfl) ?_
    refine gh_get (v := .ref (gA G (k + 24))) (C := RX5) (T := TX5) (N := 9) hx hb hw inlX5 hown hT hP k (Nat.lt_of_le_of_lt (Nat.le_add_right _ 32) (hk).1) (hk).2.1 rfl rfl 3 (by decide) (hw _ uw44) rfl dX5_copyFrom_34 ?_
    refine lv_aload_n hx hb dX5_copyFrom_37 rfl (lv_at hl 1 rfl) ?_
    refine gh_get (v := .ref (gA G (o + 24))) (C := RX5) (T := TX5) (N := 9) hx hb hw inlX5 hown hT hP o (Nat.lt_of_le_of_lt (Nat.le_add_right _ 32) (ho).1) (ho).2.1 rfl rfl 3 (by decide) (hw _ uw44) rfl dX5_copyFrom_38 ?_
    refine gh_kv (va_runV (As := [.ref (gA G (o + 24))]) (rest := []) ⟨hx, hb, hml, hown, hw⟩ (cc_X2_copyFrom l G V (k + 24) (hk).2.2.2.2.2 (o + 24) (ho).2.2.2.2.2) (cwV 1 hw gv_RX5_65 rfl rfl rfl dd_X2_copyFrom ⟨Nat.le_of_ble_eq_true rfl, Nat.le_of_ble_eq_true rfl⟩) (gh_preV hT hP (Nat.lt_of_le_of_lt (Nat.le_add_right _ 8) ((hk).2.2.2.2.2).1) ((hk).2.2.2.2.2).2.1 rfl rfl) rfl rfl hl.1 rfl (lv_room (Nat.le_of_ble_eq_true rfl)) dX5_copyFrom_41 ⟨Nat.zero_le _, Nat.zero_le _⟩) hS (fun H locs hP hS => ?_)
    exact b_44 (MX2_copyFrom (k + 24) (o + 24) V) _ _ _ (lv_sub hl [0, 1] rfl) hP hS hres
  have b_22 : ∀  (V : gV) (H : Heap) (locs : List Loc) (ls : Array Slot), lv_has ls 2 [(0, .ref (gA G k)), (1, .ref (gA G o))] → va_P (gD G) vwCl (gL G V) H → va_S (gF G) s.heap H locs → PX5_copyFrom_22 k o  V → res = BX5_copyFrom_22 k o  V → W p l e r_X5_copyFrom s m ([.ref (gA G k), .ref (gA G o)] : List Value).toArray below meth c H locs 0 0 (MQ below (gQV G res) ([.ref (gA G k), .ref (gA G o)] : List Value).toArray s 0 0 (gF G)) (F0 m 22 ls []) := by
    intro  V H locs ls hl hP hS hs hres
    have hs : (PX3_copyFrom (k + 23) (o + 23) V) := hs
    have hres : res = (BX5_copyFrom_33 k o (MX3_copyFrom (k + 23) (o + 23) V)) := hres
    refine lv_aload_n hx hb dX5_copyFrom_22 rfl (lv_at hl 0 rfl) ?_
    refine gh_get (v := .ref (gA G (k + 23))) (C := RX5) (T := TX5) (N := 9) hx hb hw inlX5 hown hT hP k (Nat.lt_of_le_of_lt (Nat.le_add_right _ 32) (hk).1) (hk).2.1 rfl rfl 2 (by decide) (hw _ uw40) rfl dX5_copyFrom_23 ?_
    refine lv_aload_n hx hb dX5_copyFrom_26 rfl (lv_at hl 1 rfl) ?_
    refine gh_get (v := .ref (gA G (o + 23))) (C := RX5) (T := TX5) (N := 9) hx hb hw inlX5 hown hT hP o (Nat.lt_of_le_of_lt (Nat.le_add_right _ 32) (ho).1) (ho).2.1 rfl rfl 2 (by decide) (hw _ uw40) rfl dX5_copyFrom_27 ?_
    have ho_1 := hs
    refine gh_kv (va_runV (As := [.ref (gA G (o + 23))]) (rest := []) ⟨hx, hb, hml, hown, hw⟩ (cc_X3_copyFrom l G V (k + 23) (hk).2.2.2.2.1 (o + 23) (ho).2.2.2.2.1 ho_1) (cwV 1 hw gv_RX5_62 rfl rfl rfl dd_X3_copyFrom ⟨Nat.le_of_ble_eq_true rfl, Nat.le_of_ble_eq_true rfl⟩) (gh_preV hT hP ((hk).2.2.2.2.1).1 ((hk).2.2.2.2.1).2 rfl rfl) rfl rfl hl.1 rfl (lv_room (Nat.le_of_ble_eq_true rfl)) dX5_copyFrom_30 ⟨Nat.zero_le _, Nat.zero_le _⟩) hS (fun H locs hP hS => ?_)
    exact b_33 (MX3_copyFrom (k + 23) (o + 23) V) _ _ _ (lv_sub hl [0, 1] rfl) hP hS hres
  have b_11 : ∀  (V : gV) (H : Heap) (locs : List Loc) (ls : Array Slot), lv_has ls 2 [(0, .ref (gA G k)), (1, .ref (gA G o))] → va_P (gD G) vwCl (gL G V) H → va_S (gF G) s.heap H locs → PX5_copyFrom_11 k o  V → res = BX5_copyFrom_11 k o  V → W p l e r_X5_copyFrom s m ([.ref (gA G k), .ref (gA G o)] : List Value).toArray below meth c H locs 0 0 (MQ below (gQV G res) ([.ref (gA G k), .ref (gA G o)] : List Value).toArray s 0 0 (gF G)) (F0 m 11 ls []) := by
    intro  V H locs ls hl hP hS hs hres
    have hs : (PX5_copyFrom_22 k o (MX0_copyFrom (k + 10) (o + 10) V)) := hs
    have hres : res = (BX5_copyFrom_22 k o (MX0_copyFrom (k + 10) (o + 10) V)) := hres
    refine lv_aload_n hx hb dX5_copyFrom_11 rfl (lv_at hl 0 rfl) ?_
    refine gh_get (v := .ref (gA G (k + 10))) (C := RX5) (T := TX5) (N := 9) hx hb hw inlX5 hown hT hP k (Nat.lt_of_le_of_lt (Nat.le_add_right _ 32) (hk).1) (hk).2.1 rfl rfl 1 (by decide) (hw _ uw36) rfl dX5_copyFrom_12 ?_
    refine lv_aload_n hx hb dX5_copyFrom_15 rfl (lv_at hl 1 rfl) ?_
    refine gh_get (v := .ref (gA G (o + 10))) (C := RX5) (T := TX5) (N := 9) hx hb hw inlX5 hown hT hP o (Nat.lt_of_le_of_lt (Nat.le_add_right _ 32) (ho).1) (ho).2.1 rfl rfl 1 (by decide) (hw _ uw36) rfl dX5_copyFrom_16 ?_
    refine gh_kv (va_runV (As := [.ref (gA G (o + 10))]) (rest := []) ⟨hx, hb, hml, hown, hw⟩ (cc_X0_copyFrom l G V (k + 10) (hk).2.2.2.1 (o + 10) (ho).2.2.2.1) (cwV 1 hw gv_RX5_59 rfl rfl rfl dd_X0_copyFrom ⟨Nat.le_of_ble_eq_true rfl, Nat.le_of_ble_eq_true rfl⟩) (gh_preV hT hP (Nat.lt_of_le_of_lt (Nat.le_add_right _ 12) ((hk).2.2.2.1).1) ((hk).2.2.2.1).2.1 rfl rfl) rfl rfl hl.1 rfl (lv_room (Nat.le_of_ble_eq_true rfl)) dX5_copyFrom_19 ⟨Nat.zero_le _, Nat.zero_le _⟩) hS (fun H locs hP hS => ?_)
    exact b_22 (MX0_copyFrom (k + 10) (o + 10) V) _ _ _ (lv_sub hl [0, 1] rfl) hP hS hs hres
  refine lv_aload_n hx hb dX5_copyFrom_0 rfl (lv_at hl 0 rfl) ?_
  refine gh_get (v := .ref (gA G (k + 1))) (C := RX5) (T := TX5) (N := 9) hx hb hw inlX5 hown hT hP k (Nat.lt_of_le_of_lt (Nat.le_add_right _ 32) (hk).1) (hk).2.1 rfl rfl 0 (by decide) (hw _ uw32) rfl dX5_copyFrom_1 ?_
  refine lv_aload_n hx hb dX5_copyFrom_4 rfl (lv_at hl 1 rfl) ?_
  refine gh_get (v := .ref (gA G (o + 1))) (C := RX5) (T := TX5) (N := 9) hx hb hw inlX5 hown hT hP o (Nat.lt_of_le_of_lt (Nat.le_add_right _ 32) (ho).1) (ho).2.1 rfl rfl 0 (by decide) (hw _ uw32) rfl dX5_copyFrom_5 ?_
  refine gh_kv (va_runV (As := [.ref (gA G (o + 1))]) (rest := []) ⟨hx, hb, hml, hown, hw⟩ (cc_X7_copyFrom l G V (k + 1) (hk).2.2.1 (o + 1) (ho).2.2.1) (cwV 1 hw gv_RX5_55 rfl rfl rfl dd_X7_copyFrom ⟨Nat.le_of_ble_eq_true rfl, Nat.le_of_ble_eq_true rfl⟩) (gh_preV hT hP (Nat.lt_of_le_of_lt (Nat.le_add_right _ 8) ((hk).2.2.1).1) ((hk).2.2.1).2.1 rfl rfl) rfl rfl hl.1 rfl (lv_room (Nat.le_of_ble_eq_true rfl)) dX5_copyFrom_8 ⟨Nat.zero_le _, Nat.zero_le _⟩) hS (fun H locs hP hS => ?_)
  exact b_11 (MX7_copyFrom (k + 1) (o + 1) V) _ _ _ (lv_sub hl [0, 1] rfl) hP hS hs hres
