def MX0_has  (a1 : Int32) (V : gV) : Int32 := if a1 < 0 then ((0 : Int32)) else (if (V 11 0) ≤ a1 then ((0 : Int32)) else ((1 : Int32)))
abbrev wc_X0_has : List Cond := Cond.code yX0_has cX0_has 2 (some .boolean) :: wsL_law
abbrev r_X0_has : Room := { frames := 0, cells := 0, slots := 0, locals := 0 }
theorem dd_X0_has : yX0_has.cls = RX0 ∧ yX0_has.cls ≠ "java/lang/invoke/MethodHandle" ∧ yX0_has.cls ≠ "java/lang/invoke/VarHandle" ∧ (parseMethodDescriptor yX0_has.desc).map (fun d => d.parameters.length) = some 1 := by decide +kernel
set_option maxHeartbeats 8000000 in
set_option maxRecDepth 100000 in
theorem cc_X0_has (l : Launch) (G : gG) (V : gV)   (a1 : Int32)  : Met l yX0_has wc_X0_has r_X0_has (va_Pc [.ref (gA G 11), .int a1] (gW G V)) (gQR G (MX0_has a1 V) V) 0 0 (gF G) := by
  refine Met.ofW (cc := cX0_has) (maxL := 2) (ret := (some .boolean)) (by decide) rfl ?_
  intro p e s m args below meth c s₁ B hml hv
  obtain ⟨rfl, hP, hT⟩ := hv
  have hx := B.exec
  have hb := B.bytes
  have hr := B.returns
  have hw := gh_hw (atoms_spec (ws := wc_X0_has) B.pre)
  have hown : s.vm.findClass RX0 = some m.cls := findClass_of_methodNamed B.named
  have hlocks := B.notSynchronized
  have hS : va_S (gF G) s.heap s.heap [] := va_S.rf
  have hl := lv_entry ([.ref (gA G 11), .int a1]) (n := 2) (Nat.le_of_ble_eq_true rfl)
  rw [lg_entry_eq]
  generalize (lg_sl ([.ref (gA G 11), .int a1]) ++ List.replicate (2 - (lg_sl ([.ref (gA G 11), .int a1])).length) Slot.unset).toArray = ls at hl ⊢
  have hl : lv_has ls 2 [(0, .ref (gA G 11)), (1, .int a1)] := hl
  obtain ⟨res, hres⟩ : ∃ r, r = MX0_has a1 V := ⟨_, rfl⟩
  rw [← hres]
  show W p l e r_X0_has s m ([.ref (gA G 11), .int a1] : List Value).toArray below meth c s.heap [] 0 0 (MQ below (gQR G res V) ([.ref (gA G 11), .int a1] : List Value).toArray s 0 0 (gF G)) (F0 m 0 ls [])
  have hres : res = (if a1 < 0 then ((0 : Int32)) else (if (V 11 0) ≤ a1 then ((0 : Int32)) else ((1 : Int32)))) := hres
  refine lv_iload_n hx hb dX0_has_0 rfl (lv_at hl 1 rfl) ?_
  refine lv_if_lt (tgt := 16) hx hb dX0_has_1 (by decide) (fun c_1 => ?_) (fun c_1 => ?_)
  · have hres := hres.trans (if_pos c_1)
    refine lv_iconst (v := 0) hx hb dX0_has_16 (by decide) ?_
    exact gh_zretR hx hb hr rfl hlocks hP hS hT hres dX0_has_17
  have hres := hres.trans (if_neg c_1)
  refine lv_iload_n hx hb dX0_has_4 rfl (lv_at hl 1 rfl) ?_
  refine lv_aload_n hx hb dX0_has_5 rfl (lv_at hl 0 rfl) ?_
  refine gh_get (v := .int (V 11 0)) (C := RX0) (T := TX0) (N := 7) hx hb hw inlX0 hown hT hP 11 (Nat.le_of_ble_eq_true rfl) kd11 rfl rfl 0 (by decide) (hw _ uw170) rfl dX0_has_6 ?_
  refine lv_icmp_ge (tgt := 16) hx hb dX0_has_9 (by decide) (fun c_2 => ?_) (fun c_2 => ?_)
  · have hres := hres.trans (if_pos c_2)
    refine lv_iconst (v := 0) hx hb dX0_has_16 (by decide) ?_
    exact gh_zretR hx hb hr rfl hlocks hP hS hT hres dX0_has_17
  have hres := hres.trans (if_neg c_2)
  refine lv_iconst (v := 1) hx hb dX0_has_12 (by decide) ?_
  refine lv_goto (tgt := 17) hx hb dX0_has_13 (by decide) ?_
  exact gh_zretR hx hb hr rfl hlocks hP hS hT hres dX0_has_17
theorem gz_X0_has  (a1 : Int32) (V : gV) : gZ (MX0_has a1 V) := by
  unfold MX0_has
  repeat (any_goals split)
  all_goals first | exact Or.inl rfl | exact Or.inr rfl
theorem gv_RX0_43 : GoodIn wsL_law (wsV RX0 43 RX4 yX4_put wc_X4_put) := gh_gV uw231 uw194 uw195 uw55 uw196
def MX0_dropHint  (a1 : Int32) (V : gV) : gV := (MX4_put 20 a1 (26 : Int32) V)
abbrev wc_X0_dropHint : List Cond := Cond.code yX0_dropHint cX0_dropHint 2 none :: wsL_law
abbrev r_X0_dropHint : Room := { frames := 1, cells := 0, slots := 0, locals := 22 }
theorem dd_X0_dropHint : yX0_dropHint.cls = RX0 ∧ yX0_dropHint.cls ≠ "java/lang/invoke/MethodHandle" ∧ yX0_dropHint.cls ≠ "java/lang/invoke/VarHandle" ∧ (parseMethodDescriptor yX0_dropHint.desc).map (fun d => d.parameters.length) = some 1 := by decide +kernel
set_option maxHeartbeats 8000000 in
set_option maxRecDepth 100000 in
theorem cc_X0_dropHint (l : Launch) (G : gG) (V : gV)   (a1 : Int32)  : Met l yX0_dropHint wc_X0_dropHint r_X0_dropHint (va_Pc [.ref (gA G 11), .int a1] (gW G V)) (gQV G (MX0_dropHint a1 V)) 0 0 (gF G) := by
  refine Met.ofW (cc := cX0_dropHint) (maxL := 2) (ret := none) (by decide) rfl ?_
  intro p e s m args below meth c s₁ B hml hv
  obtain ⟨rfl, hP, hT⟩ := hv
  have hx := B.exec
  have hb := B.bytes
  have hr := B.returns
  have hw := gh_hw (atoms_spec (ws := wc_X0_dropHint) B.pre)
  have hown : s.vm.findClass RX0 = some m.cls := findClass_of_methodNamed B.named
  have hlocks := B.notSynchronized
  have hS : va_S (gF G) s.heap s.heap [] := va_S.rf
  have hl := lv_entry ([.ref (gA G 11), .int a1]) (n := 2) (Nat.le_of_ble_eq_true rfl)
  rw [lg_entry_eq]
  generalize (lg_sl ([.ref (gA G 11), .int a1]) ++ List.replicate (2 - (lg_sl ([.ref (gA G 11), .int a1])).length) Slot.unset).toArray = ls at hl ⊢
  have hl : lv_has ls 2 [(0, .ref (gA G 11)), (1, .int a1)] := hl
  obtain ⟨res, hres⟩ : ∃ r, r = MX0_dropHint a1 V := ⟨_, rfl⟩
  rw [← hres]
  show W p l e r_X0_dropHint s m ([.ref (gA G 11), .int a1] : List Value).toArray below meth c s.heap [] 0 0 (MQ below (gQV G res) ([.ref (gA G 11), .int a1] : List Value).toArray s 0 0 (gF G)) (F0 m 0 ls [])
  have hres : res = ((MX4_put 20 a1 (26 : Int32) V)) := hres
  refine lv_aload_n hx hb dX0_dropHint_0 rfl (lv_at hl 0 rfl) ?_
  refine gh_get (v := .ref (gA G 20)) (C := RX0) (T := TX0) (N := 7) hx hb hw inlX0 hown hT hP 11 (Nat.le_of_ble_eq_true rfl) kd11 rfl rfl 5 (by decide) (hw _ uw78) rfl dX0_dropHint_1 ?_
  refine lv_iload_n hx hb dX0_dropHint_4 rfl (lv_at hl 1 rfl) ?_
  refine lv_bipush (v := 26) hx hb dX0_dropHint_5 (by decide) ?_
  refine gh_kv (va_runV (As := [.int a1, .int (26 : Int32)]) (rest := []) ⟨hx, hb, hml, hown, hw⟩ (cc_X4_put l G V 20 gi20 a1 (26 : Int32)) (cwV 2 hw gv_RX0_43 rfl rfl rfl dd_X4_put ⟨Nat.le_of_ble_eq_true rfl, Nat.le_of_ble_eq_true rfl⟩) (gh_preV hT hP (Nat.le_of_ble_eq_true rfl) kd20 rfl rfl) rfl rfl hl.1 rfl (lv_room (Nat.le_of_ble_eq_true rfl)) dX0_dropHint_7 ⟨Nat.zero_le _, Nat.zero_le _⟩) hS (fun H locs hP hS => ?_)
  exact gh_vret hx hb hr hlocks hP hS hT hres dX0_dropHint_10
theorem gv_RX0_47 : GoodIn wsL_law (wsV RX0 47 RX0 yX0_dropHint wc_X0_dropHint) := gh_gV uw232 uw233 uw234 uw35 uw235
def BX0_add_46   (x2 : Int32) (V : gV) : Int32 × gV := (x2, (gu V 11 0 ((V 11 0) + (1 : Int32))))
def BX0_add_41   (x2 : Int32) (V : gV) : Int32 × gV := BX0_add_46 x2 (MX0_dropHint x2 V)
def BX0_add_32   (x2 : Int32) (V : gV) : Int32 × gV := BX0_add_41 x2 (MX4_put 18 x2 (0 : Int32) V)
def BX0_add_23   (x2 : Int32) (V : gV) : Int32 × gV := BX0_add_32 x2 (MX4_put 16 x2 (0 : Int32) V)
def BX0_add_14   (x2 : Int32) (V : gV) : Int32 × gV := BX0_add_23 x2 (MX4_put 14 x2 (0 : Int32) V)
def MX0_add  (a1 : Int32) (V : gV) : Int32 × gV := BX0_add_14 (V 11 0) (MX4_put 12 (V 11 0) a1 V)
abbrev wc_X0_add : List Cond := Cond.code yX0_add cX0_add 3 (some .int) :: wsL_law
abbrev r_X0_add : Room := { frames := 2, cells := 0, slots := 0, locals := 43 }
theorem dd_X0_add : yX0_add.cls = RX0 ∧ yX0_add.cls ≠ "java/lang/invoke/MethodHandle" ∧ yX0_add.cls ≠ "java/lang/invoke/VarHandle" ∧ (parseMethodDescriptor yX0_add.desc).map (fun d => d.parameters.length) = some 1 := by decide +kernel
set_option maxHeartbeats 8000000 in
set_option maxRecDepth 100000 in
theorem cc_X0_add (l : Launch) (G : gG) (V : gV)   (a1 : Int32)  : Met l yX0_add wc_X0_add r_X0_add (va_Pc [.ref (gA G 11), .int a1] (gW G V)) (gQI G (MX0_add a1 V)) 0 0 (gF G) := by
  refine Met.ofW (cc := cX0_add) (maxL := 3) (ret := (some .int)) (by decide) rfl ?_
  intro p e s m args below meth c s₁ B hml hv
  obtain ⟨rfl, hP, hT⟩ := hv
  have hx := B.exec
  have hb := B.bytes
  have hr := B.returns
  have hw := gh_hw (atoms_spec (ws := wc_X0_add) B.pre)
  have hown : s.vm.findClass RX0 = some m.cls := findClass_of_methodNamed B.named
  have hlocks := B.notSynchronized
  have hS : va_S (gF G) s.heap s.heap [] := va_S.rf
  have hl := lv_entry ([.ref (gA G 11), .int a1]) (n := 3) (Nat.le_of_ble_eq_true rfl)
  rw [lg_entry_eq]
  generalize (lg_sl ([.ref (gA G 11), .int a1]) ++ List.replicate (3 - (lg_sl ([.ref (gA G 11), .int a1])).length) Slot.unset).toArray = ls at hl ⊢
  have hl : lv_has ls 3 [(0, .ref (gA G 11)), (1, .int a1)] := hl
  obtain ⟨res, hres⟩ : ∃ r, r = MX0_add a1 V := ⟨_, rfl⟩
  rw [← hres]
  show W p l e r_X0_add s m ([.ref (gA G 11), .int a1] : List Value).toArray below meth c s.heap [] 0 0 (MQ below (gQI G res) ([.ref (gA G 11), .int a1] : List Value).toArray s 0 0 (gF G)) (F0 m 0 ls [])
  have hres : res = (BX0_add_14 (V 11 0) (MX4_put 12 (V 11 0) a1 V)) := hres
  have b_46 : ∀ (x2 : Int32) (V : gV) (H : Heap) (locs : List Loc) (ls : Array Slot), lv_has ls 3 [(0, .ref (gA G 11)), (2, .int x2)] → va_P (gD G) vwCl (gL G V) H → va_S (gF G) s.heap H locs → res = BX0_add_46  x2 V → W p l e r_X0_add s m ([.ref (gA G 11), .int a1] : List Value).toArray below meth c H locs 0 0 (MQ below (gQI G res) ([.ref (gA G 11), .int a1] : List Value).toArray s 0 0 (gF G)) (F0 m 46 ls []) := by
    intro x2 V H locs ls hl hP hS hres
    have hres : res = ((x2, (gu V 11 0 ((V 11 0) + (1 : Int32))))) := hres
    refine lv_aload_n hx hb dX0_add_46 rfl (lv_at hl 0 rfl) ?_
    refine lv_dup hx hb dX0_add_47 rfl ?_
    refine gh_get (v := .int (V 11 0)) (C := RX0) (T := TX0) (N := 7) hx hb hw inlX0 hown hT hP 11 (Nat.le_of_ble_eq_true rfl) kd11 rfl rfl 0 (by decide) (hw _ uw170) rfl dX0_add_48 ?_
    refine lv_iconst (v := 1) hx hb dX0_add_51 (by decide) ?_
    refine lv_iadd hx hb dX0_add_52 ?_
    refine gh_put (ty := .int) (x := ((V 11 0) + (1 : Int32))) (C := RX0) (T := TX0) (N := 7) hx hb hw inlX0 tyX0_ok nmX0 hown hT hP hS 11 (Nat.le_of_ble_eq_true rfl) kd11 rfl rfl 0 (by decide) (hw _ uw170) rfl (by decide +kernel) rfl rfl (Nat.le_of_ble_eq_true rfl) rfl dX0_add_53 (fun H locs hP hS => ?_)
    refine lv_iload_n hx hb dX0_add_56 rfl (lv_at hl 1 rfl) ?_
    exact gh_iret hx hb hr hlocks hP hS hT hres dX0_add_57
  have b_41 : ∀ (x2 : Int32) (V : gV) (H : Heap) (locs : List Loc) (ls : Array Slot), lv_has ls 3 [(0, .ref (gA G 11)), (2, .int x2)] → va_P (gD G) vwCl (gL G V) H → va_S (gF G) s.heap H locs → res = BX0_add_41  x2 V → W p l e r_X0_add s m ([.ref (gA G 11), .int a1] : List Value).toArray below meth c H locs 0 0 (MQ below (gQI G res) ([.ref (gA G 11), .int a1] : List Value).toArray s 0 0 (gF G)) (F0 m 41 ls []) := by
    intro x2 V H locs ls hl hP hS hres
    have hres : res = (BX0_add_46 x2 (MX0_dropHint x2 V)) := hres
    refine lv_aload_n hx hb dX0_add_41 rfl (lv_at hl 0 rfl) ?_
    refine lv_iload_n hx hb dX0_add_42 rfl (lv_at hl 1 rfl) ?_
    refine gh_kv (va_runV (As := [.int x2]) (rest := []) ⟨hx, hb, hml, hown, hw⟩ (cc_X0_dropHint l G V x2) (cwV 1 hw gv_RX0_47 rfl rfl rfl dd_X0_dropHint ⟨Nat.le_of_ble_eq_true rfl, Nat.le_of_ble_eq_true rfl⟩) (gh_preV hT hP (Nat.le_of_ble_eq_true rfl) kd11 rfl rfl) rfl rfl hl.1 rfl (lv_room (Nat.le_of_ble_eq_true rfl)) dX0_add_43 ⟨Nat.zero_le _, Nat.zero_le _⟩) hS (fun H locs hP hS => ?_)
    exact b_46 x2 (MX0_dropHint x2 V) _ _ _ (lv_sub hl [0, 1] rfl) hP hS hres
  have b_32 : ∀ (x2 : Int32) (V : gV) (H : Heap) (locs : List Loc) (ls : Array Slot), lv_has ls 3 [(0, .ref (gA G 11)), (2, .int x2)] → va_P (gD G) vwCl (gL G V) H → va_S (gF G) s.heap H locs → res = BX0_add_32  x2 V → W p l e r_X0_add s m ([.ref (gA G 11), .int a1] : List Value).toArray below meth c H locs 0 0 (MQ below (gQI G res) ([.ref (gA G 11), .int a1] : List Value).toArray s 0 0 (gF G)) (F0 m 32 ls []) := by
    intro x2 V H locs ls hl hP hS hres
    have hres : res = (BX0_add_41 x2 (MX4_put 18 x2 (0 : Int32) V)) := hres
    refine lv_aload_n hx hb dX0_add_32 rfl (lv_at hl 0 rfl) ?_
    refine gh_get (v := .ref (gA G 18)) (C := RX0) (T := TX0) (N := 7) hx hb hw inlX0 hown hT hP 11 (Nat.le_of_ble_eq_true rfl) kd11 rfl rfl 4 (by decide) (hw _ uw77) rfl dX0_add_33 ?_
    refine lv_iload_n hx hb dX0_add_36 rfl (lv_at hl 1 rfl) ?_
    refine lv_iconst (v := 0) hx hb dX0_add_37 (by decide) ?_
    refine gh_kv (va_runV (As := [.int x2, .int (0 : Int32)]) (rest := []) ⟨hx, hb, hml, hown, hw⟩ (cc_X4_put l G V 18 gi18 x2 (0 : Int32)) (cwV 2 hw gv_RX0_43 rfl rfl rfl dd_X4_put ⟨Nat.le_of_ble_eq_true rfl, Nat.le_of_ble_eq_true rfl⟩) (gh_preV hT hP (Nat.le_of_ble_eq_true rfl) kd18 rfl rfl) rfl rfl hl.1 rfl (lv_room (Nat.le_of_ble_eq_true rfl)) dX0_add_38 ⟨Nat.zero_le _, Nat.zero_le _⟩) hS (fun H locs hP hS => ?_)
    exact b_41 x2 (MX4_put 18 x2 (0 : Int32) V) _ _ _ (lv_sub hl [0, 1] rfl) hP hS hres
  have b_23 : ∀ (x2 : Int32) (V : gV) (H : Heap) (locs : List Loc) (ls : Array Slot), lv_has ls 3 [(0, .ref (gA G 11)), (2, .int x2)] → va_P (gD G) vwCl (gL G V) H → va_S (gF G) s.heap H locs → res = BX0_add_23  x2 V → W p l e r_X0_add s m ([.ref (gA G 11), .int a1] : List Value).toArray below meth c H locs 0 0 (MQ below (gQI G res) ([.ref (gA G 11), .int a1] : List Value).toArray s 0 0 (gF G)) (F0 m 23 ls []) := by
    intro x2 V H locs ls hl hP hS hres
    have hres : res = (BX0_add_32 x2 (MX4_put 16 x2 (0 : Int32) V)) := hres
    refine lv_aload_n hx hb dX0_add_23 rfl (lv_at hl 0 rfl) ?_
    refine gh_get (v := .ref (gA G 16)) (C := RX0) (T := TX0) (N := 7) hx hb hw inlX0 hown hT hP 11 (Nat.le_of_ble_eq_true rfl) kd11 rfl rfl 3 (by decide) (hw _ uw76) rfl dX0_add_24 ?_
    refine lv_iload_n hx hb dX0_add_27 rfl (lv_at hl 1 rfl) ?_
    refine lv_iconst (v := 0) hx hb dX0_add_28 (by decide) ?_
    refine gh_kv (va_runV (As := [.int x2, .int (0 : Int32)]) (rest := []) ⟨hx, hb, hml, hown, hw⟩ (cc_X4_put l G V 16 gi16 x2 (0 : Int32)) (cwV 2 hw gv_RX0_43 rfl rfl rfl dd_X4_put ⟨Nat.le_of_ble_eq_true rfl, Nat.le_of_ble_eq_true rfl⟩) (gh_preV hT hP (Nat.le_of_ble_eq_true rfl) kd16 rfl rfl) rfl rfl hl.1 rfl (lv_room (Nat.le_of_ble_eq_true rfl)) dX0_add_29 ⟨Nat.zero_le _, Nat.zero_le _⟩) hS (fun H locs hP hS => ?_)
    exact b_32 x2 (MX4_put 16 x2 (0 : Int32) V) _ _ _ (lv_sub hl [0, 1] rfl) hP hS hres
  have b_14 : ∀ (x2 : Int32) (V : gV) (H : Heap) (locs : List Loc) (ls : Array Slot), lv_has ls 3 [(0, .ref (gA G 11)), (2, .int x2)] → va_P (gD G) vwCl (gL G V) H → va_S (gF G) s.heap H locs → res = BX0_add_14  x2 V → W p l e r_X0_add s m ([.ref (gA G 11), .int a1] : List Value).toArray below meth c H locs 0 0 (MQ below (gQI G res) ([.ref (gA G 11), .int a1] : List Value).toArray s 0 0 (gF G)) (F0 m 14 ls []) := by
    intro x2 V H locs ls hl hP hS hres
    have hres : res = (BX0_add_23 x2 (MX4_put 14 x2 (0 : Int32) V)) := hres
    refine lv_aload_n hx hb dX0_add_14 rfl (lv_at hl 0 rfl) ?_
    refine gh_get (v := .ref (gA G 14)) (C := RX0) (T := TX0) (N := 7) hx hb hw inlX0 hown hT hP 11 (Nat.le_of_ble_eq_true rfl) kd11 rfl rfl 2 (by decide) (hw _ uw75) rfl dX0_add_15 ?_
    refine lv_iload_n hx hb dX0_add_18 rfl (lv_at hl 1 rfl) ?_
    refine lv_iconst (v := 0) hx hb dX0_add_19 (by decide) ?_
    refine gh_kv (va_runV (As := [.int x2, .int (0 : Int32)]) (rest := []) ⟨hx, hb, hml, hown, hw⟩ (cc_X4_put l G V 14 gi14 x2 (0 : Int32)) (cwV 2 hw gv_RX0_43 rfl rfl rfl dd_X4_put ⟨Nat.le_of_ble_eq_true rfl, Nat.le_of_ble_eq_true rfl⟩) (gh_preV hT hP (Nat.le_of_ble_eq_true rfl) kd14 rfl rfl) rfl rfl hl.1 rfl (lv_room (Nat.le_of_ble_eq_true rfl)) dX0_add_20 ⟨Nat.zero_le _, Nat.zero_le _⟩) hS (fun H locs hP hS => ?_)
    exact b_23 x2 (MX4_put 14 x2 (0 : Int32) V) _ _ _ (lv_sub hl [0, 1] rfl) hP hS hres
  refine lv_aload_n hx hb dX0_add_0 rfl (lv_at hl 0 rfl) ?_
  refine gh_get (v := .int (V 11 0)) (C := RX0) (T := TX0) (N := 7) hx hb hw inlX0 hown hT hP 11 (Nat.le_of_ble_eq_true rfl) kd11 rfl rfl 0 (by decide) (hw _ uw170) rfl dX0_add_1 ?_
  refine lv_istore_n (lv' := [(2, .int (V 11 0)), (0, .ref (gA G 11)), (1, .int a1)]) hx hb dX0_add_4 rfl hl (by decide) rfl (fun ls hl => ?_)
  refine lv_aload_n hx hb dX0_add_5 rfl (lv_at hl 1 rfl) ?_
  refine gh_get (v := .ref (gA G 12)) (C := RX0) (T := TX0) (N := 7) hx hb hw inlX0 hown hT hP 11 (Nat.le_of_ble_eq_true rfl) kd11 rfl rfl 1 (by decide) (hw _ uw74) rfl dX0_add_6 ?_
  refine lv_iload_n hx hb dX0_add_9 rfl (lv_at hl 0 rfl) ?_
  refine lv_iload_n hx hb dX0_add_10 rfl (lv_at hl 2 rfl) ?_
  refine gh_kv (va_runV (As := [.int (V 11 0), .int a1]) (rest := []) ⟨hx, hb, hml, hown, hw⟩ (cc_X4_put l G V 12 gi12 (V 11 0) a1) (cwV 2 hw gv_RX0_43 rfl rfl rfl dd_X4_put ⟨Nat.le_of_ble_eq_true rfl, Nat.le_of_ble_eq_true rfl⟩) (gh_preV hT hP (Nat.le_of_ble_eq_true rfl) kd12 rfl rfl) rfl rfl hl.1 rfl (lv_room (Nat.le_of_ble_eq_true rfl)) dX0_add_11 ⟨Nat.zero_le _, Nat.zero_le _⟩) hS (fun H locs hP hS => ?_)
  exact b_14 (V 11 0) (MX4_put 12 (V 11 0) a1 V) _ _ _ (lv_sub hl [1, 0] rfl) hP hS hres
theorem gv_RX0_50 : GoodIn wsL_law (wsV RX0 50 RX4 yX4_at wc_X4_at) := gh_gV uw301 uw190 uw191 uw55 uw192
def BX0_canAllPay_2   : Nat → Int32 → Int32 → gV → Int32
  | 0, _, _, _ => 0
  | n + 1, x1, x2, V => if (V 11 0) ≤ x2 then ((1 : Int32)) else (if x1 ≤ (MX4_at 12 x2 V) then ((BX0_canAllPay_2 n) x1 (x2 + (1 : Int32)) V) else ((0 : Int32)))
def PX0_canAllPay_2   : Nat → Int32 → Int32 → gV → Prop
  | 0, _, _, _ => False
  | n + 1, x1, x2, V => ((¬ (V 11 0) ≤ x2 → ((x1 ≤ (MX4_at 12 x2 V) → ((PX0_canAllPay_2 n) x1 (x2 + (1 : Int32)) V)))))
def MX0_canAllPay  (a1 : Int32) (V : gV) : Int32 := BX0_canAllPay_2 1000 a1 (0 : Int32) V
def PX0_canAllPay  (a1 : Int32) (V : gV) : Prop := (PX0_canAllPay_2 1000 a1 (0 : Int32) V)
abbrev wc_X0_canAllPay : List Cond := Cond.code yX0_canAllPay cX0_canAllPay 3 (some .boolean) :: wsL_law
abbrev r_X0_canAllPay : Room := { frames := 1, cells := 0, slots := 0, locals := 21 }
theorem dd_X0_canAllPay : yX0_canAllPay.cls = RX0 ∧ yX0_canAllPay.cls ≠ "java/lang/invoke/MethodHandle" ∧ yX0_canAllPay.cls ≠ "java/lang/invoke/VarHandle" ∧ (parseMethodDescriptor yX0_canAllPay.desc).map (fun d => d.parameters.length) = some 1 := by decide +kernel
set_option maxHeartbeats 8000000 in
set_option maxRecDepth 100000 in
theorem cc_X0_canAllPay (l : Launch) (G : gG) (V : gV)   (a1 : Int32) (hs : PX0_canAllPay a1 V) : Met l yX0_canAllPay wc_X0_canAllPay r_X0_canAllPay (va_Pc [.ref (gA G 11), .int a1] (gW G V)) (gQR G (MX0_canAllPay a1 V) V) 0 0 (gF G) := by
  refine Met.ofW (cc := cX0_canAllPay) (maxL := 3) (ret := (some .boolean)) (by decide) rfl ?_
  intro p e s m args below meth c s₁ B hml hv
  obtain ⟨rfl, hP, hT⟩ := hv
  have hx := B.exec
  have hb := B.bytes
  have hr := B.returns
  have hw := gh_hw (atoms_spec (ws := wc_X0_canAllPay) B.pre)
  have hown : s.vm.findClass RX0 = some m.cls := findClass_of_methodNamed B.named
  have hlocks := B.notSynchronized
  have hS : va_S (gF G) s.heap s.heap [] := va_S.rf
  have hl := lv_entry ([.ref (gA G 11), .int a1]) (n := 3) (Nat.le_of_ble_eq_true rfl)
  rw [lg_entry_eq]
  generalize (lg_sl ([.ref (gA G 11), .int a1]) ++ List.replicate (3 - (lg_sl ([.ref (gA G 11), .int a1])).length) Slot.unset).toArray = ls at hl ⊢
  have hl : lv_has ls 3 [(0, .ref (gA G 11)), (1, .int a1)] := hl
  obtain ⟨res, hres⟩ : ∃ r, r = MX0_canAllPay a1 V := ⟨_, rfl⟩
  rw [← hres]
  show W p l e r_X0_canAllPay s m ([.ref (gA G 11), .int a1] : List Value).toArray below meth c s.heap [] 0 0 (MQ below (gQR G res V) ([.ref (gA G 11), .int a1] : List Value).toArray s 0 0 (gF G)) (F0 m 0 ls [])
  have hs : (PX0_canAllPay_2 1000 a1 (0 : Int32) V) := hs
  have hres : res = (BX0_canAllPay_2 1000 a1 (0 : Int32) V) := hres
  have b_2 : ∀ (n : Nat) (x1 : Int32) (x2 : Int32) (H : Heap) (locs : List Loc) (ls : Array Slot), lv_has ls 3 [(0, .ref (gA G 11)), (1, .int x1), (2, .int x2)] → va_P (gD G) vwCl (gL G V) H → va_S (gF G) s.heap H locs → PX0_canAllPay_2  n x1 x2 V → res = BX0_canAllPay_2  n x1 x2 V → W p l e r_X0_canAllPay s m ([.ref (gA G 11), .int a1] : List Value).toArray below meth c H locs 0 0 (MQ below (gQR G res V) ([.ref (gA G 11), .int a1] : List Value).toArray s 0 0 (gF G)) (F0 m 2 ls []) := by
    intro n
    induction n with
    | zero =>
      intro x1 x2 H locs ls hl hP hS hs hres
      exact (show False from hs).elim
    | succ n2 ih2 =>
      intro x1 x2 H locs ls hl hP hS hs hres
      have hs : ((¬ (V 11 0) ≤ x2 → ((x1 ≤ (MX4_at 12 x2 V) → ((PX0_canAllPay_2 n2) x1 (x2 + (1 : Int32)) V))))) := hs
      have hres : res = (if (V 11 0) ≤ x2 then ((1 : Int32)) else (if x1 ≤ (MX4_at 12 x2 V) then ((BX0_canAllPay_2 n2) x1 (x2 + (1 : Int32)) V) else ((0 : Int32)))) := hres
      refine lv_iload_n hx hb dX0_canAllPay_2 rfl (lv_at hl 2 rfl) ?_
      refine lv_aload_n hx hb dX0_canAllPay_3 rfl (lv_at hl 0 rfl) ?_
      refine gh_get (v := .int (V 11 0)) (C := RX0) (T := TX0) (N := 7) hx hb hw inlX0 hown hT hP 11 (Nat.le_of_ble_eq_true rfl) kd11 rfl rfl 0 (by decide) (hw _ uw170) rfl dX0_canAllPay_4 ?_
      refine lv_icmp_ge (tgt := 30) hx hb dX0_canAllPay_7 (by decide) (fun c_1 => ?_) (fun c_1 => ?_)
      · have hres := hres.trans (if_pos c_1)
        refine lv_iconst (v := 1) hx hb dX0_canAllPay_30 (by decide) ?_
        exact gh_zretR hx hb hr rfl hlocks hP hS hT hres dX0_canAllPay_31
      have hres := hres.trans (if_neg c_1)
      have hs := hs c_1
      refine lv_aload_n hx hb dX0_canAllPay_10 rfl (lv_at hl 0 rfl) ?_
      refine gh_get (v := .ref (gA G 12)) (C := RX0) (T := TX0) (N := 7) hx hb hw inlX0 hown hT hP 11 (Nat.le_of_ble_eq_true rfl) kd11 rfl rfl 1 (by decide) (hw _ uw74) rfl dX0_canAllPay_11 ?_
      refine lv_iload_n hx hb dX0_canAllPay_14 rfl (lv_at hl 2 rfl) ?_
      refine gh_kr (va_runV (As := [.int x2]) (rest := []) ⟨hx, hb, hml, hown, hw⟩ (cc_X4_at l G V 12 gi12 x2) (cwV 1 hw gv_RX0_50 rfl rfl rfl dd_X4_at ⟨Nat.le_of_ble_eq_true rfl, Nat.le_of_ble_eq_true rfl⟩) (gh_preV hT hP (Nat.le_of_ble_eq_true rfl) kd12 rfl rfl) rfl rfl hl.1 rfl (lv_room (Nat.le_of_ble_eq_true rfl)) dX0_canAllPay_15 ⟨Nat.zero_le _, Nat.zero_le _⟩) hS (fun H locs hP hS => ?_)
      refine lv_iload_n hx hb dX0_canAllPay_18 rfl (lv_at hl 1 rfl) ?_
      refine lv_icmp_ge (tgt := 24) hx hb dX0_canAllPay_19 (by decide) (fun c_2 => ?_) (fun c_2 => ?_)
      · have hres := hres.trans (if_pos c_2)
        have hs := hs c_2
        refine lv_iinc (v := (x2 + (1 : Int32))) (lv' := [(2, .int (x2 + (1 : Int32))), (0, .ref (gA G 11)), (1, .int x1)]) hx hb dX0_canAllPay_24 hl (k := 2) rfl rfl (by decide) rfl (fun ls hl => ?_)
        refine lv_goto (tgt := 2) hx hb dX0_canAllPay_27 (by decide) ?_
        exact ih2 x1 (x2 + (1 : Int32)) _ _ _ (lv_sub hl [1, 2, 0] rfl) hP hS hs hres
      have hres := hres.trans (if_neg c_2)
      refine lv_iconst (v := 0) hx hb dX0_canAllPay_22 (by decide) ?_
      exact gh_zretR hx hb hr rfl hlocks hP hS hT hres dX0_canAllPay_23
  refine lv_iconst (v := 0) hx hb dX0_canAllPay_0 (by decide) ?_
  refine lv_istore_n (lv' := [(2, .int (0 : Int32)), (0, .ref (gA G 11)), (1, .int a1)]) hx hb dX0_canAllPay_1 rfl hl (by decide) rfl (fun ls hl => ?_)
  exact b_2 1000 a1 (0 : Int32) _ _ _ (lv_sub hl [1, 2, 0] rfl) hP hS hs hres
theorem gv_RX0_54 : GoodIn wsL_law (wsV RX0 54 RX4 yX4_add wc_X4_add) := gh_gV uw342 uw253 uw254 uw55 uw255
def BX0_takeFromAll_20  (K2 : Int32 → Int32 → gV → gV) (x1 : Int32) (x2 : Int32) (V : gV) : gV := K2 x1 (x2 + (1 : Int32)) V
def PX0_takeFromAll_20  (KP2 : Int32 → Int32 → gV → Prop) (x1 : Int32) (x2 : Int32) (V : gV) : Prop := (KP2 x1 (x2 + (1 : Int32)) V)
def BX0_takeFromAll_2   : Nat → Int32 → Int32 → gV → gV
  | 0, _, _, V => V
  | n + 1, x1, x2, V => if (V 11 0) ≤ x2 then (V) else (BX0_takeFromAll_20 (BX0_takeFromAll_2 n) x1 x2 (MX4_add 12 x2 (-x1) V))
def PX0_takeFromAll_2   : Nat → Int32 → Int32 → gV → Prop
  | 0, _, _, _ => False
  | n + 1, x1, x2, V => ((¬ (V 11 0) ≤ x2 → (PX0_takeFromAll_20 (PX0_takeFromAll_2 n) x1 x2 (MX4_add 12 x2 (-x1) V))))
def MX0_takeFromAll  (a1 : Int32) (V : gV) : gV := BX0_takeFromAll_2 1000 a1 (0 : Int32) V
def PX0_takeFromAll  (a1 : Int32) (V : gV) : Prop := (PX0_takeFromAll_2 1000 a1 (0 : Int32) V)
abbrev wc_X0_takeFromAll : List Cond := Cond.code yX0_takeFromAll cX0_takeFromAll 3 none :: wsL_law
abbrev r_X0_takeFromAll : Room := { frames := 2, cells := 0, slots := 0, locals := 44 }
theorem dd_X0_takeFromAll : yX0_takeFromAll.cls = RX0 ∧ yX0_takeFromAll.cls ≠ "java/lang/invoke/MethodHandle" ∧ yX0_takeFromAll.cls ≠ "java/lang/invoke/VarHandle" ∧ (parseMethodDescriptor yX0_takeFromAll.desc).map (fun d => d.parameters.length) = some 1 := by decide +kernel
set_option maxHeartbeats 8000000 in
set_option maxRecDepth 100000 in
theorem cc_X0_takeFromAll (l : Launch) (G : gG) (V : gV)   (a1 : Int32) (hs : PX0_takeFromAll a1 V) : Met l yX0_takeFromAll wc_X0_takeFromAll r_X0_takeFromAll (va_Pc [.ref (gA G 11), .int a1] (gW G V)) (gQV G (MX0_takeFromAll a1 V)) 0 0 (gF G) := by
  refine Met.ofW (cc := cX0_takeFromAll) (maxL := 3) (ret := none) (by decide) rfl ?_
  intro p e s m args below meth c s₁ B hml hv
  obtain ⟨rfl, hP, hT⟩ := hv
  have hx := B.exec
  have hb := B.bytes
  have hr := B.returns
  have hw := gh_hw (atoms_spec (ws := wc_X0_takeFromAll) B.pre)
  have hown : s.vm.findClass RX0 = some m.cls := findClass_of_methodNamed B.named
  have hlocks := B.notSynchronized
  have hS : va_S (gF G) s.heap s.heap [] := va_S.rf
  have hl := lv_entry ([.ref (gA G 11), .int a1]) (n := 3) (Nat.le_of_ble_eq_true rfl)
  rw [lg_entry_eq]
  generalize (lg_sl ([.ref (gA G 11), .int a1]) ++ List.replicate (3 - (lg_sl ([.ref (gA G 11), .int a1])).length) Slot.unset).toArray = ls at hl ⊢
  have hl : lv_has ls 3 [(0, .ref (gA G 11)), (1, .int a1)] := hl
  obtain ⟨res, hres⟩ : ∃ r, r = MX0_takeFromAll a1 V := ⟨_, rfl⟩
  rw [← hres]
  show W p l e r_X0_takeFromAll s m ([.ref (gA G 11), .int a1] : List Value).toArray below meth c s.heap [] 0 0 (MQ below (gQV G res) ([.ref (gA G 11), .int a1] : List Value).toArray s 0 0 (gF G)) (F0 m 0 ls [])
  have hs : (PX0_takeFromAll_2 1000 a1 (0 : Int32) V) := hs
  have hres : res = (BX0_takeFromAll_2 1000 a1 (0 : Int32) V) := hres
  have b_2 : ∀ (n : Nat) (x1 : Int32) (x2 : Int32) (V : gV) (H : Heap) (locs : List Loc) (ls : Array Slot), lv_has ls 3 [(0, .ref (gA G 11)), (1, .int x1), (2, .int x2)] → va_P (gD G) vwCl (gL G V) H → va_S (gF G) s.heap H locs → PX0_takeFromAll_2  n x1 x2 V → res = BX0_takeFromAll_2  n x1 x2 V → W p l e r_X0_takeFromAll s m ([.ref (gA G 11), .int a1] : List Value).toArray below meth c H locs 0 0 (MQ below (gQV G res) ([.ref (gA G 11), .int a1] : List Value).toArray s 0 0 (gF G)) (F0 m 2 ls []) := by
    intro n
    induction n with
    | zero =>
      intro x1 x2 V H locs ls hl hP hS hs hres
      exact (show False from hs).elim
    | succ n2 ih2 =>
      have b_20 : ∀ (x1 : Int32) (x2 : Int32) (V : gV) (H : Heap) (locs : List Loc) (ls : Array Slot), lv_has ls 3 [(0, .ref (gA G 11)), (1, .int x1), (2, .int x2)] → va_P (gD G) vwCl (gL G V) H → va_S (gF G) s.heap H locs → PX0_takeFromAll_20 (PX0_takeFromAll_2 n2) x1 x2 V → res = BX0_takeFromAll_20 (BX0_takeFromAll_2 n2) x1 x2 V → W p l e r_X0_takeFromAll s m ([.ref (gA G 11), .int a1] : List Value).toArray below meth c H locs 0 0 (MQ below (gQV G res) ([.ref (gA G 11), .int a1] : List Value).toArray s 0 0 (gF G)) (F0 m 20 ls []) := by
        intro x1 x2 V H locs ls hl hP hS hs hres
        have hs : ((PX0_takeFromAll_2 n2) x1 (x2 + (1 : Int32)) V) := hs
        have hres : res = ((BX0_takeFromAll_2 n2) x1 (x2 + (1 : Int32)) V) := hres
        refine lv_iinc (v := (x2 + (1 : Int32))) (lv' := [(2, .int (x2 + (1 : Int32))), (0, .ref (gA G 11)), (1, .int x1)]) hx hb dX0_takeFromAll_20 hl (k := 2) rfl rfl (by decide) rfl (fun ls hl => ?_)
        refine lv_goto (tgt := 2) hx hb dX0_takeFromAll_23 (by decide) ?_
        exact ih2 x1 (x2 + (1 : Int32)) V _ _ _ (lv_sub hl [1, 2, 0] rfl) hP hS hs hres
      intro x1 x2 V H locs ls hl hP hS hs hres
      have hs : ((¬ (V 11 0) ≤ x2 → (PX0_takeFromAll_20 (PX0_takeFromAll_2 n2) x1 x2 (MX4_add 12 x2 (-x1) V)))) := hs
      have hres : res = (if (V 11 0) ≤ x2 then (V) else (BX0_takeFromAll_20 (BX0_takeFromAll_2 n2) x1 x2 (MX4_add 12 x2 (-x1) V))) := hres
      refine lv_iload_n hx hb dX0_takeFromAll_2 rfl (lv_at hl 2 rfl) ?_
      refine lv_aload_n hx hb dX0_takeFromAll_3 rfl (lv_at hl 0 rfl) ?_
      refine gh_get (v := .int (V 11 0)) (C := RX0) (T := TX0) (N := 7) hx hb hw inlX0 hown hT hP 11 (Nat.le_of_ble_eq_true rfl) kd11 rfl rfl 0 (by decide) (hw _ uw170) rfl dX0_takeFromAll_4 ?_
      refine lv_icmp_ge (tgt := 26) hx hb dX0_takeFromAll_7 (by decide) (fun c_1 => ?_) (fun c_1 => ?_)
      · have hres := hres.trans (if_pos c_1)
        exact gh_vret hx hb hr hlocks hP hS hT hres dX0_takeFromAll_26
      have hres := hres.trans (if_neg c_1)
      have hs := hs c_1
      refine lv_aload_n hx hb dX0_takeFromAll_10 rfl (lv_at hl 0 rfl) ?_
      refine gh_get (v := .ref (gA G 12)) (C := RX0) (T := TX0) (N := 7) hx hb hw inlX0 hown hT hP 11 (Nat.le_of_ble_eq_true rfl) kd11 rfl rfl 1 (by decide) (hw _ uw74) rfl dX0_takeFromAll_11 ?_
      refine lv_iload_n hx hb dX0_takeFromAll_14 rfl (lv_at hl 2 rfl) ?_
      refine lv_iload_n hx hb dX0_takeFromAll_15 rfl (lv_at hl 1 rfl) ?_
      refine lv_ineg hx hb dX0_takeFromAll_16 ?_
      refine gh_kv (va_runV (As := [.int x2, .int (-x1)]) (rest := []) ⟨hx, hb, hml, hown, hw⟩ (cc_X4_add l G V 12 gi12 x2 (-x1)) (cwV 2 hw gv_RX0_54 rfl rfl rfl dd_X4_add ⟨Nat.le_of_ble_eq_true rfl, Nat.le_of_ble_eq_true rfl⟩) (gh_preV hT hP (Nat.le_of_ble_eq_true rfl) kd12 rfl rfl) rfl rfl hl.1 rfl (lv_room (Nat.le_of_ble_eq_true rfl)) dX0_takeFromAll_17 ⟨Nat.zero_le _, Nat.zero_le _⟩) hS (fun H locs hP hS => ?_)
      exact b_20 x1 x2 (MX4_add 12 x2 (-x1) V) _ _ _ (lv_sub hl [0, 1, 2] rfl) hP hS hs hres
  refine lv_iconst (v := 0) hx hb dX0_takeFromAll_0 (by decide) ?_
  refine lv_istore_n (lv' := [(2, .int (0 : Int32)), (0, .ref (gA G 11)), (1, .int a1)]) hx hb dX0_takeFromAll_1 rfl hl (by decide) rfl (fun ls hl => ?_)
  exact b_2 1000 a1 (0 : Int32) V _ _ _ (lv_sub hl [1, 2, 0] rfl) hP hS hs hres
def MX0_behind  (a1 : Int32) (V : gV) : Int32 := if (V 11 0) ≤ (a1 + (1 : Int32)) then ((0 : Int32)) else ((a1 + (1 : Int32)))
abbrev wc_X0_behind : List Cond := Cond.code yX0_behind cX0_behind 2 (some .int) :: wsL_law
abbrev r_X0_behind : Room := { frames := 0, cells := 0, slots := 0, locals := 0 }
theorem dd_X0_behind : yX0_behind.cls = RX0 ∧ yX0_behind.cls ≠ "java/lang/invoke/MethodHandle" ∧ yX0_behind.cls ≠ "java/lang/invoke/VarHandle" ∧ (parseMethodDescriptor yX0_behind.desc).map (fun d => d.parameters.length) = some 1 := by decide +kernel
set_option maxHeartbeats 8000000 in
set_option maxRecDepth 100000 in
theorem cc_X0_behind (l : Launch) (G : gG) (V : gV)   (a1 : Int32)  : Met l yX0_behind wc_X0_behind r_X0_behind (va_Pc [.ref (gA G 11), .int a1] (gW G V)) (gQR G (MX0_behind a1 V) V) 0 0 (gF G) := by
  refine Met.ofW (cc := cX0_behind) (maxL := 2) (ret := (some .int)) (by decide) rfl ?_
  intro p e s m args below meth c s₁ B hml hv
  obtain ⟨rfl, hP, hT⟩ := hv
  have hx := B.exec
  have hb := B.bytes
  have hr := B.returns
  have hw := gh_hw (atoms_spec (ws := wc_X0_behind) B.pre)
  have hown : s.vm.findClass RX0 = some m.cls := findClass_of_methodNamed B.named
  have hlocks := B.notSynchronized
  have hS : va_S (gF G) s.heap s.heap [] := va_S.rf
  have hl := lv_entry ([.ref (gA G 11), .int a1]) (n := 2) (Nat.le_of_ble_eq_true rfl)
  rw [lg_entry_eq]
  generalize (lg_sl ([.ref (gA G 11), .int a1]) ++ List.replicate (2 - (lg_sl ([.ref (gA G 11), .int a1])).length) Slot.unset).toArray = ls at hl ⊢
  have hl : lv_has ls 2 [(0, .ref (gA G 11)), (1, .int a1)] := hl
  obtain ⟨res, hres⟩ : ∃ r, r = MX0_behind a1 V := ⟨_, rfl⟩
  rw [← hres]
  show W p l e r_X0_behind s m ([.ref (gA G 11), .int a1] : List Value).toArray below meth c s.heap [] 0 0 (MQ below (gQR G res V) ([.ref (gA G 11), .int a1] : List Value).toArray s 0 0 (gF G)) (F0 m 0 ls [])
  have hres : res = (if (V 11 0) ≤ (a1 + (1 : Int32)) then ((0 : Int32)) else ((a1 + (1 : Int32)))) := hres
  refine lv_iload_n hx hb dX0_behind_0 rfl (lv_at hl 1 rfl) ?_
  refine lv_iconst (v := 1) hx hb dX0_behind_1 (by decide) ?_
  refine lv_iadd hx hb dX0_behind_2 ?_
  refine lv_aload_n hx hb dX0_behind_3 rfl (lv_at hl 0 rfl) ?_
  refine gh_get (v := .int (V 11 0)) (C := RX0) (T := TX0) (N := 7) hx hb hw inlX0 hown hT hP 11 (Nat.le_of_ble_eq_true rfl) kd11 rfl rfl 0 (by decide) (hw _ uw170) rfl dX0_behind_4 ?_
  refine lv_icmp_ge (tgt := 16) hx hb dX0_behind_7 (by decide) (fun c_1 => ?_) (fun c_1 => ?_)
  · have hres := hres.trans (if_pos c_1)
    refine lv_iconst (v := 0) hx hb dX0_behind_16 (by decide) ?_
    exact gh_iretR hx hb hr hlocks hP hS hT hres dX0_behind_17
  have hres := hres.trans (if_neg c_1)
  refine lv_iload_n hx hb dX0_behind_10 rfl (lv_at hl 1 rfl) ?_
  refine lv_iconst (v := 1) hx hb dX0_behind_11 (by decide) ?_
  refine lv_iadd hx hb dX0_behind_12 ?_
  refine lv_goto (tgt := 17) hx hb dX0_behind_13 (by decide) ?_
  exact gh_iretR hx hb hr hlocks hP hS hT hres dX0_behind_17
def MX0_hasHint  (a1 : Int32) (V : gV) : Int32 := if (MX4_at 20 a1 V) = (26 : Int32) then ((0 : Int32)) else ((1 : Int32))
abbrev wc_X0_hasHint : List Cond := Cond.code yX0_hasHint cX0_hasHint 2 (some .boolean) :: wsL_law
abbrev r_X0_hasHint : Room := { frames := 1, cells := 0, slots := 0, locals := 21 }
theorem dd_X0_hasHint : yX0_hasHint.cls = RX0 ∧ yX0_hasHint.cls ≠ "java/lang/invoke/MethodHandle" ∧ yX0_hasHint.cls ≠ "java/lang/invoke/VarHandle" ∧ (parseMethodDescriptor yX0_hasHint.desc).map (fun d => d.parameters.length) = some 1 := by decide +kernel
set_option maxHeartbeats 8000000 in
set_option maxRecDepth 100000 in
theorem cc_X0_hasHint (l : Launch) (G : gG) (V : gV)   (a1 : Int32)  : Met l yX0_hasHint wc_X0_hasHint r_X0_hasHint (va_Pc [.ref (gA G 11), .int a1] (gW G V)) (gQR G (MX0_hasHint a1 V) V) 0 0 (gF G) := by
  refine Met.ofW (cc := cX0_hasHint) (maxL := 2) (ret := (some .boolean)) (by decide) rfl ?_
  intro p e s m args below meth c s₁ B hml hv
  obtain ⟨rfl, hP, hT⟩ := hv
  have hx := B.exec
  have hb := B.bytes
  have hr := B.returns
  have hw := gh_hw (atoms_spec (ws := wc_X0_hasHint) B.pre)
  have hown : s.vm.findClass RX0 = some m.cls := findClass_of_methodNamed B.named
  have hlocks := B.notSynchronized
  have hS : va_S (gF G) s.heap s.heap [] := va_S.rf
  have hl := lv_entry ([.ref (gA G 11), .int a1]) (n := 2) (Nat.le_of_ble_eq_true rfl)
  rw [lg_entry_eq]
  generalize (lg_sl ([.ref (gA G 11), .int a1]) ++ List.replicate (2 - (lg_sl ([.ref (gA G 11), .int a1])).length) Slot.unset).toArray = ls at hl ⊢
  have hl : lv_has ls 2 [(0, .ref (gA G 11)), (1, .int a1)] := hl
  obtain ⟨res, hres⟩ : ∃ r, r = MX0_hasHint a1 V := ⟨_, rfl⟩
  rw [← hres]
  show W p l e r_X0_hasHint s m ([.ref (gA G 11), .int a1] : List Value).toArray below meth c s.heap [] 0 0 (MQ below (gQR G res V) ([.ref (gA G 11), .int a1] : List Value).toArray s 0 0 (gF G)) (F0 m 0 ls [])
  have hres : res = (if (MX4_at 20 a1 V) = (26 : Int32) then ((0 : Int32)) else ((1 : Int32))) := hres
  refine lv_aload_n hx hb dX0_hasHint_0 rfl (lv_at hl 0 rfl) ?_
  refine gh_get (v := .ref (gA G 20)) (C := RX0) (T := TX0) (N := 7) hx hb hw inlX0 hown hT hP 11 (Nat.le_of_ble_eq_true rfl) kd11 rfl rfl 5 (by decide) (hw _ uw78) rfl dX0_hasHint_1 ?_
  refine lv_iload_n hx hb dX0_hasHint_4 rfl (lv_at hl 1 rfl) ?_
  refine gh_kr (va_runV (As := [.int a1]) (rest := []) ⟨hx, hb, hml, hown, hw⟩ (cc_X4_at l G V 20 gi20 a1) (cwV 1 hw gv_RX0_50 rfl rfl rfl dd_X4_at ⟨Nat.le_of_ble_eq_true rfl, Nat.le_of_ble_eq_true rfl⟩) (gh_preV hT hP (Nat.le_of_ble_eq_true rfl) kd20 rfl rfl) rfl rfl hl.1 rfl (lv_room (Nat.le_of_ble_eq_true rfl)) dX0_hasHint_5 ⟨Nat.zero_le _, Nat.zero_le _⟩) hS (fun H locs hP hS => ?_)
  refine lv_bipush (v := 26) hx hb dX0_hasHint_8 (by decide) ?_
  refine lv_icmp_eq (tgt := 17) hx hb dX0_hasHint_10 (by decide) (fun c_1 => ?_) (fun c_1 => ?_)
  · have hres := hres.trans (if_pos c_1)
    refine lv_iconst (v := 0) hx hb dX0_hasHint_17 (by decide) ?_
    exact gh_zretR hx hb hr rfl hlocks hP hS hT hres dX0_hasHint_18
  have hres := hres.trans (if_neg c_1)
  refine lv_iconst (v := 1) hx hb dX0_hasHint_13 (by decide) ?_
  refine lv_goto (tgt := 18) hx hb dX0_hasHint_14 (by decide) ?_
  exact gh_zretR hx hb hr rfl hlocks hP hS hT hres dX0_hasHint_18
theorem gz_X0_hasHint  (a1 : Int32) (V : gV) : gZ (MX0_hasHint a1 V) := by
  unfold MX0_hasHint
  repeat (any_goals split)
  all_goals first | exact Or.inl rfl | exact Or.inr rfl
def BX0_dropHints_15  (K2 : Int32 → gV → gV) (x1 : Int32) (V : gV) : gV := K2 (x1 + (1 : Int32)) V
def PX0_dropHints_15  (KP2 : Int32 → gV → Prop) (x1 : Int32) (V : gV) : Prop := (KP2 (x1 + (1 : Int32)) V)
def BX0_dropHints_2   : Nat → Int32 → gV → gV
  | 0, _, V => V
  | n + 1, x1, V => if (V 11 0) ≤ x1 then (V) else (BX0_dropHints_15 (BX0_dropHints_2 n) x1 (MX0_dropHint x1 V))
def PX0_dropHints_2   : Nat → Int32 → gV → Prop
  | 0, _, _ => False
  | n + 1, x1, V => ((¬ (V 11 0) ≤ x1 → (PX0_dropHints_15 (PX0_dropHints_2 n) x1 (MX0_dropHint x1 V))))
def MX0_dropHints   (V : gV) : gV := BX0_dropHints_2 1000 (0 : Int32) V
def PX0_dropHints   (V : gV) : Prop := (PX0_dropHints_2 1000 (0 : Int32) V)
abbrev wc_X0_dropHints : List Cond := Cond.code yX0_dropHints cX0_dropHints 2 none :: wsL_law
abbrev r_X0_dropHints : Room := { frames := 2, cells := 0, slots := 0, locals := 43 }
theorem dd_X0_dropHints : yX0_dropHints.cls = RX0 ∧ yX0_dropHints.cls ≠ "java/lang/invoke/MethodHandle" ∧ yX0_dropHints.cls ≠ "java/lang/invoke/VarHandle" ∧ (parseMethodDescriptor yX0_dropHints.desc).map (fun d => d.parameters.length) = some 0 := by decide +kernel
set_option maxHeartbeats 8000000 in
set_option maxRecDepth 100000 in
theorem cc_X0_dropHints (l : Launch) (G : gG) (V : gV)    (hs : PX0_dropHints V) : Met l yX0_dropHints wc_X0_dropHints r_X0_dropHints (va_Pc [.ref (gA G 11)] (gW G V)) (gQV G (MX0_dropHints V)) 0 0 (gF G) := by
  refine Met.ofW (cc := cX0_dropHints) (maxL := 2) (ret := none) (by decide) rfl ?_
  intro p e s m args below meth c s₁ B hml hv
  obtain ⟨rfl, hP, hT⟩ := hv
  have hx := B.exec
  have hb := B.bytes
  have hr := B.returns
  have hw := gh_hw (atoms_spec (ws := wc_X0_dropHints) B.pre)
  have hown : s.vm.findClass RX0 = some m.cls := findClass_of_methodNamed B.named
  have hlocks := B.notSynchronized
  have hS : va_S (gF G) s.heap s.heap [] := va_S.rf
  have hl := lv_entry ([.ref (gA G 11)]) (n := 2) (Nat.le_of_ble_eq_true rfl)
  rw [lg_entry_eq]
  generalize (lg_sl ([.ref (gA G 11)]) ++ List.replicate (2 - (lg_sl ([.ref (gA G 11)])).length) Slot.unset).toArray = ls at hl ⊢
  have hl : lv_has ls 2 [(0, .ref (gA G 11))] := hl
  obtain ⟨res, hres⟩ : ∃ r, r = MX0_dropHints V := ⟨_, rfl⟩
  rw [← hres]
  show W p l e r_X0_dropHints s m ([.ref (gA G 11)] : List Value).toArray below meth c s.heap [] 0 0 (MQ below (gQV G res) ([.ref (gA G 11)] : List Value).toArray s 0 0 (gF G)) (F0 m 0 ls [])
  have hs : (PX0_dropHints_2 1000 (0 : Int32) V) := hs
  have hres : res = (BX0_dropHints_2 1000 (0 : Int32) V) := hres
  have b_2 : ∀ (n : Nat) (x1 : Int32) (V : gV) (H : Heap) (locs : List Loc) (ls : Array Slot), lv_has ls 2 [(0, .ref (gA G 11)), (1, .int x1)] → va_P (gD G) vwCl (gL G V) H → va_S (gF G) s.heap H locs → PX0_dropHints_2  n x1 V → res = BX0_dropHints_2  n x1 V → W p l e r_X0_dropHints s m ([.ref (gA G 11)] : List Value).toArray below meth c H locs 0 0 (MQ below (gQV G res) ([.ref (gA G 11)] : List Value).toArray s 0 0 (gF G)) (F0 m 2 ls []) := by
    intro n
    induction n with
    | zero =>
      intro x1 V H locs ls hl hP hS hs hres
      exact (show False from hs).elim
    | succ n2 ih2 =>
      have b_15 : ∀ (x1 : Int32) (V : gV) (H : Heap) (locs : List Loc) (ls : Array Slot), lv_has ls 2 [(0, .ref (gA G 11)), (1, .int x1)] → va_P (gD G) vwCl (gL G V) H → va_S (gF G) s.heap H locs → PX0_dropHints_15 (PX0_dropHints_2 n2) x1 V → res = BX0_dropHints_15 (BX0_dropHints_2 n2) x1 V → W p l e r_X0_dropHints s m ([.ref (gA G 11)] : List Value).toArray below meth c H locs 0 0 (MQ below (gQV G res) ([.ref (gA G 11)] : List Value).toArray s 0 0 (gF G)) (F0 m 15 ls []) := by
        intro x1 V H locs ls hl hP hS hs hres
        have hs : ((PX0_dropHints_2 n2) (x1 + (1 : Int32)) V) := hs
        have hres : res = ((BX0_dropHints_2 n2) (x1 + (1 : Int32)) V) := hres
        refine lv_iinc (v := (x1 + (1 : Int32))) (lv' := [(1, .int (x1 + (1 : Int32))), (0, .ref (gA G 11))]) hx hb dX0_dropHints_15 hl (k := 1) rfl rfl (by decide) rfl (fun ls hl => ?_)
        refine lv_goto (tgt := 2) hx hb dX0_dropHints_18 (by decide) ?_
        exact ih2 (x1 + (1 : Int32)) V _ _ _ (lv_sub hl [1, 0] rfl) hP hS hs hres
      intro x1 V H locs ls hl hP hS hs hres
      have hs : ((¬ (V 11 0) ≤ x1 → (PX0_dropHints_15 (PX0_dropHints_2 n2) x1 (MX0_dropHint x1 V)))) := hs
      have hres : res = (if (V 11 0) ≤ x1 then (V) else (BX0_dropHints_15 (BX0_dropHints_2 n2) x1 (MX0_dropHint x1 V))) := hres
      refine lv_iload_n hx hb dX0_dropHints_2 rfl (lv_at hl 1 rfl) ?_
      refine lv_aload_n hx hb dX0_dropHints_3 rfl (lv_at hl 0 rfl) ?_
      refine gh_get (v := .int (V 11 0)) (C := RX0) (T := TX0) (N := 7) hx hb hw inlX0 hown hT hP 11 (Nat.le_of_ble_eq_true rfl) kd11 rfl rfl 0 (by decide) (hw _ uw170) rfl dX0_dropHints_4 ?_
      refine lv_icmp_ge (tgt := 21) hx hb dX0_dropHints_7 (by decide) (fun c_1 => ?_) (fun c_1 => ?_)
      · have hres := hres.trans (if_pos c_1)
        exact gh_vret hx hb hr hlocks hP hS hT hres dX0_dropHints_21
      have hres := hres.trans (if_neg c_1)
      have hs := hs c_1
      refine lv_aload_n hx hb dX0_dropHints_10 rfl (lv_at hl 0 rfl) ?_
      refine lv_iload_n hx hb dX0_dropHints_11 rfl (lv_at hl 1 rfl) ?_
      refine gh_kv (va_runV (As := [.int x1]) (rest := []) ⟨hx, hb, hml, hown, hw⟩ (cc_X0_dropHint l G V x1) (cwV 1 hw gv_RX0_47 rfl rfl rfl dd_X0_dropHint ⟨Nat.le_of_ble_eq_true rfl, Nat.le_of_ble_eq_true rfl⟩) (gh_preV hT hP (Nat.le_of_ble_eq_true rfl) kd11 rfl rfl) rfl rfl hl.1 rfl (lv_room (Nat.le_of_ble_eq_true rfl)) dX0_dropHints_12 ⟨Nat.zero_le _, Nat.zero_le _⟩) hS (fun H locs hP hS => ?_)
      exact b_15 x1 (MX0_dropHint x1 V) _ _ _ (lv_sub hl [0, 1] rfl) hP hS hs hres
  refine lv_iconst (v := 0) hx hb dX0_dropHints_0 (by decide) ?_
  refine lv_istore_n (lv' := [(1, .int (0 : Int32)), (0, .ref (gA G 11))]) hx hb dX0_dropHints_1 rfl hl (by decide) rfl (fun ls hl => ?_)
  exact b_2 1000 (0 : Int32) V _ _ _ (lv_sub hl [1, 0] rfl) hP hS hs hres
theorem gv_RX0_39 : GoodIn wsL_law (wsV RX0 39 RX4 yX4_copyFrom wc_X4_copyFrom) := gh_gV uw171 uw158 uw159 uw55 uw160
def BX0_copyFrom_63 (k : Nat) (o : Nat)   (V : gV) : gV := (MX4_copyFrom (k + 11) (o + 11) V)
def BX0_copyFrom_52 (k : Nat) (o : Nat)   (V : gV) : gV := BX0_copyFrom_63 k o (MX4_copyFrom (k + 9) (o + 9) V)
def BX0_copyFrom_41 (k : Nat) (o : Nat)   (V : gV) : gV := BX0_copyFrom_52 k o (MX4_copyFrom (k + 7) (o + 7) V)
def BX0_copyFrom_30 (k : Nat) (o : Nat)   (V : gV) : gV := BX0_copyFrom_41 k o (MX4_copyFrom (k + 5) (o + 5) V)
def BX0_copyFrom_19 (k : Nat) (o : Nat)   (V : gV) : gV := BX0_copyFrom_30 k o (MX4_copyFrom (k + 3) (o + 3) V)
def BX0_copyFrom_8 (k : Nat) (o : Nat)   (V : gV) : gV := BX0_copyFrom_19 k o (MX4_copyFrom (k + 1) (o + 1) V)
def MX0_copyFrom (k : Nat) (o : Nat)  (V : gV) : gV := BX0_copyFrom_8 k o (gu V k 0 (V o 0))
abbrev wc_X0_copyFrom : List Cond := Cond.code yX0_copyFrom cX0_copyFrom 2 none :: wsL_law
abbrev r_X0_copyFrom : Room := { frames := 2, cells := 0, slots := 0, locals := 61 }
theorem dd_X0_copyFrom : yX0_copyFrom.cls = RX0 ∧ yX0_copyFrom.cls ≠ "java/lang/invoke/MethodHandle" ∧ yX0_copyFrom.cls ≠ "java/lang/invoke/VarHandle" ∧ (parseMethodDescriptor yX0_copyFrom.desc).map (fun d => d.parameters.length) = some 1 := by decide +kernel
set_option maxHeartbeats 8000000 in
set_option maxRecDepth 100000 in
theorem cc_X0_copyFrom (l : Launch) (G : gG) (V : gV) (k : Nat) (hk : gX0 k) (o : Nat) (ho : gX0 o)    : Met l yX0_copyFrom wc_X0_copyFrom r_X0_copyFrom (va_Pc [.ref (gA G k), .ref (gA G o)] (gW G V)) (gQV G (MX0_copyFrom k o V)) 0 0 (gF G) := by
  refine Met.ofW (cc := cX0_copyFrom) (maxL := 2) (ret := none) (by decide) rfl ?_
  intro p e s m args below meth c s₁ B hml hv
  obtain ⟨rfl, hP, hT⟩ := hv
  have hx := B.exec
  have hb := B.bytes
  have hr := B.returns
  have hw := gh_hw (atoms_spec (ws := wc_X0_copyFrom) B.pre)
  have hown : s.vm.findClass RX0 = some m.cls := findClass_of_methodNamed B.named
  have hlocks := B.notSynchronized
  have hS : va_S (gF G) s.heap s.heap [] := va_S.rf
  have hl := lv_entry ([.ref (gA G k), .ref (gA G o)]) (n := 2) (Nat.le_of_ble_eq_true rfl)
  rw [lg_entry_eq]
  generalize (lg_sl ([.ref (gA G k), .ref (gA G o)]) ++ List.replicate (2 - (lg_sl ([.ref (gA G k), .ref (gA G o)])).length) Slot.unset).toArray = ls at hl ⊢
  have hl : lv_has ls 2 [(0, .ref (gA G k)), (1, .ref (gA G o))] := hl
  obtain ⟨res, hres⟩ : ∃ r, r = MX0_copyFrom k o V := ⟨_, rfl⟩
  rw [← hres]
  show W p l e r_X0_copyFrom s m ([.ref (gA G k), .ref (gA G o)] : List Value).toArray below meth c s.heap [] 0 0 (MQ below (gQV G res) ([.ref (gA G k), .ref (gA G o)] : List Value).toArray s 0 0 (gF G)) (F0 m 0 ls [])
  have hres : res = (BX0_copyFrom_8 k o (gu V k 0 (V o 0))) := hres
  have b_63 : ∀  (V : gV) (H : Heap) (locs : List Loc) (ls : Array Slot), lv_has ls 2 [(0, .ref (gA G k)), (1, .ref (gA G o))] → va_P (gD G) vwCl (gL G V) H → va_S (gF G) s.heap H locs → res = BX0_copyFrom_63 k o  V → W p l e r_X0_copyFrom s m ([.ref (gA G k), .ref (gA G o)] : List Value).toArray below meth c H locs 0 0 (MQ below (gQV G res) ([.ref (gA G k), .ref (gA G o)] : List Value).toArray s 0 0 (gF G)) (F0 m 63 ls []) := by
    intro  V H locs ls hl hP hS hres
    have hres : res = ((MX4_copyFrom (k + 11) (o + 11) V)) := hres
    refine lv_aload_n hx hb dX0_copyFrom_63 rfl (lv_at hl 0 rfl) ?_
    refine gh_get (v := .ref (gA G (k + 11))) (C := RX0) (T := TX0) (N := 7) hx hb hw inlX0 hown hT hP k (Nat.lt_of_le_of_lt (Nat.le_add_right _ 12) (hk).1) (hk).2.1 rfl rfl 6 (by decide) (hw _ uw79) rfl dX0_copyFrom_64 ?_
    refine lv_aload_n hx hb dX0_copyFrom_67 rfl (lv_at hl 1 rfl) ?_
    refine gh_get (v := .ref (gA G (o + 11))) (C := RX0) (T := TX0) (N := 7) hx hb hw inlX0 hown hT hP o (Nat.lt_of_le_of_lt (Nat.le_add_right _ 12) (ho).1) (ho).2.1 rfl rfl 6 (by decide) (hw _ uw79) rfl dX0_copyFrom_68 ?_
    refine gh_kv (va_runV (As := [.ref (gA G (o + 11))]) (rest := []) ⟨hx, hb, hml, hown, hw⟩ (cc_X4_copyFrom l G V (k + 11) (hk).2.2.2.2.2.2.2 (o + 11) (ho).2.2.2.2.2.2.2) (cwV 1 hw gv_RX0_39 rfl rfl rfl dd_X4_copyFrom ⟨Nat.le_of_ble_eq_true rfl, Nat.le_of_ble_eq_true rfl⟩) (gh_preV hT hP (Nat.lt_of_succ_lt ((hk).2.2.2.2.2.2.2).1) ((hk).2.2.2.2.2.2.2).2.1 rfl rfl) rfl rfl hl.1 rfl (lv_room (Nat.le_of_ble_eq_true rfl)) dX0_copyFrom_71 ⟨Nat.zero_le _, Nat.zero_le _⟩) hS (fun H locs hP hS => ?_)
    exact gh_vret hx hb hr hlocks hP hS hT hres dX0_copyFrom_74
  have b_52 : ∀  (V : gV) (H : Heap) (locs : List Loc) (ls : Array Slot), lv_has ls 2 [(0, .ref (gA G k)), (1, .ref (gA G o))] → va_P (gD G) vwCl (gL G V) H → va_S (gF G) s.heap H locs → res = BX0_copyFrom_52 k o  V → W p l e r_X0_copyFrom s m ([.ref (gA G k), .ref (gA G o)] : List Value).toArray below meth c H locs 0 0 (MQ below (gQV G res) ([.ref (gA G k), .ref (gA G o)] : List Value).toArray s 0 0 (gF G)) (F0 m 52 ls []) := by
    intro  V H locs ls hl hP hS hres
    have hres : res = (BX0_copyFrom_63 k o (MX4_copyFrom (k + 9) (o + 9) V)) := hres
    refine lv_aload_n hx hb dX0_copyFrom_52 rfl (lv_at hl 0 rfl) ?_
    refine gh_get (v := .ref (gA G (k + 9))) (C := RX0) (T := TX0) (N := 7) hx hb hw inlX0 hown hT hP k (Nat.lt_of_le_of_lt (Nat.le_add_right _ 12) (hk).1) (hk).2.1 rfl rfl 5 (by decide) (hw _ uw78) rfl dX0_copyFrom_53 ?_
    refine lv_aload_n hx hb dX0_copyFrom_56 rfl (lv_at hl 1 rfl) ?_
    refine gh_get (v := .ref (gA G (o + 9))) (C := RX0) (T := TX0) (N := 7) hx hb hw inlX0 hown hT hP o (Nat.lt_of_le_of_lt (Nat.le_add_right _ 12) (ho).1) (ho).2.1 rfl rfl 5 (by decide) (hw _ uw78) rfl dX0_copyFrom_57 ?_
    refine gh_kv (va_runV (As := [.ref (gA G (o + 9))]) (rest := []) ⟨hx, hb, hml, hown, hw⟩ (cc_X4_copyFrom l G V (k + 9) (hk).2.2.2.2.2.2.1 (o + 9) (ho).2.2.2.2.2.2.1) (cwV 1 hw gv_RX0_39 rfl rfl rfl dd_X4_copyFrom ⟨Nat.le_of_ble_eq_true rfl, Nat.le_of_ble_eq_true rfl⟩) (gh_preV hT hP (Nat.lt_of_succ_lt ((hk).2.2.2.2.2.2.1).1) ((hk).2.2.2.2.2.2.1).2.1 rfl rfl) rfl rfl hl.1 rfl (lv_room (Nat.le_of_ble_eq_true rfl)) dX0_copyFrom_60 ⟨Nat.zero_le _, Nat.zero_le _⟩) hS (fun H locs hP hS => ?_)
    exact b_63 (MX4_copyFrom (k + 9) (o + 9) V) _ _ _ (lv_sub hl [0, 1] rfl) hP hS hres
  have b_41 : ∀  (V : gV) (H : Heap) (locs : List Loc) (ls : Array Slot), lv_has ls 2 [(0, .ref (gA G k)), (1, .ref (gA G o))] → va_P (gD G) vwCl (gL G V) H → va_S (gF G) s.heap H locs → res = BX0_copyFrom_41 k o  V → W p l e r_X0_copyFrom s m ([.ref (gA G k), .ref (gA G o)] : List Value).toArray below meth c H locs 0 0 (MQ below (gQV G res) ([.ref (gA G k), .ref (gA G o)] : List Value).toArray s 0 0 (gF G)) (F0 m 41 ls []) := by
    intro  V H locs ls hl hP hS hres
    have hres : res = (BX0_copyFrom_52 k o (MX4_copyFrom (k + 7) (o + 7) V)) := hres
    refine lv_aload_n hx hb dX0_copyFrom_41 rfl (lv_at hl 0 rfl) ?_
    refine gh_get (v := .ref (gA G (k + 7))) (C := RX0) (T := TX0) (N := 7) hx hb hw inlX0 hown hT hP k (Nat.lt_of_le_of_lt (Nat.le_add_right _ 12) (hk).1) (hk).2.1 rfl rfl 4 (by decide) (hw _ uw77) rfl dX0_copyFrom_42 ?_
    refine lv_aload_n hx hb dX0_copyFrom_45 rfl (lv_at hl 1 rfl) ?_
    refine gh_get (v := .ref (gA G (o + 7))) (C := RX0) (T := TX0) (N := 7) hx hb hw inlX0 hown hT hP o (Nat.lt_of_le_of_lt (Nat.le_add_right _ 12) (ho).1) (ho).2.1 rfl rfl 4 (by decide) (hw _ uw77) rfl dX0_copyFrom_46 ?_
    refine gh_kv (va_runV (As := [.ref (gA G (o + 7))]) (rest := []) ⟨hx, hb, hml, hown, hw⟩ (cc_X4_copyFrom l G V (k + 7) (hk).2.2.2.2.2.1 (o + 7) (ho).2.2.2.2.2.1) (cwV 1 hw gv_RX0_39 rfl rfl rfl dd_X4_copyFrom ⟨Nat.le_of_ble_eq_true rfl, Nat.le_of_ble_eq_true rfl⟩) (gh_preV hT hP (Nat.lt_of_succ_lt ((hk).2.2.2.2.2.1).1) ((hk).2.2.2.2.2.1).2.1 rfl rfl) rfl rfl hl.1 rfl (lv_room (Nat.le_of_ble_eq_true rfl)) dX0_copyFrom_49 ⟨Nat.zero_le _, Nat.zero_le _⟩) hS (fun H locs hP hS => ?_)
    exact b_52 (MX4_copyFrom (k + 7) (o + 7) V) _ _ _ (lv_sub hl [0, 1] rfl) hP hS hres
  have b_30 : ∀  (V : gV) (H : Heap) (locs : List Loc) (ls : Array Slot), lv_has ls 2 [(0, .ref (gA G k)), (1, .ref (gA G o))] → va_P (gD G) vwCl (gL G V) H → va_S (gF G) s.heap H locs → res = BX0_copyFrom_30 k o  V → W p l e r_X0_copyFrom s m ([.ref (gA G k), .ref (gA G o)] : List Value).toArray below meth c H locs 0 0 (MQ below (gQV G res) ([.ref (gA G k), .ref (gA G o)] : List Value).toArray s 0 0 (gF G)) (F0 m 30 ls []) := by
    intro  V H locs ls hl hP hS hres
    have hres : res = (BX0_copyFrom_41 k o (MX4_copyFrom (k + 5) (o + 5) V)) := hres
    refine lv_aload_n hx hb dX0_copyFrom_30 rfl (lv_at hl 0 rfl) ?_
    refine gh_get (v := .ref (gA G (k + 5))) (C := RX0) (T := TX0) (N := 7) hx hb hw inlX0 hown hT hP k (Nat.lt_of_le_of_lt (Nat.le_add_right _ 12) (hk).1) (hk).2.1 rfl rfl 3 (by decide) (hw _ uw76) rfl dX0_copyFrom_31 ?_
    refine lv_aload_n hx hb dX0_copyFrom_34 rfl (lv_at hl 1 rfl) ?_
    refine gh_get (v := .ref (gA G (o + 5))) (C := RX0) (T := TX0) (N := 7) hx hb hw inlX0 hown hT hP o (Nat.lt_of_le_of_lt (Nat.le_add_right _ 12) (ho).1) (ho).2.1 rfl rfl 3 (by decide) (hw _ uw76) rfl dX0_copyFrom_35 ?_
    refine gh_kv (va_runV (As := [.ref (gA G (o + 5))]) (rest := []) ⟨hx, hb, hml, hown, hw⟩ (cc_X4_copyFrom l G V (k + 5) (hk).2.2.2.2.1 (o + 5) (ho).2.2.2.2.1) (cwV 1 hw gv_RX0_39 rfl rfl rfl dd_X4_copyFrom ⟨Nat.le_of_ble_eq_true rfl, Nat.le_of_ble_eq_true rfl⟩) (gh_preV hT hP (Nat.lt_of_succ_lt ((hk).2.2.2.2.1).1) ((hk).2.2.2.2.1).2.1 rfl rfl) rfl rfl hl.1 rfl (lv_room (Nat.le_of_ble_eq_true rfl)) dX0_copyFrom_38 ⟨Nat.zero_le _, Nat.zero_le _⟩) hS (fun H locs hP hS => ?_)
    exact b_41 (MX4_copyFrom (k + 5) (o + 5) V) _ _ _ (lv_sub hl [0, 1] rfl) hP hS hres
  have b_19 : ∀  (V : gV) (H : Heap) (locs : List Loc) (ls : Array Slot), lv_has ls 2 [(0, .ref (gA G k)), (1, .ref (gA G o))] → va_P (gD G) vwCl (gL G V) H → va_S (gF G) s.heap H locs → res = BX0_copyFrom_19 k o  V → W p l e r_X0_copyFrom s m ([.ref (gA G k), .ref (gA G o)] : List Value).toArray below meth c H locs 0 0 (MQ below (gQV G res) ([.ref (gA G k), .ref (gA G o)] : List Value).toArray s 0 0 (gF G)) (F0 m 19 ls []) := by
    intro  V H locs ls hl hP hS hres
    have hres : res = (BX0_copyFrom_30 k o (MX4_copyFrom (k + 3) (o + 3) V)) := hres
    refine lv_aload_n hx hb dX0_copyFrom_19 rfl (lv_at hl 0 rfl) ?_
    refine gh_get (v := .ref (gA G (k + 3))) (C := RX0) (T := TX0) (N := 7) hx hb hw inlX0 hown hT hP k (Nat.lt_of_le_of_lt (Nat.le_add_right _ 12) (hk).1) (hk).2.1 rfl rfl 2 (by decide) (hw _ uw75) rfl dX0_copyFrom_20 ?_
    refine lv_aload_n hx hb dX0_copyFrom_23 rfl (lv_at hl 1 rfl) ?_
    refine gh_get (v := .ref (gA G (o + 3))) (C := RX0) (T := TX0) (N := 7) hx hb hw inlX0 hown hT hP o (Nat.lt_of_le_of_lt (Nat.le_add_right _ 12) (ho).1) (ho).2.1 rfl rfl 2 (by decide) (hw _ uw75) rfl dX0_copyFrom_24 ?_
    refine gh_kv (va_runV (As := [.ref (gA G (o + 3))]) (rest := []) ⟨hx, hb, hml, hown, hw⟩ (cc_X4_copyFrom l G V (k + 3) (hk).2.2.2.1 (o + 3) (ho).2.2.2.1) (cwV 1 hw gv_RX0_39 rfl rfl rfl dd_X4_copyFrom ⟨Nat.le_of_ble_eq_true rfl, Nat.le_of_ble_eq_true rfl⟩) (gh_preV hT hP (Nat.lt_of_succ_lt ((hk).2.2.2.1).1) ((hk).2.2.2.1).2.1 rfl rfl) rfl rfl hl.1 rfl (lv_room (Nat.le_of_ble_eq_true rfl)) dX0_copyFrom_27 ⟨Nat.zero_le _, Nat.zero_le _⟩) hS (fun H locs hP hS => ?_)
    exact b_30 (MX4_copyFrom (k + 3) (o + 3) V) _ _ _ (lv_sub hl [0, 1] rfl) hP hS hres
  have b_8 : ∀  (V : gV) (H : Heap) (locs : List Loc) (ls : Array Slot), lv_has ls 2 [(0, .ref (gA G k)), (1, .ref (gA G o))] → va_P (gD G) vwCl (gL G V) H → va_S (gF G) s.heap H locs → res = BX0_copyFrom_8 k o  V → W p l e r_X0_copyFrom s m ([.ref (gA G k), .ref (gA G o)] : List Value).toArray below meth c H locs 0 0 (MQ below (gQV G res) ([.ref (gA G k), .ref (gA G o)] : List Value).toArray s 0 0 (gF G)) (F0 m 8 ls []) := by
    intro  V H locs ls hl hP hS hres
    have hres : res = (BX0_copyFrom_19 k o (MX4_copyFrom (k + 1) (o + 1) V)) := hres
    refine lv_aload_n hx hb dX0_copyFrom_8 rfl (lv_at hl 0 rfl) ?_
    refine gh_get (v := .ref (gA G (k + 1))) (C := RX0) (T := TX0) (N := 7) hx hb hw inlX0 hown hT hP k (Nat.lt_of_le_of_lt (Nat.le_add_right _ 12) (hk).1) (hk).2.1 rfl rfl 1 (by decide) (hw _ uw74) rfl dX0_copyFrom_9 ?_
    refine lv_aload_n hx hb dX0_copyFrom_12 rfl (lv_at hl 1 rfl) ?_
    refine gh_get (v := .ref (gA G (o + 1))) (C := RX0) (T := TX0) (N := 7) hx hb hw inlX0 hown hT hP o (Nat.lt_of_le_of_lt (Nat.le_add_right _ 12) (ho).1) (ho).2.1 rfl rfl 1 (by decide) (hw _ uw74) rfl dX0_copyFrom_13 ?_
    refine gh_kv (va_runV (As := [.ref (gA G (o + 1))]) (rest := []) ⟨hx, hb, hml, hown, hw⟩ (cc_X4_copyFrom l G V (k + 1) (hk).2.2.1 (o + 1) (ho).2.2.1) (cwV 1 hw gv_RX0_39 rfl rfl rfl dd_X4_copyFrom ⟨Nat.le_of_ble_eq_true rfl, Nat.le_of_ble_eq_true rfl⟩) (gh_preV hT hP (Nat.lt_of_succ_lt ((hk).2.2.1).1) ((hk).2.2.1).2.1 rfl rfl) rfl rfl hl.1 rfl (lv_room (Nat.le_of_ble_eq_true rfl)) dX0_copyFrom_16 ⟨Nat.zero_le _, Nat.zero_le _⟩) hS (fun H locs hP hS => ?_)
    exact b_19 (MX4_copyFrom (k + 1) (o + 1) V) _ _ _ (lv_sub hl [0, 1] rfl) hP hS hres
  refine lv_aload_n hx hb dX0_copyFrom_0 rfl (lv_at hl 0 rfl) ?_
  refine lv_aload_n hx hb dX0_copyFrom_1 rfl (lv_at hl 1 rfl) ?_
  refine gh_get (v := .int (V o 0)) (C := RX0) (T := TX0) (N := 7) hx hb hw inlX0 hown hT hP o (Nat.lt_of_le_of_lt (Nat.le_add_right _ 12) (ho).1) (ho).2.1 rfl rfl 0 (by decide) (hw _ uw170) rfl dX0_copyFrom_2 ?_
  refine gh_put (ty := .int) (x := (V o 0)) (C := RX0) (T := TX0) (N := 7) hx hb hw inlX0 tyX0_ok nmX0 hown hT hP hS k (Nat.lt_of_le_of_lt (Nat.le_add_right _ 12) (hk).1) (hk).2.1 rfl rfl 0 (by decide) (hw _ uw170) rfl (by decide +kernel) rfl rfl (Nat.le_of_ble_eq_true rfl) rfl dX0_copyFrom_5 (fun H locs hP hS => ?_)
  exact b_8 (gu V k 0 (V o 0)) _ _ _ (lv_sub hl [0, 1] rfl) hP hS hres
def MX3_takes  (a1 : Int32) (V : gV) : Int32 := if (V 24 0) = 0 then ((0 : Int32)) else (if (MX8_holds (V 24 6) a1 V) = 0 then ((1 : Int32)) else ((0 : Int32)))
abbrev wc_X3_takes : List Cond := Cond.code yX3_takes cX3_takes 2 (some .boolean) :: wsL_law
abbrev r_X3_takes : Room := { frames := 1, cells := 0, slots := 0, locals := 21 }
theorem dd_X3_takes : yX3_takes.cls = RX3 ∧ yX3_takes.cls ≠ "java/lang/invoke/MethodHandle" ∧ yX3_takes.cls ≠ "java/lang/invoke/VarHandle" ∧ (parseMethodDescriptor yX3_takes.desc).map (fun d => d.parameters.length) = some 1 := by decide +kernel
set_option maxHeartbeats 8000000 in
set_option maxRecDepth 100000 in
theorem cc_X3_takes (l : Launch) (G : gG) (V : gV)   (a1 : Int32)  : Met l yX3_takes wc_X3_takes r_X3_takes (va_Pc [.ref (gA G 24), .int a1] (gW G V)) (gQR G (MX3_takes a1 V) V) 0 0 (gF G) := by
  refine Met.ofW (cc := cX3_takes) (maxL := 2) (ret := (some .boolean)) (by decide) rfl ?_
  intro p e s m args below meth c s₁ B hml hv
  obtain ⟨rfl, hP, hT⟩ := hv
  have hx := B.exec
  have hb := B.bytes
  have hr := B.returns
  have hw := gh_hw (atoms_spec (ws := wc_X3_takes) B.pre)
  have hown : s.vm.findClass RX3 = some m.cls := findClass_of_methodNamed B.named
  have hlocks := B.notSynchronized
  have hS : va_S (gF G) s.heap s.heap [] := va_S.rf
  have hl := lv_entry ([.ref (gA G 24), .int a1]) (n := 2) (Nat.le_of_ble_eq_true rfl)
  rw [lg_entry_eq]
  generalize (lg_sl ([.ref (gA G 24), .int a1]) ++ List.replicate (2 - (lg_sl ([.ref (gA G 24), .int a1])).length) Slot.unset).toArray = ls at hl ⊢
  have hl : lv_has ls 2 [(0, .ref (gA G 24)), (1, .int a1)] := hl
  obtain ⟨res, hres⟩ : ∃ r, r = MX3_takes a1 V := ⟨_, rfl⟩
  rw [← hres]
  show W p l e r_X3_takes s m ([.ref (gA G 24), .int a1] : List Value).toArray below meth c s.heap [] 0 0 (MQ below (gQR G res V) ([.ref (gA G 24), .int a1] : List Value).toArray s 0 0 (gF G)) (F0 m 0 ls [])
  have hres : res = (if (V 24 0) = 0 then ((0 : Int32)) else (if (MX8_holds (V 24 6) a1 V) = 0 then ((1 : Int32)) else ((0 : Int32)))) := hres
  refine lv_aload_n hx hb dX3_takes_0 rfl (lv_at hl 0 rfl) ?_
  refine gh_get (v := .int (V 24 0)) (C := RX3) (T := TX3) (N := 7) hx hb hw inlX3 hown hT hP 24 (Nat.le_of_ble_eq_true rfl) kd24 rfl rfl 0 (by decide) (hw _ uw176) rfl dX3_takes_1 ?_
  refine lv_if_eq (tgt := 22) hx hb dX3_takes_4 (by decide) (fun c_1 => ?_) (fun c_1 => ?_)
  · have hres := hres.trans (if_pos c_1)
    refine lv_iconst (v := 0) hx hb dX3_takes_22 (by decide) ?_
    exact gh_zretR hx hb hr rfl hlocks hP hS hT hres dX3_takes_23
  have hres := hres.trans (if_neg c_1)
  refine lv_aload_n hx hb dX3_takes_7 rfl (lv_at hl 0 rfl) ?_
  refine gh_get (v := .int (V 24 6)) (C := RX3) (T := TX3) (N := 7) hx hb hw inlX3 hown hT hP 24 (Nat.le_of_ble_eq_true rfl) kd24 rfl rfl 6 (by decide) (hw _ uw182) rfl dX3_takes_8 ?_
  refine lv_iload_n hx hb dX3_takes_11 rfl (lv_at hl 1 rfl) ?_
  refine gh_kr (va_runSN (As := [.int (V 24 6), .int a1]) (rest := []) ⟨hx, hb, hml, hown, hw⟩ (cc_X8_holds l G V (V 24 6) a1) ⟨va_cnB 2 hw (gh_g1 uw336) rfl rfl rfl hT.2.2.2.2.1 (hw _ uw2) dd_X8_holds.2 ⟨Nat.le_of_ble_eq_true rfl, Nat.le_of_ble_eq_true rfl⟩, hw _ uw335, trivial⟩ (gh_pre hT hP) rfl rfl hl.1 rfl (lv_room (Nat.le_of_ble_eq_true rfl)) dX3_takes_12 ⟨Nat.zero_le _, Nat.zero_le _⟩) hS (fun H locs hP hS => ?_)
  refine lv_if_ne (tgt := 22) hx hb dX3_takes_15 (by decide) (fun c_2 => ?_) (fun c_2 => ?_)
  · have hres := hres.trans (if_neg c_2)
    refine lv_iconst (v := 0) hx hb dX3_takes_22 (by decide) ?_
    exact gh_zretR hx hb hr rfl hlocks hP hS hT hres dX3_takes_23
  have hres := hres.trans (if_pos c_2)
  refine lv_iconst (v := 1) hx hb dX3_takes_18 (by decide) ?_
  refine lv_goto (tgt := 23) hx hb dX3_takes_19 (by decide) ?_
  exact gh_zretR hx hb hr rfl hlocks hP hS hT hres dX3_takes_23
theorem gz_X3_takes  (a1 : Int32) (V : gV) : gZ (MX3_takes a1 V) := by
  unfold MX3_takes
  repeat (any_goals split)
  all_goals first | exact Or.inl rfl | exact Or.inr rfl
def MX3_takeFromPot  (a1 : Int32) (V : gV) : Int32 × gV := ((if (V 24 4) < a1 then (V 24 4) else a1), (gu V 24 4 ((V 24 4) - (if (V 24 4) < a1 then (V 24 4) else a1))))
abbrev wc_X3_takeFromPot : List Cond := Cond.code yX3_takeFromPot cX3_takeFromPot 3 (some .int) :: wsL_law
abbrev r_X3_takeFromPot : Room := { frames := 1, cells := 0, slots := 0, locals := 21 }
theorem dd_X3_takeFromPot : yX3_takeFromPot.cls = RX3 ∧ yX3_takeFromPot.cls ≠ "java/lang/invoke/MethodHandle" ∧ yX3_takeFromPot.cls ≠ "java/lang/invoke/VarHandle" ∧ (parseMethodDescriptor yX3_takeFromPot.desc).map (fun d => d.parameters.length) = some 1 := by decide +kernel
set_option maxHeartbeats 8000000 in
set_option maxRecDepth 100000 in
theorem cc_X3_takeFromPot (l : Launch) (G : gG) (V : gV)   (a1 : Int32)  : Met l yX3_takeFromPot wc_X3_takeFromPot r_X3_takeFromPot (va_Pc [.ref (gA G 24), .int a1] (gW G V)) (gQI G (MX3_takeFromPot a1 V)) 0 0 (gF G) := by
  refine Met.ofW (cc := cX3_takeFromPot) (maxL := 3) (ret := (some .int)) (by decide) rfl ?_
  intro p e s m args below meth c s₁ B hml hv
  obtain ⟨rfl, hP, hT⟩ := hv
  have hx := B.exec
  have hb := B.bytes
  have hr := B.returns
  have hw := gh_hw (atoms_spec (ws := wc_X3_takeFromPot) B.pre)
  have hown : s.vm.findClass RX3 = some m.cls := findClass_of_methodNamed B.named
  have hlocks := B.notSynchronized
  have hS : va_S (gF G) s.heap s.heap [] := va_S.rf
  have hl := lv_entry ([.ref (gA G 24), .int a1]) (n := 3) (Nat.le_of_ble_eq_true rfl)
  rw [lg_entry_eq]
  generalize (lg_sl ([.ref (gA G 24), .int a1]) ++ List.replicate (3 - (lg_sl ([.ref (gA G 24), .int a1])).length) Slot.unset).toArray = ls at hl ⊢
  have hl : lv_has ls 3 [(0, .ref (gA G 24)), (1, .int a1)] := hl
  obtain ⟨res, hres⟩ : ∃ r, r = MX3_takeFromPot a1 V := ⟨_, rfl⟩
  rw [← hres]
  show W p l e r_X3_takeFromPot s m ([.ref (gA G 24), .int a1] : List Value).toArray below meth c s.heap [] 0 0 (MQ below (gQI G res) ([.ref (gA G 24), .int a1] : List Value).toArray s 0 0 (gF G)) (F0 m 0 ls [])
  have hres : res = (((if (V 24 4) < a1 then (V 24 4) else a1), (gu V 24 4 ((V 24 4) - (if (V 24 4) < a1 then (V 24 4) else a1))))) := hres
  refine lv_iload_n hx hb dX3_takeFromPot_0 rfl (lv_at hl 1 rfl) ?_
  refine lv_aload_n hx hb dX3_takeFromPot_1 rfl (lv_at hl 0 rfl) ?_
  refine gh_get (v := .int (V 24 4)) (C := RX3) (T := TX3) (N := 7) hx hb hw inlX3 hown hT hP 24 (Nat.le_of_ble_eq_true rfl) kd24 rfl rfl 4 (by decide) (hw _ uw180) rfl dX3_takeFromPot_2 ?_
  refine va_mmin hx hb (hml.trans hl.1.symm) hown (hw _ uw436) (hw _ uw143) (hw _ uw66) (hw _ uw144) (Nat.le_of_ble_eq_true rfl) (Nat.le_of_ble_eq_true rfl) (Nat.zero_le _) (Nat.zero_le _) dX3_takeFromPot_5 ?_
  refine lv_istore_n (lv' := [(2, .int (if (V 24 4) < a1 then (V 24 4) else a1)), (0, .ref (gA G 24)), (1, .int a1)]) hx hb dX3_takeFromPot_8 rfl hl (by decide) rfl (fun ls hl => ?_)
  refine lv_aload_n hx hb dX3_takeFromPot_9 rfl (lv_at hl 1 rfl) ?_
  refine lv_dup hx hb dX3_takeFromPot_10 rfl ?_
  refine gh_get (v := .int (V 24 4)) (C := RX3) (T := TX3) (N := 7) hx hb hw inlX3 hown hT hP 24 (Nat.le_of_ble_eq_true rfl) kd24 rfl rfl 4 (by decide) (hw _ uw180) rfl dX3_takeFromPot_11 ?_
  refine lv_iload_n hx hb dX3_takeFromPot_14 rfl (lv_at hl 0 rfl) ?_
  refine lv_isub hx hb dX3_takeFromPot_15 ?_
  refine gh_put (ty := .int) (x := ((V 24 4) - (if (V 24 4) < a1 then (V 24 4) else a1))) (C := RX3) (T := TX3) (N := 7) hx hb hw inlX3 tyX3_ok nmX3 hown hT hP hS 24 (Nat.le_of_ble_eq_true rfl) kd24 rfl rfl 4 (by decide) (hw _ uw180) rfl (by decide +kernel) rfl rfl (Nat.le_of_ble_eq_true rfl) rfl dX3_takeFromPot_16 (fun H locs hP hS => ?_)
  refine lv_iload_n hx hb dX3_takeFromPot_19 rfl (lv_at hl 0 rfl) ?_
  exact gh_iret hx hb hr hlocks hP hS hT hres dX3_takeFromPot_20
def BX3_copyFrom_48 (k : Nat) (o : Nat)   (V : gV) : gV := (gu V k 6 (V o 6))
def BX3_copyFrom_40 (k : Nat) (o : Nat)   (V : gV) : gV := BX3_copyFrom_48 k o (gu V k 5 (V o 5))
def BX3_copyFrom_32 (k : Nat) (o : Nat)   (V : gV) : gV := BX3_copyFrom_40 k o (gu V k 4 (V o 4))
def BX3_copyFrom_24 (k : Nat) (o : Nat)   (V : gV) : gV := BX3_copyFrom_32 k o (gu V k 3 (V o 3))
def BX3_copyFrom_16 (k : Nat) (o : Nat)   (V : gV) : gV := BX3_copyFrom_24 k o (gu V k 2 (V o 2))
def BX3_copyFrom_8 (k : Nat) (o : Nat)   (V : gV) : gV := BX3_copyFrom_16 k o (gu V k 1 (V o 1))
def MX3_copyFrom (k : Nat) (o : Nat)  (V : gV) : gV := BX3_copyFrom_8 k o (gu V k 0 (V o 0))
def PX3_copyFrom (k : Nat) (o : Nat)  (V : gV) : Prop := (gZ (V o 0))
abbrev wc_X3_copyFrom : List Cond := Cond.code yX3_copyFrom cX3_copyFrom 2 none :: wsL_law
abbrev r_X3_copyFrom : Room := { frames := 0, cells := 0, slots := 0, locals := 0 }
theorem dd_X3_copyFrom : yX3_copyFrom.cls = RX3 ∧ yX3_copyFrom.cls ≠ "java/lang/invoke/MethodHandle" ∧ yX3_copyFrom.cls ≠ "java/lang/invoke/VarHandle" ∧ (parseMethodDescriptor yX3_copyFrom.desc).map (fun d => d.parameters.length) = some 1 := by decide +kernel
set_option maxHeartbeats 8000000 in
set_option maxRecDepth 100000 in
theorem cc_X3_copyFrom (l : Launch) (G : gG) (V : gV) (k : Nat) (hk : gX3 k) (o : Nat) (ho : gX3 o)   (hs : PX3_copyFrom k o V) : Met l yX3_copyFrom wc_X3_copyFrom r_X3_copyFrom (va_Pc [.ref (gA G k), .ref (gA G o)] (gW G V)) (gQV G (MX3_copyFrom k o V)) 0 0 (gF G) := by
  refine Met.ofW (cc := cX3_copyFrom) (maxL := 2) (ret := none) (by decide) rfl ?_
  intro p e s m args below meth c s₁ B hml hv
  obtain ⟨rfl, hP, hT⟩ := hv
  have hx := B.exec
  have hb := B.bytes
  have hr := B.returns
  have hw := gh_hw (atoms_spec (ws := wc_X3_copyFrom) B.pre)
  have hown : s.vm.findClass RX3 = some m.cls := findClass_of_methodNamed B.named
  have hlocks := B.notSynchronized
  have hS : va_S (gF G) s.heap s.heap [] := va_S.rf
  have hl := lv_entry ([.ref (gA G k), .ref (gA G o)]) (n := 2) (Nat.le_of_ble_eq_true rfl)
  rw [lg_entry_eq]
  generalize (lg_sl ([.ref (gA G k), .ref (gA G o)]) ++ List.replicate (2 - (lg_sl ([.ref (gA G k), .ref (gA G o)])).length) Slot.unset).toArray = ls at hl ⊢
  have hl : lv_has ls 2 [(0, .ref (gA G k)), (1, .ref (gA G o))] := hl
  obtain ⟨res, hres⟩ : ∃ r, r = MX3_copyFrom k o V := ⟨_, rfl⟩
  rw [← hres]
  show W p l e r_X3_copyFrom s m ([.ref (gA G k), .ref (gA G o)] : List Value).toArray below meth c s.heap [] 0 0 (MQ below (gQV G res) ([.ref (gA G k), .ref (gA G o)] : List Value).toArray s 0 0 (gF G)) (F0 m 0 ls [])
  have hs : (gZ (V o 0)) := hs
  have hres : res = (BX3_copyFrom_8 k o (gu V k 0 (V o 0))) := hres
  have b_48 : ∀  (V : gV) (H : Heap) (locs : List Loc) (ls : Array Slot), lv_has ls 2 [(0, .ref (gA G k)), (1, .ref (gA G o))] → va_P (gD G) vwCl (gL G V) H → va_S (gF G) s.heap H locs → res = BX3_copyFrom_48 k o  V → W p l e r_X3_copyFrom s m ([.ref (gA G k), .ref (gA G o)] : List Value).toArray below meth c H locs 0 0 (MQ below (gQV G res) ([.ref (gA G k), .ref (gA G o)] : List Value).toArray s 0 0 (gF G)) (F0 m 48 ls []) := by
    intro  V H locs ls hl hP hS hres
    have hres : res = ((gu V k 6 (V o 6))) := hres
    refine lv_aload_n hx hb dX3_copyFrom_48 rfl (lv_at hl 0 rfl) ?_
    refine lv_aload_n hx hb dX3_copyFrom_49 rfl (lv_at hl 1 rfl) ?_
    refine gh_get (v := .int (V o 6)) (C := RX3) (T := TX3) (N := 7) hx hb hw inlX3 hown hT hP o (ho).1 (ho).2 rfl rfl 6 (by decide) (hw _ uw182) rfl dX3_copyFrom_50 ?_
    refine gh_put (ty := .int) (x := (V o 6)) (C := RX3) (T := TX3) (N := 7) hx hb hw inlX3 tyX3_ok nmX3 hown hT hP hS k (hk).1 (hk).2 rfl rfl 6 (by decide) (hw _ uw182) rfl (by decide +kernel) rfl rfl (Nat.le_of_ble_eq_true rfl) rfl dX3_copyFrom_53 (fun H locs hP hS => ?_)
    exact gh_vret hx hb hr hlocks hP hS hT hres dX3_copyFrom_56
  have b_40 : ∀  (V : gV) (H : Heap) (locs : List Loc) (ls : Array Slot), lv_has ls 2 [(0, .ref (gA G k)), (1, .ref (gA G o))] → va_P (gD G) vwCl (gL G V) H → va_S (gF G) s.heap H locs → res = BX3_copyFrom_40 k o  V → W p l e r_X3_copyFrom s m ([.ref (gA G k), .ref (gA G o)] : List Value).toArray below meth c H locs 0 0 (MQ below (gQV G res) ([.ref (gA G k), .ref (gA G o)] : List Value).toArray s 0 0 (gF G)) (F0 m 40 ls []) := by
    intro  V H locs ls hl hP hS hres
    have hres : res = (BX3_copyFrom_48 k o (gu V k 5 (V o 5))) := hres
    refine lv_aload_n hx hb dX3_copyFrom_40 rfl (lv_at hl 0 rfl) ?_
    refine lv_aload_n hx hb dX3_copyFrom_41 rfl (lv_at hl 1 rfl) ?_
    refine gh_get (v := .int (V o 5)) (C := RX3) (T := TX3) (N := 7) hx hb hw inlX3 hown hT hP o (ho).1 (ho).2 rfl rfl 5 (by decide) (hw _ uw181) rfl dX3_copyFrom_42 ?_
    refine gh_put (ty := .int) (x := (V o 5)) (C := RX3) (T := TX3) (N := 7) hx hb hw inlX3 tyX3_ok nmX3 hown hT hP hS k (hk).1 (hk).2 rfl rfl 5 (by decide) (hw _ uw181) rfl (by decide +kernel) rfl rfl (Nat.le_of_ble_eq_true rfl) rfl dX3_copyFrom_45 (fun H locs hP hS => ?_)
    exact b_48 (gu V k 5 (V o 5)) _ _ _ (lv_sub hl [0, 1] rfl) hP hS hres
  have b_32 : ∀  (V : gV) (H : Heap) (locs : List Loc) (ls : Array Slot), lv_has ls 2 [(0, .ref (gA G k)), (1, .ref (gA G o))] → va_P (gD G) vwCl (gL G V) H → va_S (gF G) s.heap H locs → res = BX3_copyFrom_32 k o  V → W p l e r_X3_copyFrom s m ([.ref (gA G k), .ref (gA G o)] : List Value).toArray below meth c H locs 0 0 (MQ below (gQV G res) ([.ref (gA G k), .ref (gA G o)] : List Value).toArray s 0 0 (gF G)) (F0 m 32 ls []) := by
    intro  V H locs ls hl hP hS hres
    have hres : res = (BX3_copyFrom_40 k o (gu V k 4 (V o 4))) := hres
    refine lv_aload_n hx hb dX3_copyFrom_32 rfl (lv_at hl 0 rfl) ?_
    refine lv_aload_n hx hb dX3_copyFrom_33 rfl (lv_at hl 1 rfl) ?_
    refine gh_get (v := .int (V o 4)) (C := RX3) (T := TX3) (N := 7) hx hb hw inlX3 hown hT hP o (ho).1 (ho).2 rfl rfl 4 (by decide) (hw _ uw180) rfl dX3_copyFrom_34 ?_
    refine gh_put (ty := .int) (x := (V o 4)) (C := RX3) (T := TX3) (N := 7) hx hb hw inlX3 tyX3_ok nmX3 hown hT hP hS k (hk).1 (hk).2 rfl rfl 4 (by decide) (hw _ uw180) rfl (by decide +kernel) rfl rfl (Nat.le_of_ble_eq_true rfl) rfl dX3_copyFrom_37 (fun H locs hP hS => ?_)
    exact b_40 (gu V k 4 (V o 4)) _ _ _ (lv_sub hl [0, 1] rfl) hP hS hres
  have b_24 : ∀  (V : gV) (H : Heap) (locs : List Loc) (ls : Array Slot), lv_has ls 2 [(0, .ref (gA G k)), (1, .ref (gA G o))] → va_P (gD G) vwCl (gL G V) H → va_S (gF G) s.heap H locs → res = BX3_copyFrom_24 k o  V → W p l e r_X3_copyFrom s m ([.ref (gA G k), .ref (gA G o)] : List Value).toArray below meth c H locs 0 0 (MQ below (gQV G res) ([.ref (gA G k), .ref (gA G o)] : List Value).toArray s 0 0 (gF G)) (F0 m 24 ls []) := by
    intro  V H locs ls hl hP hS hres
    have hres : res = (BX3_copyFrom_32 k o (gu V k 3 (V o 3))) := hres
    refine lv_aload_n hx hb dX3_copyFrom_24 rfl (lv_at hl 0 rfl) ?_
    refine lv_aload_n hx hb dX3_copyFrom_25 rfl (lv_at hl 1 rfl) ?_
    refine gh_get (v := .int (V o 3)) (C := RX3) (T := TX3) (N := 7) hx hb hw inlX3 hown hT hP o (ho).1 (ho).2 rfl rfl 3 (by decide) (hw _ uw179) rfl dX3_copyFrom_26 ?_
    refine gh_put (ty := .int) (x := (V o 3)) (C := RX3) (T := TX3) (N := 7) hx hb hw inlX3 tyX3_ok nmX3 hown hT hP hS k (hk).1 (hk).2 rfl rfl 3 (by decide) (hw _ uw179) rfl (by decide +kernel) rfl rfl (Nat.le_of_ble_eq_true rfl) rfl dX3_copyFrom_29 (fun H locs hP hS => ?_)
    exact b_32 (gu V k 3 (V o 3)) _ _ _ (lv_sub hl [0, 1] rfl) hP hS hres
  have b_16 : ∀  (V : gV) (H : Heap) (locs : List Loc) (ls : Array Slot), lv_has ls 2 [(0, .ref (gA G k)), (1, .ref (gA G o))] → va_P (gD G) vwCl (gL G V) H → va_S (gF G) s.heap H locs → res = BX3_copyFrom_16 k o  V → W p l e r_X3_copyFrom s m ([.ref (gA G k), .ref (gA G o)] : List Value).toArray below meth c H locs 0 0 (MQ below (gQV G res) ([.ref (gA G k), .ref (gA G o)] : List Value).toArray s 0 0 (gF G)) (F0 m 16 ls []) := by
    intro  V H locs ls hl hP hS hres
    have hres : res = (BX3_copyFrom_24 k o (gu V k 2 (V o 2))) := hres
    refine lv_aload_n hx hb dX3_copyFrom_16 rfl (lv_at hl 0 rfl) ?_
    refine lv_aload_n hx hb dX3_copyFrom_17 rfl (lv_at hl 1 rfl) ?_
    refine gh_get (v := .int (V o 2)) (C := RX3) (T := TX3) (N := 7) hx hb hw inlX3 hown hT hP o (ho).1 (ho).2 rfl rfl 2 (by decide) (hw _ uw178) rfl dX3_copyFrom_18 ?_
    refine gh_put (ty := .int) (x := (V o 2)) (C := RX3) (T := TX3) (N := 7) hx hb hw inlX3 tyX3_ok nmX3 hown hT hP hS k (hk).1 (hk).2 rfl rfl 2 (by decide) (hw _ uw178) rfl (by decide +kernel) rfl rfl (Nat.le_of_ble_eq_true rfl) rfl dX3_copyFrom_21 (fun H locs hP hS => ?_)
    exact b_24 (gu V k 2 (V o 2)) _ _ _ (lv_sub hl [0, 1] rfl) hP hS hres
  have b_8 : ∀  (V : gV) (H : Heap) (locs : List Loc) (ls : Array Slot), lv_has ls 2 [(0, .ref (gA G k)), (1, .ref (gA G o))] → va_P (gD G) vwCl (gL G V) H → va_S (gF G) s.heap H locs → res = BX3_copyFrom_8 k o  V → W p l e r_X3_copyFrom s m ([.ref (gA G k), .ref (gA G o)] : List Value).toArray below meth c H locs 0 0 (MQ below (gQV G res) ([.ref (gA G k), .ref (gA G o)] : List Value).toArray s 0 0 (gF G)) (F0 m 8 ls []) := by
    intro  V H locs ls hl hP hS hres
    have hres : res = (BX3_copyFrom_16 k o (gu V k 1 (V o 1))) := hres
    refine lv_aload_n hx hb dX3_copyFrom_8 rfl (lv_at hl 0 rfl) ?_
    refine lv_aload_n hx hb dX3_copyFrom_9 rfl (lv_at hl 1 rfl) ?_
    refine gh_get (v := .int (V o 1)) (C := RX3) (T := TX3) (N := 7) hx hb hw inlX3 hown hT hP o (ho).1 (ho).2 rfl rfl 1 (by decide) (hw _ uw177) rfl dX3_copyFrom_10 ?_
    refine gh_put (ty := .int) (x := (V o 1)) (C := RX3) (T := TX3) (N := 7) hx hb hw inlX3 tyX3_ok nmX3 hown hT hP hS k (hk).1 (hk).2 rfl rfl 1 (by decide) (hw _ uw177) rfl (by decide +kernel) rfl rfl (Nat.le_of_ble_eq_true rfl) rfl dX3_copyFrom_13 (fun H locs hP hS => ?_)
    exact b_16 (gu V k 1 (V o 1)) _ _ _ (lv_sub hl [0, 1] rfl) hP hS hres
  refine lv_aload_n hx hb dX3_copyFrom_0 rfl (lv_at hl 0 rfl) ?_
  refine lv_aload_n hx hb dX3_copyFrom_1 rfl (lv_at hl 1 rfl) ?_
  refine gh_get (v := .int (V o 0)) (C := RX3) (T := TX3) (N := 7) hx hb hw inlX3 hown hT hP o (ho).1 (ho).2 rfl rfl 0 (by decide) (hw _ uw176) rfl dX3_copyFrom_2 ?_
  have ho_1 := hs
  refine gh_put (ty := .boolean) (x := (V o 0)) (C := RX3) (T := TX3) (N := 7) hx hb hw inlX3 tyX3_ok nmX3 hown hT hP hS k (hk).1 (hk).2 rfl rfl 0 (by decide) (hw _ uw176) rfl (by decide +kernel) ho_1.n ho_1.f (Nat.le_of_ble_eq_true rfl) rfl dX3_copyFrom_5 (fun H locs hP hS => ?_)
  exact b_8 (gu V k 0 (V o 0)) _ _ _ (lv_sub hl [0, 1] rfl) hP hS hres
theorem gv_RX2_47 : GoodIn wsL_law (wsV RX2 47 RX4 yX4_put wc_X4_put) := gh_gV uw421 uw194 uw195 uw55 uw196
theorem gv_RX2_43 : GoodIn wsL_law (wsV RX2 43 RX4 yX4_at wc_X4_at) := gh_gV uw420 uw190 uw191 uw55 uw192
def BX2_putFirst_137    (V : gV) : gV := (MX4_put 32 (0 : Int32) (V 24 2) V)
def BX2_putFirst_125    (V : gV) : gV := BX2_putFirst_137 (MX4_put 30 (0 : Int32) (V 24 5) V)
def BX2_putFirst_116   (x2 : Int32) (V : gV) : gV := BX2_putFirst_125 (MX4_put 28 (0 : Int32) x2 V)
def BX2_putFirst_98  (K22 : Int32 → Int32 → gV → gV) (x2 : Int32) (x3 : Int32) (V : gV) : gV := K22 x2 (x3 + (-1 : Int32)) V
def PX2_putFirst_98  (KP22 : Int32 → Int32 → gV → Prop) (x2 : Int32) (x3 : Int32) (V : gV) : Prop := (KP22 x2 (x3 + (-1 : Int32)) V)
def BX2_putFirst_80  (K22 : Int32 → Int32 → gV → gV) (x2 : Int32) (x3 : Int32) (V : gV) : gV := BX2_putFirst_98 K22 x2 x3 (MX4_put 32 x3 (MX4_at 32 (x3 - (1 : Int32)) V) V)
def PX2_putFirst_80  (KP22 : Int32 → Int32 → gV → Prop) (x2 : Int32) (x3 : Int32) (V : gV) : Prop := (PX2_putFirst_98 KP22 x2 x3 (MX4_put 32 x3 (MX4_at 32 (x3 - (1 : Int32)) V) V))
def BX2_putFirst_62  (K22 : Int32 → Int32 → gV → gV) (x2 : Int32) (x3 : Int32) (V : gV) : gV := BX2_putFirst_80 K22 x2 x3 (MX4_put 30 x3 (MX4_at 30 (x3 - (1 : Int32)) V) V)
def PX2_putFirst_62  (KP22 : Int32 → Int32 → gV → Prop) (x2 : Int32) (x3 : Int32) (V : gV) : Prop := (PX2_putFirst_80 KP22 x2 x3 (MX4_put 30 x3 (MX4_at 30 (x3 - (1 : Int32)) V) V))
def BX2_putFirst_44  (K22 : Int32 → Int32 → gV → gV) (x2 : Int32) (x3 : Int32) (V : gV) : gV := BX2_putFirst_62 K22 x2 x3 (MX4_put 28 x3 (MX4_at 28 (x3 - (1 : Int32)) V) V)
def PX2_putFirst_44  (KP22 : Int32 → Int32 → gV → Prop) (x2 : Int32) (x3 : Int32) (V : gV) : Prop := (PX2_putFirst_62 KP22 x2 x3 (MX4_put 28 x3 (MX4_at 28 (x3 - (1 : Int32)) V) V))
def BX2_putFirst_22   : Nat → Int32 → Int32 → gV → gV
  | 0, _, _, V => V
  | n + 1, x2, x3, V => if x3 ≤ 0 then (BX2_putFirst_116 x2 (MX4_put 26 (0 : Int32) (V 24 1) V)) else (BX2_putFirst_44 (BX2_putFirst_22 n) x2 x3 (MX4_put 26 x3 (MX4_at 26 (x3 - (1 : Int32)) V) V))
def PX2_putFirst_22   : Nat → Int32 → Int32 → gV → Prop
  | 0, _, _, _ => False
  | n + 1, x2, x3, V => ((¬ x3 ≤ 0 → (PX2_putFirst_44 (PX2_putFirst_22 n) x2 x3 (MX4_put 26 x3 (MX4_at 26 (x3 - (1 : Int32)) V) V))))
def BX2_putFirst_15   (x2 : Int32) (V : gV) : gV := BX2_putFirst_22 1000 x2 ((V 25 0) - (1 : Int32)) V
def PX2_putFirst_15   (x2 : Int32) (V : gV) : Prop := (PX2_putFirst_22 1000 x2 ((V 25 0) - (1 : Int32)) V)
def MX2_putFirst  (a2 : Int32) (V : gV) : gV := BX2_putFirst_15 a2 (gu V 25 0 (if (6 : Int32) < ((V 25 0) + (1 : Int32)) then (6 : Int32) else ((V 25 0) + (1 : Int32))))
def PX2_putFirst  (a2 : Int32) (V : gV) : Prop := (PX2_putFirst_15 a2 (gu V 25 0 (if (6 : Int32) < ((V 25 0) + (1 : Int32)) then (6 : Int32) else ((V 25 0) + (1 : Int32)))))
abbrev wc_X2_putFirst : List Cond := Cond.code yX2_putFirst cX2_putFirst 4 none :: wsL_law
abbrev r_X2_putFirst : Room := { frames := 1, cells := 0, slots := 0, locals := 22 }
theorem dd_X2_putFirst : yX2_putFirst.cls = RX2 ∧ yX2_putFirst.cls ≠ "java/lang/invoke/MethodHandle" ∧ yX2_putFirst.cls ≠ "java/lang/invoke/VarHandle" ∧ (parseMethodDescriptor yX2_putFirst.desc).map (fun d => d.parameters.length) = some 2 := by decide +kernel
set_option maxHeartbeats 8000000 in
set_option maxRecDepth 100000 in
theorem cc_X2_putFirst (l : Launch) (G : gG) (V : gV)   (a2 : Int32) (hs : PX2_putFirst a2 V) : Met l yX2_putFirst wc_X2_putFirst r_X2_putFirst (va_Pc [.ref (gA G 25), .ref (gA G 24), .int a2] (gW G V)) (gQV G (MX2_putFirst a2 V)) 0 0 (gF G) := by
  refine Met.ofW (cc := cX2_putFirst) (maxL := 4) (ret := none) (by decide) rfl ?_
  intro p e s m args below meth c s₁ B hml hv
  obtain ⟨rfl, hP, hT⟩ := hv
  have hx := B.exec
  have hb := B.bytes
  have hr := B.returns
  have hw := gh_hw (atoms_spec (ws := wc_X2_putFirst) B.pre)
  have hown : s.vm.findClass RX2 = some m.cls := findClass_of_methodNamed B.named
  have hlocks := B.notSynchronized
  have hS : va_S (gF G) s.heap s.heap [] := va_S.rf
  have hl := lv_entry ([.ref (gA G 25), .ref (gA G 24), .int a2]) (n := 4) (Nat.le_of_ble_eq_true rfl)
  rw [lg_entry_eq]
  generalize (lg_sl ([.ref (gA G 25), .ref (gA G 24), .int a2]) ++ List.replicate (4 - (lg_sl ([.ref (gA G 25), .ref (gA G 24), .int a2])).length) Slot.unset).toArray = ls at hl ⊢
  have hl : lv_has ls 4 [(0, .ref (gA G 25)), (1, .ref (gA G 24)), (2, .int a2)] := hl
  obtain ⟨res, hres⟩ : ∃ r, r = MX2_putFirst a2 V := ⟨_, rfl⟩
  rw [← hres]
  show W p l e r_X2_putFirst s m ([.ref (gA G 25), .ref (gA G 24), .int a2] : List Value).toArray below meth c s.heap [] 0 0 (MQ below (gQV G res) ([.ref (gA G 25), .ref (gA G 24), .int a2] : List Value).toArray s 0 0 (gF G)) (F0 m 0 ls [])
  have hs : (PX2_putFirst_15 a2 (gu V 25 0 (if (6 : Int32) < ((V 25 0) + (1 : Int32)) then (6 : Int32) else ((V 25 0) + (1 : Int32))))) := hs
  have hres : res = (BX2_putFirst_15 a2 (gu V 25 0 (if (6 : Int32) < ((V 25 0) + (1 : Int32)) then (6 : Int32) else ((V 25 0) + (1 : Int32))))) := hres
  have b_137 : ∀  (V : gV) (H : Heap) (locs : List Loc) (ls : Array Slot), lv_has ls 4 [(0, .ref (gA G 25)), (1, .ref (gA G 24))] → va_P (gD G) vwCl (gL G V) H → va_S (gF G) s.heap H locs → res = BX2_putFirst_137   V → W p l e r_X2_putFirst s m ([.ref (gA G 25), .ref (gA G 24), .int a2] : List Value).toArray below meth c H locs 0 0 (MQ below (gQV G res) ([.ref (gA G 25), .ref (gA G 24), .int a2] : List Value).toArray s 0 0 (gF G)) (F0 m 137 ls []) := by
    intro  V H locs ls hl hP hS hres
    have hres : res = ((MX4_put 32 (0 : Int32) (V 24 2) V)) := hres
    refine lv_aload_n hx hb dX2_putFirst_137 rfl (lv_at hl 0 rfl) ?_
    refine gh_get (v := .ref (gA G 32)) (C := RX2) (T := TX2) (N := 5) hx hb hw inlX2 hown hT hP 25 (Nat.le_of_ble_eq_true rfl) kd25 rfl rfl 4 (by decide) (hw _ uw91) rfl dX2_putFirst_138 ?_
    refine lv_iconst (v := 0) hx hb dX2_putFirst_141 (by decide) ?_
    refine lv_aload_n hx hb dX2_putFirst_142 rfl (lv_at hl 1 rfl) ?_
    refine gh_get (v := .int (V 24 2)) (C := RX3) (T := TX3) (N := 7) hx hb hw inlX3 hown hT hP 24 (Nat.le_of_ble_eq_true rfl) kd24 rfl rfl 2 (by decide) (hw _ uw419) rfl dX2_putFirst_143 ?_
    refine gh_kv (va_runV (As := [.int (0 : Int32), .int (V 24 2)]) (rest := []) ⟨hx, hb, hml, hown, hw⟩ (cc_X4_put l G V 32 gi32 (0 : Int32) (V 24 2)) (cwV 2 hw gv_RX2_47 rfl rfl rfl dd_X4_put ⟨Nat.le_of_ble_eq_true rfl, Nat.le_of_ble_eq_true rfl⟩) (gh_preV hT hP (Nat.le_of_ble_eq_true rfl) kd32 rfl rfl) rfl rfl hl.1 rfl (lv_room (Nat.le_of_ble_eq_true rfl)) dX2_putFirst_146 ⟨Nat.zero_le _, Nat.zero_le _⟩) hS (fun H locs hP hS => ?_)
    exact gh_vret hx hb hr hlocks hP hS hT hres dX2_putFirst_149
  have b_125 : ∀  (V : gV) (H : Heap) (locs : List Loc) (ls : Array Slot), lv_has ls 4 [(0, .ref (gA G 25)), (1, .ref (gA G 24))] → va_P (gD G) vwCl (gL G V) H → va_S (gF G) s.heap H locs → res = BX2_putFirst_125   V → W p l e r_X2_putFirst s m ([.ref (gA G 25), .ref (gA G 24), .int a2] : List Value).toArray below meth c H locs 0 0 (MQ below (gQV G res) ([.ref (gA G 25), .ref (gA G 24), .int a2] : List Value).toArray s 0 0 (gF G)) (F0 m 125 ls []) := by
    intro  V H locs ls hl hP hS hres
    have hres : res = (BX2_putFirst_137 (MX4_put 30 (0 : Int32) (V 24 5) V)) := hres
    refine lv_aload_n hx hb dX2_putFirst_125 rfl (lv_at hl 0 rfl) ?_
    refine gh_get (v := .ref (gA G 30)) (C := RX2) (T := TX2) (N := 5) hx hb hw inlX2 hown hT hP 25 (Nat.le_of_ble_eq_true rfl) kd25 rfl rfl 3 (by decide) (hw _ uw90) rfl dX2_putFirst_126 ?_
    refine lv_iconst (v := 0) hx hb dX2_putFirst_129 (by decide) ?_
    refine lv_aload_n hx hb dX2_putFirst_130 rfl (lv_at hl 1 rfl) ?_
    refine gh_get (v := .int (V 24 5)) (C := RX3) (T := TX3) (N := 7) hx hb hw inlX3 hown hT hP 24 (Nat.le_of_ble_eq_true rfl) kd24 rfl rfl 5 (by decide) (hw _ uw418) rfl dX2_putFirst_131 ?_
    refine gh_kv (va_runV (As := [.int (0 : Int32), .int (V 24 5)]) (rest := []) ⟨hx, hb, hml, hown, hw⟩ (cc_X4_put l G V 30 gi30 (0 : Int32) (V 24 5)) (cwV 2 hw gv_RX2_47 rfl rfl rfl dd_X4_put ⟨Nat.le_of_ble_eq_true rfl, Nat.le_of_ble_eq_true rfl⟩) (gh_preV hT hP (Nat.le_of_ble_eq_true rfl) kd30 rfl rfl) rfl rfl hl.1 rfl (lv_room (Nat.le_of_ble_eq_true rfl)) dX2_putFirst_134 ⟨Nat.zero_le _, Nat.zero_le _⟩) hS (fun H locs hP hS => ?_)
    exact b_137 (MX4_put 30 (0 : Int32) (V 24 5) V) _ _ _ (lv_sub hl [0, 1] rfl) hP hS hres
  have b_116 : ∀ (x2 : Int32) (V : gV) (H : Heap) (locs : List Loc) (ls : Array Slot), lv_has ls 4 [(0, .ref (gA G 25)), (1, .ref (gA G 24)), (2, .int x2)] → va_P (gD G) vwCl (gL G V) H → va_S (gF G) s.heap H locs → res = BX2_putFirst_116  x2 V → W p l e r_X2_putFirst s m ([.ref (gA G 25), .ref (gA G 24), .int a2] : List Value).toArray below meth c H locs 0 0 (MQ below (gQV G res) ([.ref (gA G 25), .ref (gA G 24), .int a2] : List Value).toArray s 0 0 (gF G)) (F0 m 116 ls []) := by
    intro x2 V H locs ls hl hP hS hres
    have hres : res = (BX2_putFirst_125 (MX4_put 28 (0 : Int32) x2 V)) := hres
    refine lv_aload_n hx hb dX2_putFirst_116 rfl (lv_at hl 0 rfl) ?_
    refine gh_get (v := .ref (gA G 28)) (C := RX2) (T := TX2) (N := 5) hx hb hw inlX2 hown hT hP 25 (Nat.le_of_ble_eq_true rfl) kd25 rfl rfl 2 (by decide) (hw _ uw89) rfl dX2_putFirst_117 ?_
    refine lv_iconst (v := 0) hx hb dX2_putFirst_120 (by decide) ?_
    refine lv_iload_n hx hb dX2_putFirst_121 rfl (lv_at hl 2 rfl) ?_
    refine gh_kv (va_runV (As := [.int (0 : Int32), .int x2]) (rest := []) ⟨hx, hb, hml, hown, hw⟩ (cc_X4_put l G V 28 gi28 (0 : Int32) x2) (cwV 2 hw gv_RX2_47 rfl rfl rfl dd_X4_put ⟨Nat.le_of_ble_eq_true rfl, Nat.le_of_ble_eq_true rfl⟩) (gh_preV hT hP (Nat.le_of_ble_eq_true rfl) kd28 rfl rfl) rfl rfl hl.1 rfl (lv_room (Nat.le_of_ble_eq_true rfl)) dX2_putFirst_122 ⟨Nat.zero_le _, Nat.zero_le _⟩) hS (fun H locs hP hS => ?_)
    exact b_125 (MX4_put 28 (0 : Int32) x2 V) _ _ _ (lv_sub hl [0, 1] rfl) hP hS hres
  have b_22 : ∀ (n : Nat) (x2 : Int32) (x3 : Int32) (V : gV) (H : Heap) (locs : List Loc) (ls : Array Slot), lv_has ls 4 [(0, .ref (gA G 25)), (1, .ref (gA G 24)), (2, .int x2), (3, .int x3)] → va_P (gD G) vwCl (gL G V) H → va_S (gF G) s.heap H locs → PX2_putFirst_22  n x2 x3 V → res = BX2_putFirst_22  n x2 x3 V → W p l e r_X2_putFirst s m ([.ref (gA G 25), .ref (gA G 24), .int a2] : List Value).toArray below meth c H locs 0 0 (MQ below (gQV G res) ([.ref (gA G 25), .ref (gA G 24), .int a2] : List Value).toArray s 0 0 (gF G)) (F0 m 22 ls []) := by
    intro n
    induction n with
    | zero =>
      intro x2 x3 V H locs ls hl hP hS hs hres
      exact (show False from hs).elim
    | succ n22 ih22 =>
      have b_98 : ∀ (x2 : Int32) (x3 : Int32) (V : gV) (H : Heap) (locs : List Loc) (ls : Array Slot), lv_has ls 4 [(0, .ref (gA G 25)), (1, .ref (gA G 24)), (2, .int x2), (3, .int x3)] → va_P (gD G) vwCl (gL G V) H → va_S (gF G) s.heap H locs → PX2_putFirst_98 (PX2_putFirst_22 n22) x2 x3 V → res = BX2_putFirst_98 (BX2_putFirst_22 n22) x2 x3 V → W p l e r_X2_putFirst s m ([.ref (gA G 25), .ref (gA G 24), .int a2] : List Value).toArray below meth c H locs 0 0 (MQ below (gQV G res) ([.ref (gA G 25), .ref (gA G 24), .int a2] : List Value).toArray s 0 0 (gF G)) (F0 m 98 ls []) := by
        intro x2 x3 V H locs ls hl hP hS hs hres
        have hs : ((PX2_putFirst_22 n22) x2 (x3 + (-1 : Int32)) V) := hs
        have hres : res = ((BX2_putFirst_22 n22) x2 (x3 + (-1 : Int32)) V) := hres
        refine lv_iinc (v := (x3 + (-1 : Int32))) (lv' := [(3, .int (x3 + (-1 : Int32))), (0, .ref (gA G 25)), (1, .ref (gA G 24)), (2, .int x2)]) hx hb dX2_putFirst_98 hl (k := 3) rfl rfl (by decide) rfl (fun ls hl => ?_)
        refine lv_goto (tgt := 22) hx hb dX2_putFirst_101 (by decide) ?_
        exact ih22 x2 (x3 + (-1 : Int32)) V _ _ _ (lv_sub hl [1, 2, 3, 0] rfl) hP hS hs hres
      have b_80 : ∀ (x2 : Int32) (x3 : Int32) (V : gV) (H : Heap) (locs : List Loc) (ls : Array Slot), lv_has ls 4 [(0, .ref (gA G 25)), (1, .ref (gA G 24)), (2, .int x2), (3, .int x3)] → va_P (gD G) vwCl (gL G V) H → va_S (gF G) s.heap H locs → PX2_putFirst_80 (PX2_putFirst_22 n22) x2 x3 V → res = BX2_putFirst_80 (BX2_putFirst_22 n22) x2 x3 V → W p l e r_X2_putFirst s m ([.ref (gA G 25), .ref (gA G 24), .int a2] : List Value).toArray below meth c H locs 0 0 (MQ below (gQV G res) ([.ref (gA G 25), .ref (gA G 24), .int a2] : List Value).toArray s 0 0 (gF G)) (F0 m 80 ls []) := by
        intro x2 x3 V H locs ls hl hP hS hs hres
        have hs : (PX2_putFirst_98 (PX2_putFirst_22 n22) x2 x3 (MX4_put 32 x3 (MX4_at 32 (x3 - (1 : Int32)) V) V)) := hs
        have hres : res = (BX2_putFirst_98 (BX2_putFirst_22 n22) x2 x3 (MX4_put 32 x3 (MX4_at 32 (x3 - (1 : Int32)) V) V)) := hres
        refine lv_aload_n hx hb dX2_putFirst_80 rfl (lv_at hl 0 rfl) ?_
        refine gh_get (v := .ref (gA G 32)) (C := RX2) (T := TX2) (N := 5) hx hb hw inlX2 hown hT hP 25 (Nat.le_of_ble_eq_true rfl) kd25 rfl rfl 4 (by decide) (hw _ uw91) rfl dX2_putFirst_81 ?_
        refine lv_iload_n hx hb dX2_putFirst_84 rfl (lv_at hl 3 rfl) ?_
        refine lv_aload_n hx hb dX2_putFirst_85 rfl (lv_at hl 0 rfl) ?_
        refine gh_get (v := .ref (gA G 32)) (C := RX2) (T := TX2) (N := 5) hx hb hw inlX2 hown hT hP 25 (Nat.le_of_ble_eq_true rfl) kd25 rfl rfl 4 (by decide) (hw _ uw91) rfl dX2_putFirst_86 ?_
        refine lv_iload_n hx hb dX2_putFirst_89 rfl (lv_at hl 3 rfl) ?_
        refine lv_iconst (v := 1) hx hb dX2_putFirst_90 (by decide) ?_
        refine lv_isub hx hb dX2_putFirst_91 ?_
        refine gh_kr (va_runV (As := [.int (x3 - (1 : Int32))]) (rest := [.int x3, .ref (gA G 32)]) ⟨hx, hb, hml, hown, hw⟩ (cc_X4_at l G V 32 gi32 (x3 - (1 : Int32))) (cwV 1 hw gv_RX2_43 rfl rfl rfl dd_X4_at ⟨Nat.le_of_ble_eq_true rfl, Nat.le_of_ble_eq_true rfl⟩) (gh_preV hT hP (Nat.le_of_ble_eq_true rfl) kd32 rfl rfl) rfl rfl hl.1 rfl (lv_room (Nat.le_of_ble_eq_true rfl)) dX2_putFirst_92 ⟨Nat.zero_le _, Nat.zero_le _⟩) hS (fun H locs hP hS => ?_)
        refine gh_kv (va_runV (As := [.int x3, .int (MX4_at 32 (x3 - (1 : Int32)) V)]) (rest := []) ⟨hx, hb, hml, hown, hw⟩ (cc_X4_put l G V 32 gi32 x3 (MX4_at 32 (x3 - (1 : Int32)) V)) (cwV 2 hw gv_RX2_47 rfl rfl rfl dd_X4_put ⟨Nat.le_of_ble_eq_true rfl, Nat.le_of_ble_eq_true rfl⟩) (gh_preV hT hP (Nat.le_of_ble_eq_true rfl) kd32 rfl rfl) rfl rfl hl.1 rfl (lv_room (Nat.le_of_ble_eq_true rfl)) dX2_putFirst_95 ⟨Nat.zero_le _, Nat.zero_le _⟩) hS (fun H locs hP hS => ?_)
        exact b_98 x2 x3 (MX4_put 32 x3 (MX4_at 32 (x3 - (1 : Int32)) V) V) _ _ _ (lv_sub hl [0, 1, 2, 3] rfl) hP hS hs hres
      have b_62 : ∀ (x2 : Int32) (x3 : Int32) (V : gV) (H : Heap) (locs : List Loc) (ls : Array Slot), lv_has ls 4 [(0, .ref (gA G 25)), (1, .ref (gA G 24)), (2, .int x2), (3, .int x3)] → va_P (gD G) vwCl (gL G V) H → va_S (gF G) s.heap H locs → PX2_putFirst_62 (PX2_putFirst_22 n22) x2 x3 V → res = BX2_putFirst_62 (BX2_putFirst_22 n22) x2 x3 V → W p l e r_X2_putFirst s m ([.ref (gA G 25), .ref (gA G 24), .int a2] : List Value).toArray below meth c H locs 0 0 (MQ below (gQV G res) ([.ref (gA G 25), .ref (gA G 24), .int a2] : List Value).toArray s 0 0 (gF G)) (F0 m 62 ls []) := by
        intro x2 x3 V H locs ls hl hP hS hs hres
        have hs : (PX2_putFirst_80 (PX2_putFirst_22 n22) x2 x3 (MX4_put 30 x3 (MX4_at 30 (x3 - (1 : Int32)) V) V)) := hs
        have hres : res = (BX2_putFirst_80 (BX2_putFirst_22 n22) x2 x3 (MX4_put 30 x3 (MX4_at 30 (x3 - (1 : Int32)) V) V)) := hres
        refine lv_aload_n hx hb dX2_putFirst_62 rfl (lv_at hl 0 rfl) ?_
        refine gh_get (v := .ref (gA G 30)) (C := RX2) (T := TX2) (N := 5) hx hb hw inlX2 hown hT hP 25 (Nat.le_of_ble_eq_true rfl) kd25 rfl rfl 3 (by decide) (hw _ uw90) rfl dX2_putFirst_63 ?_
        refine lv_iload_n hx hb dX2_putFirst_66 rfl (lv_at hl 3 rfl) ?_
        refine lv_aload_n hx hb dX2_putFirst_67 rfl (lv_at hl 0 rfl) ?_
        refine gh_get (v := .ref (gA G 30)) (C := RX2) (T := TX2) (N := 5) hx hb hw inlX2 hown hT hP 25 (Nat.le_of_ble_eq_true rfl) kd25 rfl rfl 3 (by decide) (hw _ uw90) rfl dX2_putFirst_68 ?_
        refine lv_iload_n hx hb dX2_putFirst_71 rfl (lv_at hl 3 rfl) ?_
        refine lv_iconst (v := 1) hx hb dX2_putFirst_72 (by decide) ?_
        refine lv_isub hx hb dX2_putFirst_73 ?_
        refine gh_kr (va_runV (As := [.int (x3 - (1 : Int32))]) (rest := [.int x3, .ref (gA G 30)]) ⟨hx, hb, hml, hown, hw⟩ (cc_X4_at l G V 30 gi30 (x3 - (1 : Int32))) (cwV 1 hw gv_RX2_43 rfl rfl rfl dd_X4_at ⟨Nat.le_of_ble_eq_true rfl, Nat.le_of_ble_eq_true rfl⟩) (gh_preV hT hP (Nat.le_of_ble_eq_true rfl) kd30 rfl rfl) rfl rfl hl.1 rfl (lv_room (Nat.le_of_ble_eq_true rfl)) dX2_putFirst_74 ⟨Nat.zero_le _, Nat.zero_le _⟩) hS (fun H locs hP hS => ?_)
        refine gh_kv (va_runV (As := [.int x3, .int (MX4_at 30 (x3 - (1 : Int32)) V)]) (rest := []) ⟨hx, hb, hml, hown, hw⟩ (cc_X4_put l G V 30 gi30 x3 (MX4_at 30 (x3 - (1 : Int32)) V)) (cwV 2 hw gv_RX2_47 rfl rfl rfl dd_X4_put ⟨Nat.le_of_ble_eq_true rfl, Nat.le_of_ble_eq_true rfl⟩) (gh_preV hT hP (Nat.le_of_ble_eq_true rfl) kd30 rfl rfl) rfl rfl hl.1 rfl (lv_room (Nat.le_of_ble_eq_true rfl)) dX2_putFirst_77 ⟨Nat.zero_le _, Nat.zero_le _⟩) hS (fun H locs hP hS => ?_)
        exact b_80 x2 x3 (MX4_put 30 x3 (MX4_at 30 (x3 - (1 : Int32)) V) V) _ _ _ (lv_sub hl [0, 1, 2, 3] rfl) hP hS hs hres
      have b_44 : ∀ (x2 : Int32) (x3 : Int32) (V : gV) (H : Heap) (locs : List Loc) (ls : Array Slot), lv_has ls 4 [(0, .ref (gA G 25)), (1, .ref (gA G 24)), (2, .int x2), (3, .int x3)] → va_P (gD G) vwCl (gL G V) H → va_S (gF G) s.heap H locs → PX2_putFirst_44 (PX2_putFirst_22 n22) x2 x3 V → res = BX2_putFirst_44 (BX2_putFirst_22 n22) x2 x3 V → W p l e r_X2_putFirst s m ([.ref (gA G 25), .ref (gA G 24), .int a2] : List Value).toArray below meth c H locs 0 0 (MQ below (gQV G res) ([.ref (gA G 25), .ref (gA G 24), .int a2] : List Value).toArray s 0 0 (gF G)) (F0 m 44 ls []) := by
        intro x2 x3 V H locs ls hl hP hS hs hres
        have hs : (PX2_putFirst_62 (PX2_putFirst_22 n22) x2 x3 (MX4_put 28 x3 (MX4_at 28 (x3 - (1 : Int32)) V) V)) := hs
        have hres : res = (BX2_putFirst_62 (BX2_putFirst_22 n22) x2 x3 (MX4_put 28 x3 (MX4_at 28 (x3 - (1 : Int32)) V) V)) := hres
        refine lv_aload_n hx hb dX2_putFirst_44 rfl (lv_at hl 0 rfl) ?_
        refine gh_get (v := .ref (gA G 28)) (C := RX2) (T := TX2) (N := 5) hx hb hw inlX2 hown hT hP 25 (Nat.le_of_ble_eq_true rfl) kd25 rfl rfl 2 (by decide) (hw _ uw89) rfl dX2_putFirst_45 ?_
        refine lv_iload_n hx hb dX2_putFirst_48 rfl (lv_at hl 3 rfl) ?_
        refine lv_aload_n hx hb dX2_putFirst_49 rfl (lv_at hl 0 rfl) ?_
        refine gh_get (v := .ref (gA G 28)) (C := RX2) (T := TX2) (N := 5) hx hb hw inlX2 hown hT hP 25 (Nat.le_of_ble_eq_true rfl) kd25 rfl rfl 2 (by decide) (hw _ uw89) rfl dX2_putFirst_50 ?_
        refine lv_iload_n hx hb dX2_putFirst_53 rfl (lv_at hl 3 rfl) ?_
        refine lv_iconst (v := 1) hx hb dX2_putFirst_54 (by decide) ?_
        refine lv_isub hx hb dX2_putFirst_55 ?_
        refine gh_kr (va_runV (As := [.int (x3 - (1 : Int32))]) (rest := [.int x3, .ref (gA G 28)]) ⟨hx, hb, hml, hown, hw⟩ (cc_X4_at l G V 28 gi28 (x3 - (1 : Int32))) (cwV 1 hw gv_RX2_43 rfl rfl rfl dd_X4_at ⟨Nat.le_of_ble_eq_true rfl, Nat.le_of_ble_eq_true rfl⟩) (gh_preV hT hP (Nat.le_of_ble_eq_true rfl) kd28 rfl rfl) rfl rfl hl.1 rfl (lv_room (Nat.le_of_ble_eq_true rfl)) dX2_putFirst_56 ⟨Nat.zero_le _, Nat.zero_le _⟩) hS (fun H locs hP hS => ?_)
        refine gh_kv (va_runV (As := [.int x3, .int (MX4_at 28 (x3 - (1 : Int32)) V)]) (rest := []) ⟨hx, hb, hml, hown, hw⟩ (cc_X4_put l G V 28 gi28 x3 (MX4_at 28 (x3 - (1 : Int32)) V)) (cwV 2 hw gv_RX2_47 rfl rfl rfl dd_X4_put ⟨Nat.le_of_ble_eq_true rfl, Nat.le_of_ble_eq_true rfl⟩) (gh_preV hT hP (Nat.le_of_ble_eq_true rfl) kd28 rfl rfl) rfl rfl hl.1 rfl (lv_room (Nat.le_of_ble_eq_true rfl)) dX2_putFirst_59 ⟨Nat.zero_le _, Nat.zero_le _⟩) hS (fun H locs hP hS => ?_)
        exact b_62 x2 x3 (MX4_put 28 x3 (MX4_at 28 (x3 - (1 : Int32)) V) V) _ _ _ (lv_sub hl [0, 1, 2, 3] rfl) hP hS hs hres
      intro x2 x3 V H locs ls hl hP hS hs hres
      have hs : ((¬ x3 ≤ 0 → (PX2_putFirst_44 (PX2_putFirst_22 n22) x2 x3 (MX4_put 26 x3 (MX4_at 26 (x3 - (1 : Int32)) V) V)))) := hs
      have hres : res = (if x3 ≤ 0 then (BX2_putFirst_116 x2 (MX4_put 26 (0 : Int32) (V 24 1) V)) else (BX2_putFirst_44 (BX2_putFirst_22 n22) x2 x3 (MX4_put 26 x3 (MX4_at 26 (x3 - (1 : Int32)) V) V))) := hres
      refine lv_iload_n hx hb dX2_putFirst_22 rfl (lv_at hl 3 rfl) ?_
      refine lv_if_le (tgt := 104) hx hb dX2_putFirst_23 (by decide) (fun c_1 => ?_) (fun c_1 => ?_)
      · have hres := hres.trans (if_pos c_1)
        refine lv_aload_n hx hb dX2_putFirst_104 rfl (lv_at hl 0 rfl) ?_
        refine gh_get (v := .ref (gA G 26)) (C := RX2) (T := TX2) (N := 5) hx hb hw inlX2 hown hT hP 25 (Nat.le_of_ble_eq_true rfl) kd25 rfl rfl 1 (by decide) (hw _ uw88) rfl dX2_putFirst_105 ?_
        refine lv_iconst (v := 0) hx hb dX2_putFirst_108 (by decide) ?_
        refine lv_aload_n hx hb dX2_putFirst_109 rfl (lv_at hl 1 rfl) ?_
        refine gh_get (v := .int (V 24 1)) (C := RX3) (T := TX3) (N := 7) hx hb hw inlX3 hown hT hP 24 (Nat.le_of_ble_eq_true rfl) kd24 rfl rfl 1 (by decide) (hw _ uw417) rfl dX2_putFirst_110 ?_
        refine gh_kv (va_runV (As := [.int (0 : Int32), .int (V 24 1)]) (rest := []) ⟨hx, hb, hml, hown, hw⟩ (cc_X4_put l G V 26 gi26 (0 : Int32) (V 24 1)) (cwV 2 hw gv_RX2_47 rfl rfl rfl dd_X4_put ⟨Nat.le_of_ble_eq_true rfl, Nat.le_of_ble_eq_true rfl⟩) (gh_preV hT hP (Nat.le_of_ble_eq_true rfl) kd26 rfl rfl) rfl rfl hl.1 rfl (lv_room (Nat.le_of_ble_eq_true rfl)) dX2_putFirst_113 ⟨Nat.zero_le _, Nat.zero_le _⟩) hS (fun H locs hP hS => ?_)
        exact b_116 x2 (MX4_put 26 (0 : Int32) (V 24 1) V) _ _ _ (lv_sub hl [0, 1, 2] rfl) hP hS hres
      have hres := hres.trans (if_neg c_1)
      have hs := hs c_1
      refine lv_aload_n hx hb dX2_putFirst_26 rfl (lv_at hl 0 rfl) ?_
      refine gh_get (v := .ref (gA G 26)) (C := RX2) (T := TX2) (N := 5) hx hb hw inlX2 hown hT hP 25 (Nat.le_of_ble_eq_true rfl) kd25 rfl rfl 1 (by decide) (hw _ uw88) rfl dX2_putFirst_27 ?_
      refine lv_iload_n hx hb dX2_putFirst_30 rfl (lv_at hl 3 rfl) ?_
      refine lv_aload_n hx hb dX2_putFirst_31 rfl (lv_at hl 0 rfl) ?_
      refine gh_get (v := .ref (gA G 26)) (C := RX2) (T := TX2) (N := 5) hx hb hw inlX2 hown hT hP 25 (Nat.le_of_ble_eq_true rfl) kd25 rfl rfl 1 (by decide) (hw _ uw88) rfl dX2_putFirst_32 ?_
      refine lv_iload_n hx hb dX2_putFirst_35 rfl (lv_at hl 3 rfl) ?_
      refine lv_iconst (v := 1) hx hb dX2_putFirst_36 (by decide) ?_
      refine lv_isub hx hb dX2_putFirst_37 ?_
      refine gh_kr (va_runV (As := [.int (x3 - (1 : Int32))]) (rest := [.int x3, .ref (gA G 26)]) ⟨hx, hb, hml, hown, hw⟩ (cc_X4_at l G V 26 gi26 (x3 - (1 : Int32))) (cwV 1 hw gv_RX2_43 rfl rfl rfl dd_X4_at ⟨Nat.le_of_ble_eq_true rfl, Nat.le_of_ble_eq_true rfl⟩) (gh_preV hT hP (Nat.le_of_ble_eq_true rfl) kd26 rfl rfl) rfl rfl hl.1 rfl (lv_room (Nat.le_of_ble_eq_true rfl)) dX2_putFirst_38 ⟨Nat.zero_le _, Nat.zero_le _⟩) hS (fun H locs hP hS => ?_)
      refine gh_kv (va_runV (As := [.int x3, .int (MX4_at 26 (x3 - (1 : Int32)) V)]) (rest := []) ⟨hx, hb, hml, hown, hw⟩ (cc_X4_put l G V 26 gi26 x3 (MX4_at 26 (x3 - (1 : Int32)) V)) (cwV 2 hw gv_RX2_47 rfl rfl rfl dd_X4_put ⟨Nat.le_of_ble_eq_true rfl, Nat.le_of_ble_eq_true rfl⟩) (gh_preV hT hP (Nat.le_of_ble_eq_true rfl) kd26 rfl rfl) rfl rfl hl.1 rfl (lv_room (Nat.le_of_ble_eq_true rfl)) dX2_putFirst_41 ⟨Nat.zero_le _, Nat.zero_le _⟩) hS (fun H locs hP hS => ?_)
      exact b_44 x2 x3 (MX4_put 26 x3 (MX4_at 26 (x3 - (1 : Int32)) V) V) _ _ _ (lv_sub hl [0, 1, 2, 3] rfl) hP hS hs hres
  have b_15 : ∀ (x2 : Int32) (V : gV) (H : Heap) (locs : List Loc) (ls : Array Slot), lv_has ls 4 [(0, .ref (gA G 25)), (1, .ref (gA G 24)), (2, .int x2)] → va_P (gD G) vwCl (gL G V) H → va_S (gF G) s.heap H locs → PX2_putFirst_15  x2 V → res = BX2_putFirst_15  x2 V → W p l e r_X2_putFirst s m ([.ref (gA G 25), .ref (gA G 24), .int a2] : List Value).toArray below meth c H locs 0 0 (MQ below (gQV G res) ([.ref (gA G 25), .ref (gA G 24), .int a2] : List Value).toArray s 0 0 (gF G)) (F0 m 15 ls []) := by
    intro x2 V H locs ls hl hP hS hs hres
    have hs : (PX2_putFirst_22 1000 x2 ((V 25 0) - (1 : Int32)) V) := hs
    have hres : res = (BX2_putFirst_22 1000 x2 ((V 25 0) - (1 : Int32)) V) := hres
    refine lv_aload_n hx hb dX2_putFirst_15 rfl (lv_at hl 0 rfl) ?_
    refine gh_get (v := .int (V 25 0)) (C := RX2) (T := TX2) (N := 5) hx hb hw inlX2 hown hT hP 25 (Nat.le_of_ble_eq_true rfl) kd25 rfl rfl 0 (by decide) (hw _ uw187) rfl dX2_putFirst_16 ?_
    refine lv_iconst (v := 1) hx hb dX2_putFirst_19 (by decide) ?_
    refine lv_isub hx hb dX2_putFirst_20 ?_
    refine lv_istore_n (lv' := [(3, .int ((V 25 0) - (1 : Int32))), (0, .ref (gA G 25)), (1, .ref (gA G 24)), (2, .int x2)]) hx hb dX2_putFirst_21 rfl hl (by decide) rfl (fun ls hl => ?_)
    exact b_22 1000 x2 ((V 25 0) - (1 : Int32)) V _ _ _ (lv_sub hl [1, 2, 3, 0] rfl) hP hS hs hres
  refine lv_aload_n hx hb dX2_putFirst_0 rfl (lv_at hl 0 rfl) ?_
  refine lv_aload_n hx hb dX2_putFirst_1 rfl (lv_at hl 0 rfl) ?_
  refine gh_get (v := .int (V 25 0)) (C := RX2) (T := TX2) (N := 5) hx hb hw inlX2 hown hT hP 25 (Nat.le_of_ble_eq_true rfl) kd25 rfl rfl 0 (by decide) (hw _ uw187) rfl dX2_putFirst_2 ?_
  refine lv_iconst (v := 1) hx hb dX2_putFirst_5 (by decide) ?_
  refine lv_iadd hx hb dX2_putFirst_6 ?_
  refine lv_bipush (v := 6) hx hb dX2_putFirst_7 (by decide) ?_
  refine va_mmin hx hb (hml.trans hl.1.symm) hown (hw _ uw416) (hw _ uw143) (hw _ uw66) (hw _ uw144) (Nat.le_of_ble_eq_true rfl) (Nat.le_of_ble_eq_true rfl) (Nat.zero_le _) (Nat.zero_le _) dX2_putFirst_9 ?_
  refine gh_put (ty := .int) (x := (if (6 : Int32) < ((V 25 0) + (1 : Int32)) then (6 : Int32) else ((V 25 0) + (1 : Int32)))) (C := RX2) (T := TX2) (N := 5) hx hb hw inlX2 tyX2_ok nmX2 hown hT hP hS 25 (Nat.le_of_ble_eq_true rfl) kd25 rfl rfl 0 (by decide) (hw _ uw187) rfl (by decide +kernel) rfl rfl (Nat.le_of_ble_eq_true rfl) rfl dX2_putFirst_12 (fun H locs hP hS => ?_)
  exact b_15 a2 (gu V 25 0 (if (6 : Int32) < ((V 25 0) + (1 : Int32)) then (6 : Int32) else ((V 25 0) + (1 : Int32)))) _ _ _ (lv_sub hl [0, 1, 2] rfl) hP hS hs hres
theorem gv_RX2_33 : GoodIn wsL_law (wsV RX2 33 RX4 yX4_copyFrom wc_X4_copyFrom) := gh_gV uw188 uw158 uw159 uw55 uw160
def BX2_copyFrom_41 (k : Nat) (o : Nat)   (V : gV) : gV := (MX4_copyFrom (k + 7) (o + 7) V)
def BX2_copyFrom_30 (k : Nat) (o : Nat)   (V : gV) : gV := BX2_copyFrom_41 k o (MX4_copyFrom (k + 5) (o + 5) V)
def BX2_copyFrom_19 (k : Nat) (o : Nat)   (V : gV) : gV := BX2_copyFrom_30 k o (MX4_copyFrom (k + 3) (o + 3) V)
def BX2_copyFrom_8 (k : Nat) (o : Nat)   (V : gV) : gV := BX2_copyFrom_19 k o (MX4_copyFrom (k + 1) (o + 1) V)
def MX2_copyFrom (k : Nat) (o : Nat)  (V : gV) : gV := BX2_copyFrom_8 k o (gu V k 0 (V o 0))
abbrev wc_X2_copyFrom : List Cond := Cond.code yX2_copyFrom cX2_copyFrom 2 none :: wsL_law
abbrev r_X2_copyFrom : Room := { frames := 2, cells := 0, slots := 0, locals := 61 }
theorem dd_X2_copyFrom : yX2_copyFrom.cls = RX2 ∧ yX2_copyFrom.cls ≠ "java/lang/invoke/MethodHandle" ∧ yX2_copyFrom.cls ≠ "java/lang/invoke/VarHandle" ∧ (parseMethodDescriptor yX2_copyFrom.desc).map (fun d => d.parameters.length) = some 1 := by decide +kernel
set_option maxHeartbeats 8000000 in
set_option maxRecDepth 100000 in
theorem cc_X2_copyFrom (l : Launch) (G : gG) (V : gV) (k : Nat) (hk : gX2 k) (o : Nat) (ho : gX2 o)    : Met l yX2_copyFrom wc_X2_copyFrom r_X2_copyFrom (va_Pc [.ref (gA G k), .ref (gA G o)] (gW G V)) (gQV G (MX2_copyFrom k o V)) 0 0 (gF G) := by
  refine Met.ofW (cc := cX2_copyFrom) (maxL := 2) (ret := none) (by decide) rfl ?_
  intro p e s m args below meth c s₁ B hml hv
  obtain ⟨rfl, hP, hT⟩ := hv
  have hx := B.exec
  have hb := B.bytes
  have hr := B.returns
  have hw := gh_hw (atoms_spec (ws := wc_X2_copyFrom) B.pre)
  have hown : s.vm.findClass RX2 = some m.cls := findClass_of_methodNamed B.named
  have hlocks := B.notSynchronized
  have hS : va_S (gF G) s.heap s.heap [] := va_S.rf
  have hl := lv_entry ([.ref (gA G k), .ref (gA G o)]) (n := 2) (Nat.le_of_ble_eq_true rfl)
  rw [lg_entry_eq]
  generalize (lg_sl ([.ref (gA G k), .ref (gA G o)]) ++ List.replicate (2 - (lg_sl ([.ref (gA G k), .ref (gA G o)])).length) Slot.unset).toArray = ls at hl ⊢
  have hl : lv_has ls 2 [(0, .ref (gA G k)), (1, .ref (gA G o))] := hl
  obtain ⟨res, hres⟩ : ∃ r, r = MX2_copyFrom k o V := ⟨_, rfl⟩
  rw [← hres]
  show W p l e r_X2_copyFrom s m ([.ref (gA G k), .ref (gA G o)] : List Value).toArray below meth c s.heap [] 0 0 (MQ below (gQV G res) ([.ref (gA G k), .ref (gA G o)] : List Value).toArray s 0 0 (gF G)) (F0 m 0 ls [])
  have hres : res = (BX2_copyFrom_8 k o (gu V k 0 (V o 0))) := hres
  have b_41 : ∀  (V : gV) (H : Heap) (locs : List Loc) (ls : Array Slot), lv_has ls 2 [(0, .ref (gA G k)), (1, .ref (gA G o))] → va_P (gD G) vwCl (gL G V) H → va_S (gF G) s.heap H locs → res = BX2_copyFrom_41 k o  V → W p l e r_X2_copyFrom s m ([.ref (gA G k), .ref (gA G o)] : List Value).toArray below meth c H locs 0 0 (MQ below (gQV G res) ([.ref (gA G k), .ref (gA G o)] : List Value).toArray s 0 0 (gF G)) (F0 m 41 ls []) := by
    intro  V H locs ls hl hP hS hres
    have hres : res = ((MX4_copyFrom (k + 7) (o + 7) V)) := hres
    refine lv_aload_n hx hb dX2_copyFrom_41 rfl (lv_at hl 0 rfl) ?_
    refine gh_get (v := .ref (gA G (k + 7))) (C := RX2) (T := TX2) (N := 5) hx hb hw inlX2 hown hT hP k (Nat.lt_of_le_of_lt (Nat.le_add_right _ 8) (hk).1) (hk).2.1 rfl rfl 4 (by decide) (hw _ uw91) rfl dX2_copyFrom_42 ?_
    refine lv_aload_n hx hb dX2_copyFrom_45 rfl (lv_at hl 1 rfl) ?_
    refine gh_get (v := .ref (gA G (o + 7))) (C := RX2) (T := TX2) (N := 5) hx hb hw inlX2 hown hT hP o (Nat.lt_of_le_of_lt (Nat.le_add_right _ 8) (ho).1) (ho).2.1 rfl rfl 4 (by decide) (hw _ uw91) rfl dX2_copyFrom_46 ?_
    refine gh_kv (va_runV (As := [.ref (gA G (o + 7))]) (rest := []) ⟨hx, hb, hml, hown, hw⟩ (cc_X4_copyFrom l G V (k + 7) (hk).2.2.2.2.2 (o + 7) (ho).2.2.2.2.2) (cwV 1 hw gv_RX2_33 rfl rfl rfl dd_X4_copyFrom ⟨Nat.le_of_ble_eq_true rfl, Nat.le_of_ble_eq_true rfl⟩) (gh_preV hT hP (Nat.lt_of_succ_lt ((hk).2.2.2.2.2).1) ((hk).2.2.2.2.2).2.1 rfl rfl) rfl rfl hl.1 rfl (lv_room (Nat.le_of_ble_eq_true rfl)) dX2_copyFrom_49 ⟨Nat.zero_le _, Nat.zero_le _⟩) hS (fun H locs hP hS => ?_)
    exact gh_vret hx hb hr hlocks hP hS hT hres dX2_copyFrom_52
  have b_30 : ∀  (V : gV) (H : Heap) (locs : List Loc) (ls : Array Slot), lv_has ls 2 [(0, .ref (gA G k)), (1, .ref (gA G o))] → va_P (gD G) vwCl (gL G V) H → va_S (gF G) s.heap H locs → res = BX2_copyFrom_30 k o  V → W p l e r_X2_copyFrom s m ([.ref (gA G k), .ref (gA G o)] : List Value).toArray below meth c H locs 0 0 (MQ below (gQV G res) ([.ref (gA G k), .ref (gA G o)] : List Value).toArray s 0 0 (gF G)) (F0 m 30 ls []) := by
    intro  V H locs ls hl hP hS hres
    have hres : res = (BX2_copyFrom_41 k o (MX4_copyFrom (k + 5) (o + 5) V)) := hres
    refine lv_aload_n hx hb dX2_copyFrom_30 rfl (lv_at hl 0 rfl) ?_
    refine gh_get (v := .ref (gA G (k + 5))) (C := RX2) (T := TX2) (N := 5) hx hb hw inlX2 hown hT hP k (Nat.lt_of_le_of_lt (Nat.le_add_right _ 8) (hk).1) (hk).2.1 rfl rfl 3 (by decide) (hw _ uw90) rfl dX2_copyFrom_31 ?_
    refine lv_aload_n hx hb dX2_copyFrom_34 rfl (lv_at hl 1 rfl) ?_
    refine gh_get (v := .ref (gA G (o + 5))) (C := RX2) (T := TX2) (N := 5) hx hb hw inlX2 hown hT hP o (Nat.lt_of_le_of_lt (Nat.le_add_right _ 8) (ho).1) (ho).2.1 rfl rfl 3 (by decide) (hw _ uw90) rfl dX2_copyFrom_35 ?_
    refine gh_kv (va_runV (As := [.ref (gA G (o + 5))]) (rest := []) ⟨hx, hb, hml, hown, hw⟩ (cc_X4_copyFrom l G V (k + 5) (hk).2.2.2.2.1 (o + 5) (ho).2.2.2.2.1) (cwV 1 hw gv_RX2_33 rfl rfl rfl dd_X4_copyFrom ⟨Nat.le_of_ble_eq_true rfl, Nat.le_of_ble_eq_true rfl⟩) (gh_preV hT hP (Nat.lt_of_succ_lt ((hk).2.2.2.2.1).1) ((hk).2.2.2.2.1).2.1 rfl rfl) rfl rfl hl.1 rfl (lv_room (Nat.le_of_ble_eq_true rfl)) dX2_copyFrom_38 ⟨Nat.zero_le _, Nat.zero_le _⟩) hS (fun H locs hP hS => ?_)
    exact b_41 (MX4_copyFrom (k + 5) (o + 5) V) _ _ _ (lv_sub hl [0, 1] rfl) hP hS hres
  have b_19 : ∀  (V : gV) (H : Heap) (locs : List Loc) (ls : Array Slot), lv_has ls 2 [(0, .ref (gA G k)), (1, .ref (gA G o))] → va_P (gD G) vwCl (gL G V) H → va_S (gF G) s.heap H locs → res = BX2_copyFrom_19 k o  V → W p l e r_X2_copyFrom s m ([.ref (gA G k), .ref (gA G o)] : List Value).toArray below meth c H locs 0 0 (MQ below (gQV G res) ([.ref (gA G k), .ref (gA G o)] : List Value).toArray s 0 0 (gF G)) (F0 m 19 ls []) := by
    intro  V H locs ls hl hP hS hres
    have hres : res = (BX2_copyFrom_30 k o (MX4_copyFrom (k + 3) (o + 3) V)) := hres
    refine lv_aload_n hx hb dX2_copyFrom_19 rfl (lv_at hl 0 rfl) ?_
    refine gh_get (v := .ref (gA G (k + 3))) (C := RX2) (T := TX2) (N := 5) hx hb hw inlX2 hown hT hP k (Nat.lt_of_le_of_lt (Nat.le_add_right _ 8) (hk).1) (hk).2.1 rfl rfl 2 (by decide) (hw _ uw89) rfl dX2_copyFrom_20 ?_
    refine lv_aload_n hx hb dX2_copyFrom_23 rfl (lv_at hl 1 rfl) ?_
    refine gh_get (v := .ref (gA G (o + 3))) (C := RX2) (T := TX2) (N := 5) hx hb hw inlX2 hown hT hP o (Nat.lt_of_le_of_lt (Nat.le_add_right _ 8) (ho).1) (ho).2.1 rfl rfl 2 (by decide) (hw _ uw89) rfl dX2_copyFrom_24 ?_
    refine gh_kv (va_runV (As := [.ref (gA G (o + 3))]) (rest := []) ⟨hx, hb, hml, hown, hw⟩ (cc_X4_copyFrom l G V (k + 3) (hk).2.2.2.1 (o + 3) (ho).2.2.2.1) (cwV 1 hw gv_RX2_33 rfl rfl rfl dd_X4_copyFrom ⟨Nat.le_of_ble_eq_true rfl, Nat.le_of_ble_eq_true rfl⟩) (gh_preV hT hP (Nat.lt_of_succ_lt ((hk).2.2.2.1).1) ((hk).2.2.2.1).2.1 rfl rfl) rfl rfl hl.1 rfl (lv_room (Nat.le_of_ble_eq_true rfl)) dX2_copyFrom_27 ⟨Nat.zero_le _, Nat.zero_le _⟩) hS (fun H locs hP hS => ?_)
    exact b_30 (MX4_copyFrom (k + 3) (o + 3) V) _ _ _ (lv_sub hl [0, 1] rfl) hP hS hres
  have b_8 : ∀  (V : gV) (H : Heap) (locs : List Loc) (ls : Array Slot), lv_has ls 2 [(0, .ref (gA G k)), (1, .ref (gA G o))] → va_P (gD G) vwCl (gL G V) H → va_S (gF G) s.heap H locs → res = BX2_copyFrom_8 k o  V → W p l e r_X2_copyFrom s m ([.ref (gA G k), .ref (gA G o)] : List Value).toArray below meth c H locs 0 0 (MQ below (gQV G res) ([.ref (gA G k), .ref (gA G o)] : List Value).toArray s 0 0 (gF G)) (F0 m 8 ls []) := by
    intro  V H locs ls hl hP hS hres
    have hres : res = (BX2_copyFrom_19 k o (MX4_copyFrom (k + 1) (o + 1) V)) := hres
    refine lv_aload_n hx hb dX2_copyFrom_8 rfl (lv_at hl 0 rfl) ?_
    refine gh_get (v := .ref (gA G (k + 1))) (C := RX2) (T := TX2) (N := 5) hx hb hw inlX2 hown hT hP k (Nat.lt_of_le_of_lt (Nat.le_add_right _ 8) (hk).1) (hk).2.1 rfl rfl 1 (by decide) (hw _ uw88) rfl dX2_copyFrom_9 ?_
    refine lv_aload_n hx hb dX2_copyFrom_12 rfl (lv_at hl 1 rfl) ?_
    refine gh_get (v := .ref (gA G (o + 1))) (C := RX2) (T := TX2) (N := 5) hx hb hw inlX2 hown hT hP o (Nat.lt_of_le_of_lt (Nat.le_add_right _ 8) (ho).1) (ho).2.1 rfl rfl 1 (by decide) (hw _ uw88) rfl dX2_copyFrom_13 ?_
    refine gh_kv (va_runV (As := [.ref (gA G (o + 1))]) (rest := []) ⟨hx, hb, hml, hown, hw⟩ (cc_X4_copyFrom l G V (k + 1) (hk).2.2.1 (o + 1) (ho).2.2.1) (cwV 1 hw gv_RX2_33 rfl rfl rfl dd_X4_copyFrom ⟨Nat.le_of_ble_eq_true rfl, Nat.le_of_ble_eq_true rfl⟩) (gh_preV hT hP (Nat.lt_of_succ_lt ((hk).2.2.1).1) ((hk).2.2.1).2.1 rfl rfl) rfl rfl hl.1 rfl (lv_room (Nat.le_of_ble_eq_true rfl)) dX2_copyFrom_16 ⟨Nat.zero_le _, Nat.zero_le _⟩) hS (fun H locs hP hS => ?_)
    exact b_19 (MX4_copyFrom (k + 1) (o + 1) V) _ _ _ (lv_sub hl [0, 1] rfl) hP hS hres
  refine lv_aload_n hx hb dX2_copyFrom_0 rfl (lv_at hl 0 rfl) ?_
  refine lv_aload_n hx hb dX2_copyFrom_1 rfl (lv_at hl 1 rfl) ?_
  refine gh_get (v := .int (V o 0)) (C := RX2) (T := TX2) (N := 5) hx hb hw inlX2 hown hT hP o (Nat.lt_of_le_of_lt (Nat.le_add_right _ 8) (ho).1) (ho).2.1 rfl rfl 0 (by decide) (hw _ uw187) rfl dX2_copyFrom_2 ?_
  refine gh_put (ty := .int) (x := (V o 0)) (C := RX2) (T := TX2) (N := 5) hx hb hw inlX2 tyX2_ok nmX2 hown hT hP hS k (Nat.lt_of_le_of_lt (Nat.le_add_right _ 8) (hk).1) (hk).2.1 rfl rfl 0 (by decide) (hw _ uw187) rfl (by decide +kernel) rfl rfl (Nat.le_of_ble_eq_true rfl) rfl dX2_copyFrom_5 (fun H locs hP hS => ?_)
  exact b_8 (gu V k 0 (V o 0)) _ _ _ (lv_sub hl [0, 1] rfl) hP hS hres
