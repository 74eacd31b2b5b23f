theorem gv_RX9_40 : GoodIn wsL_law (va_wsS RX9 40 yX9_in wc_X9_in) := gh_gS uw205 uw206 uw5 uw207
def MX9_isAt  (a1 : Int32) (a2 : Int32) (V : gV) : Int32 := if (V 213 6) ≤ (V 213 7) then ((0 : Int32)) else (if (MX9_in (V 217 ((V 213 7)).toNatClampNeg) a1 a2 V) = 0 then ((0 : Int32)) else ((1 : Int32)))
def PX9_isAt  (a1 : Int32) (a2 : Int32) (V : gV) : Prop := ((¬ (V 213 6) ≤ (V 213 7) → (vp_in (V 213 7) 120)))
abbrev wc_X9_isAt : List Cond := Cond.code yX9_isAt cX9_isAt 3 (some .boolean) :: wsL_law
abbrev r_X9_isAt : Room := { frames := 1, cells := 0, slots := 0, locals := 22 }
theorem dd_X9_isAt : yX9_isAt.cls = RX9 ∧ yX9_isAt.cls ≠ "java/lang/invoke/MethodHandle" ∧ yX9_isAt.cls ≠ "java/lang/invoke/VarHandle" ∧ (parseMethodDescriptor yX9_isAt.desc).map (fun d => d.parameters.length) = some 2 := by decide +kernel
set_option maxHeartbeats 8000000 in
set_option maxRecDepth 100000 in
theorem cc_X9_isAt (l : Launch) (G : gG) (V : gV)   (a1 : Int32) (a2 : Int32) (hs : PX9_isAt a1 a2 V) : Met l yX9_isAt wc_X9_isAt r_X9_isAt (va_Pc [.ref (gA G 213), .int a1, .int a2] (gW G V)) (gQR G (MX9_isAt a1 a2 V) V) 0 0 (gF G) := by
  refine Met.ofW (cc := cX9_isAt) (maxL := 3) (ret := (some .boolean)) (by decide) rfl ?_
  intro p e s m args below meth c s₁ B hml hv
  obtain ⟨rfl, hP, hT⟩ := hv
  have hx := B.exec
  have hb := B.bytes
  have hr := B.returns
  have hw := gh_hw (atoms_spec (ws := wc_X9_isAt) B.pre)
  have hown : s.vm.findClass RX9 = some m.cls := findClass_of_methodNamed B.named
  have hlocks := B.notSynchronized
  have hS : va_S (gF G) s.heap s.heap [] := va_S.rf
  have hl := lv_entry ([.ref (gA G 213), .int a1, .int a2]) (n := 3) (Nat.le_of_ble_eq_true rfl)
  rw [lg_entry_eq]
  generalize (lg_sl ([.ref (gA G 213), .int a1, .int a2]) ++ List.replicate (3 - (lg_sl ([.ref (gA G 213), .int a1, .int a2])).length) Slot.unset).toArray = ls at hl ⊢
  have hl : lv_has ls 3 [(0, .ref (gA G 213)), (1, .int a1), (2, .int a2)] := hl
  obtain ⟨res, hres⟩ : ∃ r, r = MX9_isAt a1 a2 V := ⟨_, rfl⟩
  rw [← hres]
  show W p l e r_X9_isAt s m ([.ref (gA G 213), .int a1, .int a2] : List Value).toArray below meth c s.heap [] 0 0 (MQ below (gQR G res V) ([.ref (gA G 213), .int a1, .int a2] : List Value).toArray s 0 0 (gF G)) (F0 m 0 ls [])
  have hs : ((¬ (V 213 6) ≤ (V 213 7) → (vp_in (V 213 7) 120))) := hs
  have hres : res = (if (V 213 6) ≤ (V 213 7) then ((0 : Int32)) else (if (MX9_in (V 217 ((V 213 7)).toNatClampNeg) a1 a2 V) = 0 then ((0 : Int32)) else ((1 : Int32)))) := hres
  refine lv_aload_n hx hb dX9_isAt_0 rfl (lv_at hl 0 rfl) ?_
  refine gh_get (v := .int (V 213 7)) (C := RX9) (T := TX9) (N := 11) hx hb hw inlX9 hown hT hP 213 (Nat.le_of_ble_eq_true rfl) kd213 rfl rfl 7 (by decide) (hw _ uw821) rfl dX9_isAt_1 ?_
  refine lv_aload_n hx hb dX9_isAt_4 rfl (lv_at hl 0 rfl) ?_
  refine gh_get (v := .int (V 213 6)) (C := RX9) (T := TX9) (N := 11) hx hb hw inlX9 hown hT hP 213 (Nat.le_of_ble_eq_true rfl) kd213 rfl rfl 6 (by decide) (hw _ uw606) rfl dX9_isAt_5 ?_
  refine lv_icmp_ge (tgt := 32) hx hb dX9_isAt_8 (by decide) (fun c_1 => ?_) (fun c_1 => ?_)
  · have hres := hres.trans (if_pos c_1)
    refine lv_iconst (v := 0) hx hb dX9_isAt_32 (by decide) ?_
    exact gh_zretR hx hb hr rfl hlocks hP hS hT hres dX9_isAt_33
  have hres := hres.trans (if_neg c_1)
  have hs := hs c_1
  refine lv_aload_n hx hb dX9_isAt_11 rfl (lv_at hl 0 rfl) ?_
  refine gh_get (v := .ref (gA G 217)) (C := RX9) (T := TX9) (N := 11) hx hb hw inlX9 hown hT hP 213 (Nat.le_of_ble_eq_true rfl) kd213 rfl rfl 5 (by decide) (hw _ uw120) rfl dX9_isAt_12 ?_
  refine lv_aload_n hx hb dX9_isAt_15 rfl (lv_at hl 0 rfl) ?_
  refine gh_get (v := .int (V 213 7)) (C := RX9) (T := TX9) (N := 11) hx hb hw inlX9 hown hT hP 213 (Nat.le_of_ble_eq_true rfl) kd213 rfl rfl 7 (by decide) (hw _ uw821) rfl dX9_isAt_16 ?_
  have ho_2 := hs
  refine gh_iald hx hb hT hP 217 (Nat.le_of_ble_eq_true rfl) kd217 ho_2 dX9_isAt_19 ?_
  refine lv_iload_n hx hb dX9_isAt_20 rfl (lv_at hl 1 rfl) ?_
  refine lv_iload_n hx hb dX9_isAt_21 rfl (lv_at hl 2 rfl) ?_
  refine gh_kr (va_runS (As := [.int (V 217 ((V 213 7)).toNatClampNeg), .int a1, .int a2]) (rest := []) ⟨hx, hb, hml, hown, hw⟩ (cc_X9_in l G V (V 217 ((V 213 7)).toNatClampNeg) a1 a2) (va_cwS 3 hw gv_RX9_40 rfl rfl rfl dd_X9_in.2 ⟨Nat.le_of_ble_eq_true rfl, Nat.le_of_ble_eq_true rfl⟩) (gh_pre hT hP) rfl rfl hl.1 rfl (lv_room (Nat.le_of_ble_eq_true rfl)) dX9_isAt_22 ⟨Nat.zero_le _, Nat.zero_le _⟩) hS (fun H locs hP hS => ?_)
  refine lv_if_eq (tgt := 32) hx hb dX9_isAt_25 (by decide) (fun c_3 => ?_) (fun c_3 => ?_)
  · have hres := hres.trans (if_pos c_3)
    refine lv_iconst (v := 0) hx hb dX9_isAt_32 (by decide) ?_
    exact gh_zretR hx hb hr rfl hlocks hP hS hT hres dX9_isAt_33
  have hres := hres.trans (if_neg c_3)
  refine lv_iconst (v := 1) hx hb dX9_isAt_28 (by decide) ?_
  refine lv_goto (tgt := 33) hx hb dX9_isAt_29 (by decide) ?_
  exact gh_zretR hx hb hr rfl hlocks hP hS hT hres dX9_isAt_33
theorem gv_RX9_133 : GoodIn wsL_law (wsV RX9 133 RX9 yX9_isAt wc_X9_isAt) := gh_gV uw832 uw833 uw834 uw5 uw835
def BX9_sign_21   (x2 : Int32) (s0 : Int32) (s1 : Int32) (V : gV) : Int32 × gV := (x2, (gu V 213 7 (s1 + s0)))
def PX9_sign_21   (x2 : Int32) (s0 : Int32) (s1 : Int32) (V : gV) : Prop := (gZ x2)
def MX9_sign  (a1 : Int32) (V : gV) : Int32 × gV := if (MX9_isAt a1 a1 V) = 0 then (BX9_sign_21 (MX9_isAt a1 a1 V) (0 : Int32) (V 213 7) V) else (BX9_sign_21 (MX9_isAt a1 a1 V) (1 : Int32) (V 213 7) V)
def PX9_sign  (a1 : Int32) (V : gV) : Prop := (PX9_isAt a1 a1 V) ∧ (((MX9_isAt a1 a1 V) = 0 → (PX9_sign_21 (MX9_isAt a1 a1 V) (0 : Int32) (V 213 7) V)) ∧ (¬ (MX9_isAt a1 a1 V) = 0 → (PX9_sign_21 (MX9_isAt a1 a1 V) (1 : Int32) (V 213 7) V)))
abbrev wc_X9_sign : List Cond := Cond.code yX9_sign cX9_sign 3 (some .boolean) :: wsL_law
abbrev r_X9_sign : Room := { frames := 2, cells := 0, slots := 0, locals := 44 }
theorem dd_X9_sign : yX9_sign.cls = RX9 ∧ yX9_sign.cls ≠ "java/lang/invoke/MethodHandle" ∧ yX9_sign.cls ≠ "java/lang/invoke/VarHandle" ∧ (parseMethodDescriptor yX9_sign.desc).map (fun d => d.parameters.length) = some 1 := by decide +kernel
set_option maxHeartbeats 8000000 in
set_option maxRecDepth 100000 in
theorem cc_X9_sign (l : Launch) (G : gG) (V : gV)   (a1 : Int32) (hs : PX9_sign a1 V) : Met l yX9_sign wc_X9_sign r_X9_sign (va_Pc [.ref (gA G 213), .int a1] (gW G V)) (gQI G (MX9_sign a1 V)) 0 0 (gF G) := by
  refine Met.ofW (cc := cX9_sign) (maxL := 3) (ret := (some .boolean)) (by decide) rfl ?_
  intro p e s m args below meth c s₁ B hml hv
  obtain ⟨rfl, hP, hT⟩ := hv
  have hx := B.exec
  have hb := B.bytes
  have hr := B.returns
  have hw := gh_hw (atoms_spec (ws := wc_X9_sign) B.pre)
  have hown : s.vm.findClass RX9 = some m.cls := findClass_of_methodNamed B.named
  have hlocks := B.notSynchronized
  have hS : va_S (gF G) s.heap s.heap [] := va_S.rf
  have hl := lv_entry ([.ref (gA G 213), .int a1]) (n := 3) (Nat.le_of_ble_eq_true rfl)
  rw [lg_entry_eq]
  generalize (lg_sl ([.ref (gA G 213), .int a1]) ++ List.replicate (3 - (lg_sl ([.ref (gA G 213), .int a1])).length) Slot.unset).toArray = ls at hl ⊢
  have hl : lv_has ls 3 [(0, .ref (gA G 213)), (1, .int a1)] := hl
  obtain ⟨res, hres⟩ : ∃ r, r = MX9_sign a1 V := ⟨_, rfl⟩
  rw [← hres]
  show W p l e r_X9_sign s m ([.ref (gA G 213), .int a1] : List Value).toArray below meth c s.heap [] 0 0 (MQ below (gQI G res) ([.ref (gA G 213), .int a1] : List Value).toArray s 0 0 (gF G)) (F0 m 0 ls [])
  have hs : (PX9_isAt a1 a1 V) ∧ (((MX9_isAt a1 a1 V) = 0 → (PX9_sign_21 (MX9_isAt a1 a1 V) (0 : Int32) (V 213 7) V)) ∧ (¬ (MX9_isAt a1 a1 V) = 0 → (PX9_sign_21 (MX9_isAt a1 a1 V) (1 : Int32) (V 213 7) V))) := hs
  have hres : res = (if (MX9_isAt a1 a1 V) = 0 then (BX9_sign_21 (MX9_isAt a1 a1 V) (0 : Int32) (V 213 7) V) else (BX9_sign_21 (MX9_isAt a1 a1 V) (1 : Int32) (V 213 7) V)) := hres
  have b_21 : ∀ (x2 : Int32) (s0 : Int32) (s1 : Int32) (V : gV) (H : Heap) (locs : List Loc) (ls : Array Slot), lv_has ls 3 [(2, .int x2)] → va_P (gD G) vwCl (gL G V) H → va_S (gF G) s.heap H locs → PX9_sign_21  x2 s0 s1 V → res = BX9_sign_21  x2 s0 s1 V → W p l e r_X9_sign s m ([.ref (gA G 213), .int a1] : List Value).toArray below meth c H locs 0 0 (MQ below (gQI G res) ([.ref (gA G 213), .int a1] : List Value).toArray s 0 0 (gF G)) (F0 m 21 ls [.int s0, .int s1, .ref (gA G 213)]) := by
    intro x2 s0 s1 V H locs ls hl hP hS hs hres
    have hs : (gZ x2) := hs
    have hres : res = ((x2, (gu V 213 7 (s1 + s0)))) := hres
    refine lv_iadd hx hb dX9_sign_21 ?_
    refine gh_put (ty := .int) (x := (s1 + s0)) (C := RX9) (T := TX9) (N := 11) hx hb hw inlX9 tyX9_ok nmX9 hown hT hP hS 213 (Nat.le_of_ble_eq_true rfl) kd213 rfl rfl 7 (by decide) (hw _ uw821) rfl (by decide +kernel) rfl rfl (Nat.le_of_ble_eq_true rfl) rfl dX9_sign_22 (fun H locs hP hS => ?_)
    refine lv_iload_n hx hb dX9_sign_25 rfl (lv_at hl 0 rfl) ?_
    have ho_3 := hs
    exact gh_zret hx hb hr ho_3.n hlocks hP hS hT hres dX9_sign_26
  refine lv_aload_n hx hb dX9_sign_0 rfl (lv_at hl 0 rfl) ?_
  refine lv_iload_n hx hb dX9_sign_1 rfl (lv_at hl 1 rfl) ?_
  refine lv_iload_n hx hb dX9_sign_2 rfl (lv_at hl 1 rfl) ?_
  obtain ⟨ho_1, hs⟩ := hs
  refine gh_kr (va_runV (As := [.int a1, .int a1]) (rest := []) ⟨hx, hb, hml, hown, hw⟩ (cc_X9_isAt l G V a1 a1 ho_1) (cwV 2 hw gv_RX9_133 rfl rfl rfl dd_X9_isAt ⟨Nat.le_of_ble_eq_true rfl, Nat.le_of_ble_eq_true rfl⟩) (gh_preV hT hP (Nat.le_of_ble_eq_true rfl) kd213 rfl rfl) rfl rfl hl.1 rfl (lv_room (Nat.le_of_ble_eq_true rfl)) dX9_sign_3 ⟨Nat.zero_le _, Nat.zero_le _⟩) hS (fun H locs hP hS => ?_)
  refine lv_istore_n (lv' := [(2, .int (MX9_isAt a1 a1 V)), (0, .ref (gA G 213)), (1, .int a1)]) hx hb dX9_sign_6 rfl hl (by decide) rfl (fun ls hl => ?_)
  refine lv_aload_n hx hb dX9_sign_7 rfl (lv_at hl 1 rfl) ?_
  refine lv_dup hx hb dX9_sign_8 rfl ?_
  refine gh_get (v := .int (V 213 7)) (C := RX9) (T := TX9) (N := 11) hx hb hw inlX9 hown hT hP 213 (Nat.le_of_ble_eq_true rfl) kd213 rfl rfl 7 (by decide) (hw _ uw821) rfl dX9_sign_9 ?_
  refine lv_iload_n hx hb dX9_sign_12 rfl (lv_at hl 0 rfl) ?_
  refine lv_if_eq (tgt := 20) hx hb dX9_sign_13 (by decide) (fun c_2 => ?_) (fun c_2 => ?_)
  · have hres := hres.trans (if_pos c_2)
    have hs := hs.1 c_2
    refine lv_iconst (v := 0) hx hb dX9_sign_20 (by decide) ?_
    exact b_21 (MX9_isAt a1 a1 V) (0 : Int32) (V 213 7) V _ _ _ (lv_sub hl [0] rfl) hP hS hs hres
  have hres := hres.trans (if_neg c_2)
  have hs := hs.2 c_2
  refine lv_iconst (v := 1) hx hb dX9_sign_16 (by decide) ?_
  refine lv_goto (tgt := 21) hx hb dX9_sign_17 (by decide) ?_
  exact b_21 (MX9_isAt a1 a1 V) (1 : Int32) (V 213 7) V _ _ _ (lv_sub hl [0] rfl) hP hS hs hres
def MX9_fails  (a1 : Int32) (V : gV) : Int32 × gV := ((0 : Int32), (gu V 213 8 a1))
abbrev wc_X9_fails : List Cond := Cond.code yX9_fails cX9_fails 2 (some .boolean) :: wsL_law
abbrev r_X9_fails : Room := { frames := 0, cells := 0, slots := 0, locals := 0 }
theorem dd_X9_fails : yX9_fails.cls = RX9 ∧ yX9_fails.cls ≠ "java/lang/invoke/MethodHandle" ∧ yX9_fails.cls ≠ "java/lang/invoke/VarHandle" ∧ (parseMethodDescriptor yX9_fails.desc).map (fun d => d.parameters.length) = some 1 := by decide +kernel
set_option maxHeartbeats 8000000 in
set_option maxRecDepth 100000 in
theorem cc_X9_fails (l : Launch) (G : gG) (V : gV)   (a1 : Int32)  : Met l yX9_fails wc_X9_fails r_X9_fails (va_Pc [.ref (gA G 213), .int a1] (gW G V)) (gQI G (MX9_fails a1 V)) 0 0 (gF G) := by
  refine Met.ofW (cc := cX9_fails) (maxL := 2) (ret := (some .boolean)) (by decide) rfl ?_
  intro p e s m args below meth c s₁ B hml hv
  obtain ⟨rfl, hP, hT⟩ := hv
  have hx := B.exec
  have hb := B.bytes
  have hr := B.returns
  have hw := gh_hw (atoms_spec (ws := wc_X9_fails) B.pre)
  have hown : s.vm.findClass RX9 = some m.cls := findClass_of_methodNamed B.named
  have hlocks := B.notSynchronized
  have hS : va_S (gF G) s.heap s.heap [] := va_S.rf
  have hl := lv_entry ([.ref (gA G 213), .int a1]) (n := 2) (Nat.le_of_ble_eq_true rfl)
  rw [lg_entry_eq]
  generalize (lg_sl ([.ref (gA G 213), .int a1]) ++ List.replicate (2 - (lg_sl ([.ref (gA G 213), .int a1])).length) Slot.unset).toArray = ls at hl ⊢
  have hl : lv_has ls 2 [(0, .ref (gA G 213)), (1, .int a1)] := hl
  obtain ⟨res, hres⟩ : ∃ r, r = MX9_fails a1 V := ⟨_, rfl⟩
  rw [← hres]
  show W p l e r_X9_fails s m ([.ref (gA G 213), .int a1] : List Value).toArray below meth c s.heap [] 0 0 (MQ below (gQI G res) ([.ref (gA G 213), .int a1] : List Value).toArray s 0 0 (gF G)) (F0 m 0 ls [])
  have hres : res = (((0 : Int32), (gu V 213 8 a1))) := hres
  refine lv_aload_n hx hb dX9_fails_0 rfl (lv_at hl 0 rfl) ?_
  refine lv_iload_n hx hb dX9_fails_1 rfl (lv_at hl 1 rfl) ?_
  refine gh_put (ty := .int) (x := a1) (C := RX9) (T := TX9) (N := 11) hx hb hw inlX9 tyX9_ok nmX9 hown hT hP hS 213 (Nat.le_of_ble_eq_true rfl) kd213 rfl rfl 8 (by decide) (hw _ uw822) rfl (by decide +kernel) rfl rfl (Nat.le_of_ble_eq_true rfl) rfl dX9_fails_2 (fun H locs hP hS => ?_)
  refine lv_iconst (v := 0) hx hb dX9_fails_5 (by decide) ?_
  exact gh_zret hx hb hr rfl hlocks hP hS hT hres dX9_fails_6
def BX9_isDouble_112  (K4 : Int32 → Int32 → gV → Int32) (x1 : Int32) (x2 : Int32) (V : gV) : Int32 := K4 x1 (x2 + (1 : Int32)) V
def PX9_isDouble_112  (KP4 : Int32 → Int32 → gV → Prop) (x1 : Int32) (x2 : Int32) (V : gV) : Prop := (KP4 x1 (x2 + (1 : Int32)) V)
def BX9_isDouble_105  (K4 : Int32 → Int32 → gV → Int32) (K48 : Int32 → Int32 → Int32 → gV → Int32) (x2 : Int32) (x3 : Int32) (s0 : Int32) (V : gV) : Int32 := K48 s0 x2 (x3 + (1 : Int32)) V
def PX9_isDouble_105  (KP4 : Int32 → Int32 → gV → Prop) (KP48 : Int32 → Int32 → Int32 → gV → Prop) (x2 : Int32) (x3 : Int32) (s0 : Int32) (V : gV) : Prop := (KP48 s0 x2 (x3 + (1 : Int32)) V)
def BX9_isDouble_48  (K4 : Int32 → Int32 → gV → Int32) : Nat → Int32 → Int32 → Int32 → gV → Int32
  | 0, _, _, _, _ => 0
  | n + 1, x1, x2, x3, V => if (V 218 (((10 : Int32) * (V 213 9))).toNatClampNeg) ≤ x3 then (BX9_isDouble_112 K4 x1 x2 V) else (if x1 = 0 then (BX9_isDouble_112 K4 x1 x2 V) else (if (V 218 (((((10 : Int32) * x2) + (2 : Int32)) + x3)).toNatClampNeg) = (V 218 (((((10 : Int32) * (V 213 9)) + (2 : Int32)) + x3)).toNatClampNeg) then (BX9_isDouble_105 K4 (BX9_isDouble_48 K4 n) x2 x3 (1 : Int32) V) else (BX9_isDouble_105 K4 (BX9_isDouble_48 K4 n) x2 x3 (0 : Int32) V)))
def PX9_isDouble_48  (KP4 : Int32 → Int32 → gV → Prop) : Nat → Int32 → Int32 → Int32 → gV → Prop
  | 0, _, _, _, _ => False
  | n + 1, x1, x2, x3, V => (vp_in ((10 : Int32) * (V 213 9)) 160) ∧ (((V 218 (((10 : Int32) * (V 213 9))).toNatClampNeg) ≤ x3 → (PX9_isDouble_112 KP4 x1 x2 V)) ∧ (¬ (V 218 (((10 : Int32) * (V 213 9))).toNatClampNeg) ≤ x3 → ((x1 = 0 → (PX9_isDouble_112 KP4 x1 x2 V)) ∧ (¬ x1 = 0 → (vp_in ((((10 : Int32) * x2) + (2 : Int32)) + x3) 160) ∧ (vp_in ((((10 : Int32) * (V 213 9)) + (2 : Int32)) + x3) 160) ∧ (((V 218 (((((10 : Int32) * x2) + (2 : Int32)) + x3)).toNatClampNeg) = (V 218 (((((10 : Int32) * (V 213 9)) + (2 : Int32)) + x3)).toNatClampNeg) → (PX9_isDouble_105 KP4 (PX9_isDouble_48 KP4 n) x2 x3 (1 : Int32) V)) ∧ (¬ (V 218 (((((10 : Int32) * x2) + (2 : Int32)) + x3)).toNatClampNeg) = (V 218 (((((10 : Int32) * (V 213 9)) + (2 : Int32)) + x3)).toNatClampNeg) → (PX9_isDouble_105 KP4 (PX9_isDouble_48 KP4 n) x2 x3 (0 : Int32) V)))))))
def BX9_isDouble_45  (K4 : Int32 → Int32 → gV → Int32) (x2 : Int32) (s0 : Int32) (V : gV) : Int32 := BX9_isDouble_48 K4 1000 s0 x2 (0 : Int32) V
def PX9_isDouble_45  (KP4 : Int32 → Int32 → gV → Prop) (x2 : Int32) (s0 : Int32) (V : gV) : Prop := (PX9_isDouble_48 KP4 1000 s0 x2 (0 : Int32) V)
def BX9_isDouble_4   : Nat → Int32 → Int32 → gV → Int32
  | 0, _, _, _ => 0
  | n + 1, x1, x2, V => if (V 213 9) ≤ x2 then (x1) else (if x1 = 0 then (if (V 218 (((10 : Int32) * x2)).toNatClampNeg) = (V 218 (((10 : Int32) * (V 213 9))).toNatClampNeg) then (BX9_isDouble_45 (BX9_isDouble_4 n) x2 (1 : Int32) V) else (BX9_isDouble_45 (BX9_isDouble_4 n) x2 (0 : Int32) V)) else (x1))
def PX9_isDouble_4   : Nat → Int32 → Int32 → gV → Prop
  | 0, _, _, _ => False
  | n + 1, x1, x2, V => (((V 213 9) ≤ x2 → (gZ x1)) ∧ (¬ (V 213 9) ≤ x2 → ((x1 = 0 → (vp_in ((10 : Int32) * x2) 160) ∧ (vp_in ((10 : Int32) * (V 213 9)) 160) ∧ (((V 218 (((10 : Int32) * x2)).toNatClampNeg) = (V 218 (((10 : Int32) * (V 213 9))).toNatClampNeg) → (PX9_isDouble_45 (PX9_isDouble_4 n) x2 (1 : Int32) V)) ∧ (¬ (V 218 (((10 : Int32) * x2)).toNatClampNeg) = (V 218 (((10 : Int32) * (V 213 9))).toNatClampNeg) → (PX9_isDouble_45 (PX9_isDouble_4 n) x2 (0 : Int32) V)))) ∧ (¬ x1 = 0 → (gZ x1)))))
def MX9_isDouble   (V : gV) : Int32 := BX9_isDouble_4 1000 (0 : Int32) (0 : Int32) V
def PX9_isDouble   (V : gV) : Prop := (PX9_isDouble_4 1000 (0 : Int32) (0 : Int32) V)
abbrev wc_X9_isDouble : List Cond := Cond.code yX9_isDouble cX9_isDouble 4 (some .boolean) :: wsL_law
abbrev r_X9_isDouble : Room := { frames := 0, cells := 0, slots := 0, locals := 0 }
theorem dd_X9_isDouble : yX9_isDouble.cls = RX9 ∧ yX9_isDouble.cls ≠ "java/lang/invoke/MethodHandle" ∧ yX9_isDouble.cls ≠ "java/lang/invoke/VarHandle" ∧ (parseMethodDescriptor yX9_isDouble.desc).map (fun d => d.parameters.length) = some 0 := by decide +kernel
set_option maxHeartbeats 8000000 in
set_option maxRecDepth 100000 in
theorem cc_X9_isDouble (l : Launch) (G : gG) (V : gV)    (hs : PX9_isDouble V) : Met l yX9_isDouble wc_X9_isDouble r_X9_isDouble (va_Pc [.ref (gA G 213)] (gW G V)) (gQR G (MX9_isDouble V) V) 0 0 (gF G) := by
  refine Met.ofW (cc := cX9_isDouble) (maxL := 4) (ret := (some .boolean)) (by decide) rfl ?_
  intro p e s m args below meth c s₁ B hml hv
  obtain ⟨rfl, hP, hT⟩ := hv
  have hx := B.exec
  have hb := B.bytes
  have hr := B.returns
  have hw := gh_hw (atoms_spec (ws := wc_X9_isDouble) B.pre)
  have hown : s.vm.findClass RX9 = some m.cls := findClass_of_methodNamed B.named
  have hlocks := B.notSynchronized
  have hS : va_S (gF G) s.heap s.heap [] := va_S.rf
  have hl := lv_entry ([.ref (gA G 213)]) (n := 4) (Nat.le_of_ble_eq_true rfl)
  rw [lg_entry_eq]
  generalize (lg_sl ([.ref (gA G 213)]) ++ List.replicate (4 - (lg_sl ([.ref (gA G 213)])).length) Slot.unset).toArray = ls at hl ⊢
  have hl : lv_has ls 4 [(0, .ref (gA G 213))] := hl
  obtain ⟨res, hres⟩ : ∃ r, r = MX9_isDouble V := ⟨_, rfl⟩
  rw [← hres]
  show W p l e r_X9_isDouble s m ([.ref (gA G 213)] : List Value).toArray below meth c s.heap [] 0 0 (MQ below (gQR G res V) ([.ref (gA G 213)] : List Value).toArray s 0 0 (gF G)) (F0 m 0 ls [])
  have hs : (PX9_isDouble_4 1000 (0 : Int32) (0 : Int32) V) := hs
  have hres : res = (BX9_isDouble_4 1000 (0 : Int32) (0 : Int32) V) := hres
  have b_4 : ∀ (n : Nat) (x1 : Int32) (x2 : Int32) (H : Heap) (locs : List Loc) (ls : Array Slot), lv_has ls 4 [(0, .ref (gA G 213)), (1, .int x1), (2, .int x2)] → va_P (gD G) vwCl (gL G V) H → va_S (gF G) s.heap H locs → PX9_isDouble_4  n x1 x2 V → res = BX9_isDouble_4  n x1 x2 V → W p l e r_X9_isDouble s m ([.ref (gA G 213)] : List Value).toArray below meth c H locs 0 0 (MQ below (gQR G res V) ([.ref (gA G 213)] : List Value).toArray s 0 0 (gF G)) (F0 m 4 ls []) := by
    intro n
    induction n with
    | zero =>
      intro x1 x2 H locs ls hl hP hS hs hres
      exact (show False from hs).elim
    | succ n4 ih4 =>
      have b_112 : ∀ (x1 : Int32) (x2 : Int32) (H : Heap) (locs : List Loc) (ls : Array Slot), lv_has ls 4 [(0, .ref (gA G 213)), (1, .int x1), (2, .int x2)] → va_P (gD G) vwCl (gL G V) H → va_S (gF G) s.heap H locs → PX9_isDouble_112 (PX9_isDouble_4 n4) x1 x2 V → res = BX9_isDouble_112 (BX9_isDouble_4 n4) x1 x2 V → W p l e r_X9_isDouble s m ([.ref (gA G 213)] : List Value).toArray below meth c H locs 0 0 (MQ below (gQR G res V) ([.ref (gA G 213)] : List Value).toArray s 0 0 (gF G)) (F0 m 112 ls []) := by
        intro x1 x2 H locs ls hl hP hS hs hres
        have hs : ((PX9_isDouble_4 n4) x1 (x2 + (1 : Int32)) V) := hs
        have hres : res = ((BX9_isDouble_4 n4) x1 (x2 + (1 : Int32)) V) := hres
        refine lv_iinc (v := (x2 + (1 : Int32))) (lv' := [(2, .int (x2 + (1 : Int32))), (0, .ref (gA G 213)), (1, .int x1)]) hx hb dX9_isDouble_112 hl (k := 2) rfl rfl (by decide) rfl (fun ls hl => ?_)
        refine lv_goto (tgt := 4) hx hb dX9_isDouble_115 (by decide) ?_
        exact ih4 x1 (x2 + (1 : Int32)) _ _ _ (lv_sub hl [1, 2, 0] rfl) hP hS hs hres
      have b_48 : ∀ (n : Nat) (x1 : Int32) (x2 : Int32) (x3 : Int32) (H : Heap) (locs : List Loc) (ls : Array Slot), lv_has ls 4 [(0, .ref (gA G 213)), (1, .int x1), (2, .int x2), (3, .int x3)] → va_P (gD G) vwCl (gL G V) H → va_S (gF G) s.heap H locs → PX9_isDouble_48 (PX9_isDouble_4 n4) n x1 x2 x3 V → res = BX9_isDouble_48 (BX9_isDouble_4 n4) n x1 x2 x3 V → W p l e r_X9_isDouble s m ([.ref (gA G 213)] : List Value).toArray below meth c H locs 0 0 (MQ below (gQR G res V) ([.ref (gA G 213)] : List Value).toArray s 0 0 (gF G)) (F0 m 48 ls []) := by
        intro n
        induction n with
        | zero =>
          intro x1 x2 x3 H locs ls hl hP hS hs hres
          exact (show False from hs).elim
        | succ n48 ih48 =>
          have b_105 : ∀ (x2 : Int32) (x3 : Int32) (s0 : Int32) (H : Heap) (locs : List Loc) (ls : Array Slot), lv_has ls 4 [(0, .ref (gA G 213)), (2, .int x2), (3, .int x3)] → va_P (gD G) vwCl (gL G V) H → va_S (gF G) s.heap H locs → PX9_isDouble_105 (PX9_isDouble_4 n4) (PX9_isDouble_48 (PX9_isDouble_4 n4) n48) x2 x3 s0 V → res = BX9_isDouble_105 (BX9_isDouble_4 n4) (BX9_isDouble_48 (BX9_isDouble_4 n4) n48) x2 x3 s0 V → W p l e r_X9_isDouble s m ([.ref (gA G 213)] : List Value).toArray below meth c H locs 0 0 (MQ below (gQR G res V) ([.ref (gA G 213)] : List Value).toArray s 0 0 (gF G)) (F0 m 105 ls [.int s0]) := by
            intro x2 x3 s0 H locs ls hl hP hS hs hres
            have hs : ((PX9_isDouble_48 (PX9_isDouble_4 n4) n48) s0 x2 (x3 + (1 : Int32)) V) := hs
            have hres : res = ((BX9_isDouble_48 (BX9_isDouble_4 n4) n48) s0 x2 (x3 + (1 : Int32)) V) := hres
            refine lv_istore_n (lv' := [(1, .int s0), (0, .ref (gA G 213)), (2, .int x2), (3, .int x3)]) hx hb dX9_isDouble_105 rfl hl (by decide) rfl (fun ls hl => ?_)
            refine lv_iinc (v := (x3 + (1 : Int32))) (lv' := [(3, .int (x3 + (1 : Int32))), (1, .int s0), (0, .ref (gA G 213)), (2, .int x2)]) hx hb dX9_isDouble_106 hl (k := 3) rfl rfl (by decide) rfl (fun ls hl => ?_)
            refine lv_goto (tgt := 48) hx hb dX9_isDouble_109 (by decide) ?_
            exact ih48 s0 x2 (x3 + (1 : Int32)) _ _ _ (lv_sub hl [2, 1, 3, 0] rfl) hP hS hs hres
          intro x1 x2 x3 H locs ls hl hP hS hs hres
          have hs : (vp_in ((10 : Int32) * (V 213 9)) 160) ∧ (((V 218 (((10 : Int32) * (V 213 9))).toNatClampNeg) ≤ x3 → (PX9_isDouble_112 (PX9_isDouble_4 n4) x1 x2 V)) ∧ (¬ (V 218 (((10 : Int32) * (V 213 9))).toNatClampNeg) ≤ x3 → ((x1 = 0 → (PX9_isDouble_112 (PX9_isDouble_4 n4) x1 x2 V)) ∧ (¬ x1 = 0 → (vp_in ((((10 : Int32) * x2) + (2 : Int32)) + x3) 160) ∧ (vp_in ((((10 : Int32) * (V 213 9)) + (2 : Int32)) + x3) 160) ∧ (((V 218 (((((10 : Int32) * x2) + (2 : Int32)) + x3)).toNatClampNeg) = (V 218 (((((10 : Int32) * (V 213 9)) + (2 : Int32)) + x3)).toNatClampNeg) → (PX9_isDouble_105 (PX9_isDouble_4 n4) (PX9_isDouble_48 (PX9_isDouble_4 n4) n48) x2 x3 (1 : Int32) V)) ∧ (¬ (V 218 (((((10 : Int32) * x2) + (2 : Int32)) + x3)).toNatClampNeg) = (V 218 (((((10 : Int32) * (V 213 9)) + (2 : Int32)) + x3)).toNatClampNeg) → (PX9_isDouble_105 (PX9_isDouble_4 n4) (PX9_isDouble_48 (PX9_isDouble_4 n4) n48) x2 x3 (0 : Int32) V))))))) := hs
          have hres : res = (if (V 218 (((10 : Int32) * (V 213 9))).toNatClampNeg) ≤ x3 then (BX9_isDouble_112 (BX9_isDouble_4 n4) x1 x2 V) else (if x1 = 0 then (BX9_isDouble_112 (BX9_isDouble_4 n4) x1 x2 V) else (if (V 218 (((((10 : Int32) * x2) + (2 : Int32)) + x3)).toNatClampNeg) = (V 218 (((((10 : Int32) * (V 213 9)) + (2 : Int32)) + x3)).toNatClampNeg) then (BX9_isDouble_105 (BX9_isDouble_4 n4) (BX9_isDouble_48 (BX9_isDouble_4 n4) n48) x2 x3 (1 : Int32) V) else (BX9_isDouble_105 (BX9_isDouble_4 n4) (BX9_isDouble_48 (BX9_isDouble_4 n4) n48) x2 x3 (0 : Int32) V)))) := hres
          refine lv_iload_n hx hb dX9_isDouble_48 rfl (lv_at hl 3 rfl) ?_
          refine lv_aload_n hx hb dX9_isDouble_49 rfl (lv_at hl 0 rfl) ?_
          refine gh_get (v := .ref (gA G 218)) (C := RX9) (T := TX9) (N := 11) hx hb hw inlX9 hown hT hP 213 (Nat.le_of_ble_eq_true rfl) kd213 rfl rfl 10 (by decide) (hw _ uw121) rfl dX9_isDouble_50 ?_
          refine lv_bipush (v := 10) hx hb dX9_isDouble_53 (by decide) ?_
          refine lv_aload_n hx hb dX9_isDouble_55 rfl (lv_at hl 0 rfl) ?_
          refine gh_get (v := .int (V 213 9)) (C := RX9) (T := TX9) (N := 11) hx hb hw inlX9 hown hT hP 213 (Nat.le_of_ble_eq_true rfl) kd213 rfl rfl 9 (by decide) (hw _ uw827) rfl dX9_isDouble_56 ?_
          refine lv_imul hx hb dX9_isDouble_59 ?_
          obtain ⟨ho_8, hs⟩ := hs
          refine gh_iald hx hb hT hP 218 (Nat.le_of_ble_eq_true rfl) kd218 ho_8 dX9_isDouble_60 ?_
          refine lv_icmp_ge (tgt := 112) hx hb dX9_isDouble_61 (by decide) (fun c_9 => ?_) (fun c_9 => ?_)
          · have hres := hres.trans (if_pos c_9)
            have hs := hs.1 c_9
            exact b_112 x1 x2 _ _ _ (lv_sub hl [0, 1, 2] rfl) hP hS hs hres
          have hres := hres.trans (if_neg c_9)
          have hs := hs.2 c_9
          refine lv_iload_n hx hb dX9_isDouble_64 rfl (lv_at hl 1 rfl) ?_
          refine lv_if_eq (tgt := 112) hx hb dX9_isDouble_65 (by decide) (fun c_10 => ?_) (fun c_10 => ?_)
          · have hres := hres.trans (if_pos c_10)
            have hs := hs.1 c_10
            exact b_112 x1 x2 _ _ _ (lv_sub hl [0, 1, 2] rfl) hP hS hs hres
          have hres := hres.trans (if_neg c_10)
          have hs := hs.2 c_10
          refine lv_aload_n hx hb dX9_isDouble_68 rfl (lv_at hl 0 rfl) ?_
          refine gh_get (v := .ref (gA G 218)) (C := RX9) (T := TX9) (N := 11) hx hb hw inlX9 hown hT hP 213 (Nat.le_of_ble_eq_true rfl) kd213 rfl rfl 10 (by decide) (hw _ uw121) rfl dX9_isDouble_69 ?_
          refine lv_bipush (v := 10) hx hb dX9_isDouble_72 (by decide) ?_
          refine lv_iload_n hx hb dX9_isDouble_74 rfl (lv_at hl 2 rfl) ?_
          refine lv_imul hx hb dX9_isDouble_75 ?_
          refine lv_iconst (v := 2) hx hb dX9_isDouble_76 (by decide) ?_
          refine lv_iadd hx hb dX9_isDouble_77 ?_
          refine lv_iload_n hx hb dX9_isDouble_78 rfl (lv_at hl 3 rfl) ?_
          refine lv_iadd hx hb dX9_isDouble_79 ?_
          obtain ⟨ho_11, hs⟩ := hs
          refine gh_iald hx hb hT hP 218 (Nat.le_of_ble_eq_true rfl) kd218 ho_11 dX9_isDouble_80 ?_
          refine lv_aload_n hx hb dX9_isDouble_81 rfl (lv_at hl 0 rfl) ?_
          refine gh_get (v := .ref (gA G 218)) (C := RX9) (T := TX9) (N := 11) hx hb hw inlX9 hown hT hP 213 (Nat.le_of_ble_eq_true rfl) kd213 rfl rfl 10 (by decide) (hw _ uw121) rfl dX9_isDouble_82 ?_
          refine lv_bipush (v := 10) hx hb dX9_isDouble_85 (by decide) ?_
          refine lv_aload_n hx hb dX9_isDouble_87 rfl (lv_at hl 0 rfl) ?_
          refine gh_get (v := .int (V 213 9)) (C := RX9) (T := TX9) (N := 11) hx hb hw inlX9 hown hT hP 213 (Nat.le_of_ble_eq_true rfl) kd213 rfl rfl 9 (by decide) (hw _ uw827) rfl dX9_isDouble_88 ?_
          refine lv_imul hx hb dX9_isDouble_91 ?_
          refine lv_iconst (v := 2) hx hb dX9_isDouble_92 (by decide) ?_
          refine lv_iadd hx hb dX9_isDouble_93 ?_
          refine lv_iload_n hx hb dX9_isDouble_94 rfl (lv_at hl 3 rfl) ?_
          refine lv_iadd hx hb dX9_isDouble_95 ?_
          obtain ⟨ho_12, hs⟩ := hs
          refine gh_iald hx hb hT hP 218 (Nat.le_of_ble_eq_true rfl) kd218 ho_12 dX9_isDouble_96 ?_
          refine lv_icmp_ne (tgt := 104) hx hb dX9_isDouble_97 (by decide) (fun c_13 => ?_) (fun c_13 => ?_)
          · have hres := hres.trans (if_neg c_13)
            have hs := hs.2 c_13
            refine lv_iconst (v := 0) hx hb dX9_isDouble_104 (by decide) ?_
            exact b_105 x2 x3 (0 : Int32) _ _ _ (lv_sub hl [0, 2, 3] rfl) hP hS hs hres
          have hres := hres.trans (if_pos c_13)
          have hs := hs.1 c_13
          refine lv_iconst (v := 1) hx hb dX9_isDouble_100 (by decide) ?_
          refine lv_goto (tgt := 105) hx hb dX9_isDouble_101 (by decide) ?_
          exact b_105 x2 x3 (1 : Int32) _ _ _ (lv_sub hl [0, 2, 3] rfl) hP hS hs hres
      have b_45 : ∀ (x2 : Int32) (s0 : Int32) (H : Heap) (locs : List Loc) (ls : Array Slot), lv_has ls 4 [(0, .ref (gA G 213)), (2, .int x2)] → va_P (gD G) vwCl (gL G V) H → va_S (gF G) s.heap H locs → PX9_isDouble_45 (PX9_isDouble_4 n4) x2 s0 V → res = BX9_isDouble_45 (BX9_isDouble_4 n4) x2 s0 V → W p l e r_X9_isDouble s m ([.ref (gA G 213)] : List Value).toArray below meth c H locs 0 0 (MQ below (gQR G res V) ([.ref (gA G 213)] : List Value).toArray s 0 0 (gF G)) (F0 m 45 ls [.int s0]) := by
        intro x2 s0 H locs ls hl hP hS hs hres
        have hs : (PX9_isDouble_48 (PX9_isDouble_4 n4) 1000 s0 x2 (0 : Int32) V) := hs
        have hres : res = (BX9_isDouble_48 (BX9_isDouble_4 n4) 1000 s0 x2 (0 : Int32) V) := hres
        refine lv_istore_n (lv' := [(1, .int s0), (0, .ref (gA G 213)), (2, .int x2)]) hx hb dX9_isDouble_45 rfl hl (by decide) rfl (fun ls hl => ?_)
        refine lv_iconst (v := 0) hx hb dX9_isDouble_46 (by decide) ?_
        refine lv_istore_n (lv' := [(3, .int (0 : Int32)), (1, .int s0), (0, .ref (gA G 213)), (2, .int x2)]) hx hb dX9_isDouble_47 rfl hl (by decide) rfl (fun ls hl => ?_)
        exact b_48 1000 s0 x2 (0 : Int32) _ _ _ (lv_sub hl [2, 1, 3, 0] rfl) hP hS hs hres
      intro x1 x2 H locs ls hl hP hS hs hres
      have hs : (((V 213 9) ≤ x2 → (gZ x1)) ∧ (¬ (V 213 9) ≤ x2 → ((x1 = 0 → (vp_in ((10 : Int32) * x2) 160) ∧ (vp_in ((10 : Int32) * (V 213 9)) 160) ∧ (((V 218 (((10 : Int32) * x2)).toNatClampNeg) = (V 218 (((10 : Int32) * (V 213 9))).toNatClampNeg) → (PX9_isDouble_45 (PX9_isDouble_4 n4) x2 (1 : Int32) V)) ∧ (¬ (V 218 (((10 : Int32) * x2)).toNatClampNeg) = (V 218 (((10 : Int32) * (V 213 9))).toNatClampNeg) → (PX9_isDouble_45 (PX9_isDouble_4 n4) x2 (0 : Int32) V)))) ∧ (¬ x1 = 0 → (gZ x1))))) := hs
      have hres : res = (if (V 213 9) ≤ x2 then (x1) else (if x1 = 0 then (if (V 218 (((10 : Int32) * x2)).toNatClampNeg) = (V 218 (((10 : Int32) * (V 213 9))).toNatClampNeg) then (BX9_isDouble_45 (BX9_isDouble_4 n4) x2 (1 : Int32) V) else (BX9_isDouble_45 (BX9_isDouble_4 n4) x2 (0 : Int32) V)) else (x1))) := hres
      refine lv_iload_n hx hb dX9_isDouble_4 rfl (lv_at hl 2 rfl) ?_
      refine lv_aload_n hx hb dX9_isDouble_5 rfl (lv_at hl 0 rfl) ?_
      refine gh_get (v := .int (V 213 9)) (C := RX9) (T := TX9) (N := 11) hx hb hw inlX9 hown hT hP 213 (Nat.le_of_ble_eq_true rfl) kd213 rfl rfl 9 (by decide) (hw _ uw827) rfl dX9_isDouble_6 ?_
      refine lv_icmp_ge (tgt := 118) hx hb dX9_isDouble_9 (by decide) (fun c_1 => ?_) (fun c_1 => ?_)
      · have hres := hres.trans (if_pos c_1)
        have hs := hs.1 c_1
        refine lv_iload_n hx hb dX9_isDouble_118 rfl (lv_at hl 1 rfl) ?_
        have ho_2 := hs
        exact gh_zretR hx hb hr ho_2.n hlocks hP hS hT hres dX9_isDouble_119
      have hres := hres.trans (if_neg c_1)
      have hs := hs.2 c_1
      refine lv_iload_n hx hb dX9_isDouble_12 rfl (lv_at hl 1 rfl) ?_
      refine lv_if_ne (tgt := 118) hx hb dX9_isDouble_13 (by decide) (fun c_3 => ?_) (fun c_3 => ?_)
      · have hres := hres.trans (if_neg c_3)
        have hs := hs.2 c_3
        refine lv_iload_n hx hb dX9_isDouble_118 rfl (lv_at hl 1 rfl) ?_
        have ho_4 := hs
        exact gh_zretR hx hb hr ho_4.n hlocks hP hS hT hres dX9_isDouble_119
      have hres := hres.trans (if_pos c_3)
      have hs := hs.1 c_3
      refine lv_aload_n hx hb dX9_isDouble_16 rfl (lv_at hl 0 rfl) ?_
      refine gh_get (v := .ref (gA G 218)) (C := RX9) (T := TX9) (N := 11) hx hb hw inlX9 hown hT hP 213 (Nat.le_of_ble_eq_true rfl) kd213 rfl rfl 10 (by decide) (hw _ uw121) rfl dX9_isDouble_17 ?_
      refine lv_bipush (v := 10) hx hb dX9_isDouble_20 (by decide) ?_
      refine lv_iload_n hx hb dX9_isDouble_22 rfl (lv_at hl 2 rfl) ?_
      refine lv_imul hx hb dX9_isDouble_23 ?_
      obtain ⟨ho_5, hs⟩ := hs
      refine gh_iald hx hb hT hP 218 (Nat.le_of_ble_eq_true rfl) kd218 ho_5 dX9_isDouble_24 ?_
      refine lv_aload_n hx hb dX9_isDouble_25 rfl (lv_at hl 0 rfl) ?_
      refine gh_get (v := .ref (gA G 218)) (C := RX9) (T := TX9) (N := 11) hx hb hw inlX9 hown hT hP 213 (Nat.le_of_ble_eq_true rfl) kd213 rfl rfl 10 (by decide) (hw _ uw121) rfl dX9_isDouble_26 ?_
      refine lv_bipush (v := 10) hx hb dX9_isDouble_29 (by decide) ?_
      refine lv_aload_n hx hb dX9_isDouble_31 rfl (lv_at hl 0 rfl) ?_
      refine gh_get (v := .int (V 213 9)) (C := RX9) (T := TX9) (N := 11) hx hb hw inlX9 hown hT hP 213 (Nat.le_of_ble_eq_true rfl) kd213 rfl rfl 9 (by decide) (hw _ uw827) rfl dX9_isDouble_32 ?_
      refine lv_imul hx hb dX9_isDouble_35 ?_
      obtain ⟨ho_6, hs⟩ := hs
      refine gh_iald hx hb hT hP 218 (Nat.le_of_ble_eq_true rfl) kd218 ho_6 dX9_isDouble_36 ?_
      refine lv_icmp_ne (tgt := 44) hx hb dX9_isDouble_37 (by decide) (fun c_7 => ?_) (fun c_7 => ?_)
      · have hres := hres.trans (if_neg c_7)
        have hs := hs.2 c_7
        refine lv_iconst (v := 0) hx hb dX9_isDouble_44 (by decide) ?_
        exact b_45 x2 (0 : Int32) _ _ _ (lv_sub hl [0, 2] rfl) hP hS hs hres
      have hres := hres.trans (if_pos c_7)
      have hs := hs.1 c_7
      refine lv_iconst (v := 1) hx hb dX9_isDouble_40 (by decide) ?_
      refine lv_goto (tgt := 45) hx hb dX9_isDouble_41 (by decide) ?_
      exact b_45 x2 (1 : Int32) _ _ _ (lv_sub hl [0, 2] rfl) hP hS hs hres
  refine lv_iconst (v := 0) hx hb dX9_isDouble_0 (by decide) ?_
  refine lv_istore_n (lv' := [(1, .int (0 : Int32)), (0, .ref (gA G 213))]) hx hb dX9_isDouble_1 rfl hl (by decide) rfl (fun ls hl => ?_)
  refine lv_iconst (v := 0) hx hb dX9_isDouble_2 (by decide) ?_
  refine lv_istore_n (lv' := [(2, .int (0 : Int32)), (1, .int (0 : Int32)), (0, .ref (gA G 213))]) hx hb dX9_isDouble_3 rfl hl (by decide) rfl (fun ls hl => ?_)
  exact b_4 1000 (0 : Int32) (0 : Int32) _ _ _ (lv_sub hl [2, 1, 0] rfl) hP hS hs hres
theorem gv_RX9_143 : GoodIn wsL_law (wsV RX9 143 RX9 yX9_fails wc_X9_fails) := gh_gV uw836 uw837 uw838 uw5 uw839
def BX9_readsLetters_86   (s0 : Int32) (V : gV) : Int32 × gV := if s0 = 0 then (((0 : Int32), V)) else (((1 : Int32), V))
def BX9_readsLetters_76   (x1 : Int32) (V : gV) : Int32 × gV := if (1 : Int32) < x1 then (((1 : Int32), V)) else (BX9_readsLetters_86 ((MX9_fails (1 : Int32) V).1) ((MX9_fails (1 : Int32) V).2))
def BX9_readsLetters_63   (x1 : Int32) (V : gV) : Int32 × gV := BX9_readsLetters_76 x1 (gu V 218 (((10 : Int32) * (V 213 9))).toNatClampNeg x1)
def PX9_readsLetters_63   (x1 : Int32) (V : gV) : Prop := (vp_in ((10 : Int32) * (V 213 9)) 160)
def BX9_readsLetters_47  (K2 : Int32 → gV → Int32 × gV) (x1 : Int32) (V : gV) : Int32 × gV := K2 (x1 + (1 : Int32)) (gu V 213 7 ((V 213 7) + (1 : Int32)))
def PX9_readsLetters_47  (KP2 : Int32 → gV → Prop) (x1 : Int32) (V : gV) : Prop := (KP2 (x1 + (1 : Int32)) (gu V 213 7 ((V 213 7) + (1 : Int32))))
def BX9_readsLetters_2   : Nat → Int32 → gV → Int32 × gV
  | 0, _, V => (0, V)
  | n + 1, x1, V => if (MX9_isAt (97 : Int32) (122 : Int32) V) = 0 then (BX9_readsLetters_63 x1 V) else (if (8 : Int32) ≤ x1 then (BX9_readsLetters_63 x1 V) else (BX9_readsLetters_47 (BX9_readsLetters_2 n) x1 (gu V 218 (((((10 : Int32) * (V 213 9)) + (2 : Int32)) + x1)).toNatClampNeg ((V 217 ((V 213 7)).toNatClampNeg) - (97 : Int32)))))
def PX9_readsLetters_2   : Nat → Int32 → gV → Prop
  | 0, _, _ => False
  | n + 1, x1, V => (PX9_isAt (97 : Int32) (122 : Int32) V) ∧ (((MX9_isAt (97 : Int32) (122 : Int32) V) = 0 → (PX9_readsLetters_63 x1 V)) ∧ (¬ (MX9_isAt (97 : Int32) (122 : Int32) V) = 0 → (((8 : Int32) ≤ x1 → (PX9_readsLetters_63 x1 V)) ∧ (¬ (8 : Int32) ≤ x1 → (vp_in (V 213 7) 120) ∧ (vp_in ((((10 : Int32) * (V 213 9)) + (2 : Int32)) + x1) 160) ∧ (PX9_readsLetters_47 (PX9_readsLetters_2 n) x1 (gu V 218 (((((10 : Int32) * (V 213 9)) + (2 : Int32)) + x1)).toNatClampNeg ((V 217 ((V 213 7)).toNatClampNeg) - (97 : Int32))))))))
def MX9_readsLetters   (V : gV) : Int32 × gV := BX9_readsLetters_2 1000 (0 : Int32) V
def PX9_readsLetters   (V : gV) : Prop := (PX9_readsLetters_2 1000 (0 : Int32) V)
abbrev wc_X9_readsLetters : List Cond := Cond.code yX9_readsLetters cX9_readsLetters 2 (some .boolean) :: wsL_law
abbrev r_X9_readsLetters : Room := { frames := 2, cells := 0, slots := 0, locals := 44 }
theorem dd_X9_readsLetters : yX9_readsLetters.cls = RX9 ∧ yX9_readsLetters.cls ≠ "java/lang/invoke/MethodHandle" ∧ yX9_readsLetters.cls ≠ "java/lang/invoke/VarHandle" ∧ (parseMethodDescriptor yX9_readsLetters.desc).map (fun d => d.parameters.length) = some 0 := by decide +kernel
set_option maxHeartbeats 8000000 in
set_option maxRecDepth 100000 in
theorem cc_X9_readsLetters (l : Launch) (G : gG) (V : gV)    (hs : PX9_readsLetters V) : Met l yX9_readsLetters wc_X9_readsLetters r_X9_readsLetters (va_Pc [.ref (gA G 213)] (gW G V)) (gQI G (MX9_readsLetters V)) 0 0 (gF G) := by
  refine Met.ofW (cc := cX9_readsLetters) (maxL := 2) (ret := (some .boolean)) (by decide) rfl ?_
  intro p e s m args below meth c s₁ B hml hv
  obtain ⟨rfl, hP, hT⟩ := hv
  have hx := B.exec
  have hb := B.bytes
  have hr := B.returns
  have hw := gh_hw (atoms_spec (ws := wc_X9_readsLetters) B.pre)
  have hown : s.vm.findClass RX9 = some m.cls := findClass_of_methodNamed B.named
  have hlocks := B.notSynchronized
  have hS : va_S (gF G) s.heap s.heap [] := va_S.rf
  have hl := lv_entry ([.ref (gA G 213)]) (n := 2) (Nat.le_of_ble_eq_true rfl)
  rw [lg_entry_eq]
  generalize (lg_sl ([.ref (gA G 213)]) ++ List.replicate (2 - (lg_sl ([.ref (gA G 213)])).length) Slot.unset).toArray = ls at hl ⊢
  have hl : lv_has ls 2 [(0, .ref (gA G 213))] := hl
  obtain ⟨res, hres⟩ : ∃ r, r = MX9_readsLetters V := ⟨_, rfl⟩
  rw [← hres]
  show W p l e r_X9_readsLetters s m ([.ref (gA G 213)] : List Value).toArray below meth c s.heap [] 0 0 (MQ below (gQI G res) ([.ref (gA G 213)] : List Value).toArray s 0 0 (gF G)) (F0 m 0 ls [])
  have hs : (PX9_readsLetters_2 1000 (0 : Int32) V) := hs
  have hres : res = (BX9_readsLetters_2 1000 (0 : Int32) V) := hres
  have b_86 : ∀ (s0 : Int32) (V : gV) (H : Heap) (locs : List Loc) (ls : Array Slot), lv_has ls 2 [] → va_P (gD G) vwCl (gL G V) H → va_S (gF G) s.heap H locs → res = BX9_readsLetters_86  s0 V → W p l e r_X9_readsLetters s m ([.ref (gA G 213)] : List Value).toArray below meth c H locs 0 0 (MQ below (gQI G res) ([.ref (gA G 213)] : List Value).toArray s 0 0 (gF G)) (F0 m 86 ls [.int s0]) := by
    intro s0 V H locs ls hl hP hS hres
    have hres : res = (if s0 = 0 then (((0 : Int32), V)) else (((1 : Int32), V))) := hres
    refine lv_if_eq (tgt := 93) hx hb dX9_readsLetters_86 (by decide) (fun c_5 => ?_) (fun c_5 => ?_)
    · have hres := hres.trans (if_pos c_5)
      refine lv_iconst (v := 0) hx hb dX9_readsLetters_93 (by decide) ?_
      exact gh_zret hx hb hr rfl hlocks hP hS hT hres dX9_readsLetters_94
    have hres := hres.trans (if_neg c_5)
    refine lv_iconst (v := 1) hx hb dX9_readsLetters_89 (by decide) ?_
    refine lv_goto (tgt := 94) hx hb dX9_readsLetters_90 (by decide) ?_
    exact gh_zret hx hb hr rfl hlocks hP hS hT hres dX9_readsLetters_94
  have b_76 : ∀ (x1 : Int32) (V : gV) (H : Heap) (locs : List Loc) (ls : Array Slot), lv_has ls 2 [(0, .ref (gA G 213)), (1, .int x1)] → va_P (gD G) vwCl (gL G V) H → va_S (gF G) s.heap H locs → res = BX9_readsLetters_76  x1 V → W p l e r_X9_readsLetters s m ([.ref (gA G 213)] : List Value).toArray below meth c H locs 0 0 (MQ below (gQI G res) ([.ref (gA G 213)] : List Value).toArray s 0 0 (gF G)) (F0 m 76 ls []) := by
    intro x1 V H locs ls hl hP hS hres
    have hres : res = (if (1 : Int32) < x1 then (((1 : Int32), V)) else (BX9_readsLetters_86 ((MX9_fails (1 : Int32) V).1) ((MX9_fails (1 : Int32) V).2))) := hres
    refine lv_iload_n hx hb dX9_readsLetters_76 rfl (lv_at hl 1 rfl) ?_
    refine lv_iconst (v := 1) hx hb dX9_readsLetters_77 (by decide) ?_
    refine lv_icmp_gt (tgt := 89) hx hb dX9_readsLetters_78 (by decide) (fun c_4 => ?_) (fun c_4 => ?_)
    · have hres := hres.trans (if_pos c_4)
      refine lv_iconst (v := 1) hx hb dX9_readsLetters_89 (by decide) ?_
      refine lv_goto (tgt := 94) hx hb dX9_readsLetters_90 (by decide) ?_
      exact gh_zret hx hb hr rfl hlocks hP hS hT hres dX9_readsLetters_94
    have hres := hres.trans (if_neg c_4)
    refine lv_aload_n hx hb dX9_readsLetters_81 rfl (lv_at hl 0 rfl) ?_
    refine lv_iconst (v := 1) hx hb dX9_readsLetters_82 (by decide) ?_
    refine gh_ki (va_runV (As := [.int (1 : Int32)]) (rest := []) ⟨hx, hb, hml, hown, hw⟩ (cc_X9_fails l G V (1 : Int32)) (cwV 1 hw gv_RX9_143 rfl rfl rfl dd_X9_fails ⟨Nat.le_of_ble_eq_true rfl, Nat.le_of_ble_eq_true rfl⟩) (gh_preV hT hP (Nat.le_of_ble_eq_true rfl) kd213 rfl rfl) rfl rfl hl.1 rfl (lv_room (Nat.le_of_ble_eq_true rfl)) dX9_readsLetters_83 ⟨Nat.zero_le _, Nat.zero_le _⟩) hS (fun H locs hP hS => ?_)
    exact b_86 ((MX9_fails (1 : Int32) V).1) ((MX9_fails (1 : Int32) V).2) _ _ _ (lv_sub hl [] rfl) hP hS hres
  have b_63 : ∀ (x1 : Int32) (V : gV) (H : Heap) (locs : List Loc) (ls : Array Slot), lv_has ls 2 [(0, .ref (gA G 213)), (1, .int x1)] → va_P (gD G) vwCl (gL G V) H → va_S (gF G) s.heap H locs → PX9_readsLetters_63  x1 V → res = BX9_readsLetters_63  x1 V → W p l e r_X9_readsLetters s m ([.ref (gA G 213)] : List Value).toArray below meth c H locs 0 0 (MQ below (gQI G res) ([.ref (gA G 213)] : List Value).toArray s 0 0 (gF G)) (F0 m 63 ls []) := by
    intro x1 V H locs ls hl hP hS hs hres
    have hs : (vp_in ((10 : Int32) * (V 213 9)) 160) := hs
    have hres : res = (BX9_readsLetters_76 x1 (gu V 218 (((10 : Int32) * (V 213 9))).toNatClampNeg x1)) := hres
    refine lv_aload_n hx hb dX9_readsLetters_63 rfl (lv_at hl 0 rfl) ?_
    refine gh_get (v := .ref (gA G 218)) (C := RX9) (T := TX9) (N := 11) hx hb hw inlX9 hown hT hP 213 (Nat.le_of_ble_eq_true rfl) kd213 rfl rfl 10 (by decide) (hw _ uw121) rfl dX9_readsLetters_64 ?_
    refine lv_bipush (v := 10) hx hb dX9_readsLetters_67 (by decide) ?_
    refine lv_aload_n hx hb dX9_readsLetters_69 rfl (lv_at hl 0 rfl) ?_
    refine gh_get (v := .int (V 213 9)) (C := RX9) (T := TX9) (N := 11) hx hb hw inlX9 hown hT hP 213 (Nat.le_of_ble_eq_true rfl) kd213 rfl rfl 9 (by decide) (hw _ uw827) rfl dX9_readsLetters_70 ?_
    refine lv_imul hx hb dX9_readsLetters_73 ?_
    refine lv_iload_n hx hb dX9_readsLetters_74 rfl (lv_at hl 1 rfl) ?_
    have ho_3 := hs
    refine gh_iast hx hb hT hP hS 218 (Nat.le_of_ble_eq_true rfl) kd218 ho_3 dX9_readsLetters_75 (fun H locs hP hS => ?_)
    exact b_76 x1 (gu V 218 (((10 : Int32) * (V 213 9))).toNatClampNeg x1) _ _ _ (lv_sub hl [0, 1] rfl) hP hS hres
  have b_2 : ∀ (n : Nat) (x1 : Int32) (V : gV) (H : Heap) (locs : List Loc) (ls : Array Slot), lv_has ls 2 [(0, .ref (gA G 213)), (1, .int x1)] → va_P (gD G) vwCl (gL G V) H → va_S (gF G) s.heap H locs → PX9_readsLetters_2  n x1 V → res = BX9_readsLetters_2  n x1 V → W p l e r_X9_readsLetters s m ([.ref (gA G 213)] : List Value).toArray below meth c H locs 0 0 (MQ below (gQI G res) ([.ref (gA G 213)] : List Value).toArray s 0 0 (gF G)) (F0 m 2 ls []) := by
    intro n
    induction n with
    | zero =>
      intro x1 V H locs ls hl hP hS hs hres
      exact (show False from hs).elim
    | succ n2 ih2 =>
      have b_47 : ∀ (x1 : Int32) (V : gV) (H : Heap) (locs : List Loc) (ls : Array Slot), lv_has ls 2 [(0, .ref (gA G 213)), (1, .int x1)] → va_P (gD G) vwCl (gL G V) H → va_S (gF G) s.heap H locs → PX9_readsLetters_47 (PX9_readsLetters_2 n2) x1 V → res = BX9_readsLetters_47 (BX9_readsLetters_2 n2) x1 V → W p l e r_X9_readsLetters s m ([.ref (gA G 213)] : List Value).toArray below meth c H locs 0 0 (MQ below (gQI G res) ([.ref (gA G 213)] : List Value).toArray s 0 0 (gF G)) (F0 m 47 ls []) := by
        intro x1 V H locs ls hl hP hS hs hres
        have hs : ((PX9_readsLetters_2 n2) (x1 + (1 : Int32)) (gu V 213 7 ((V 213 7) + (1 : Int32)))) := hs
        have hres : res = ((BX9_readsLetters_2 n2) (x1 + (1 : Int32)) (gu V 213 7 ((V 213 7) + (1 : Int32)))) := hres
        refine lv_iinc (v := (x1 + (1 : Int32))) (lv' := [(1, .int (x1 + (1 : Int32))), (0, .ref (gA G 213))]) hx hb dX9_readsLetters_47 hl (k := 1) rfl rfl (by decide) rfl (fun ls hl => ?_)
        refine lv_aload_n hx hb dX9_readsLetters_50 rfl (lv_at hl 1 rfl) ?_
        refine lv_dup hx hb dX9_readsLetters_51 rfl ?_
        refine gh_get (v := .int (V 213 7)) (C := RX9) (T := TX9) (N := 11) hx hb hw inlX9 hown hT hP 213 (Nat.le_of_ble_eq_true rfl) kd213 rfl rfl 7 (by decide) (hw _ uw821) rfl dX9_readsLetters_52 ?_
        refine lv_iconst (v := 1) hx hb dX9_readsLetters_55 (by decide) ?_
        refine lv_iadd hx hb dX9_readsLetters_56 ?_
        refine gh_put (ty := .int) (x := ((V 213 7) + (1 : Int32))) (C := RX9) (T := TX9) (N := 11) hx hb hw inlX9 tyX9_ok nmX9 hown hT hP hS 213 (Nat.le_of_ble_eq_true rfl) kd213 rfl rfl 7 (by decide) (hw _ uw821) rfl (by decide +kernel) rfl rfl (Nat.le_of_ble_eq_true rfl) rfl dX9_readsLetters_57 (fun H locs hP hS => ?_)
        refine lv_goto (tgt := 2) hx hb dX9_readsLetters_60 (by decide) ?_
        exact ih2 (x1 + (1 : Int32)) (gu V 213 7 ((V 213 7) + (1 : Int32))) _ _ _ (lv_sub hl [1, 0] rfl) hP hS hs hres
      intro x1 V H locs ls hl hP hS hs hres
      have hs : (PX9_isAt (97 : Int32) (122 : Int32) V) ∧ (((MX9_isAt (97 : Int32) (122 : Int32) V) = 0 → (PX9_readsLetters_63 x1 V)) ∧ (¬ (MX9_isAt (97 : Int32) (122 : Int32) V) = 0 → (((8 : Int32) ≤ x1 → (PX9_readsLetters_63 x1 V)) ∧ (¬ (8 : Int32) ≤ x1 → (vp_in (V 213 7) 120) ∧ (vp_in ((((10 : Int32) * (V 213 9)) + (2 : Int32)) + x1) 160) ∧ (PX9_readsLetters_47 (PX9_readsLetters_2 n2) x1 (gu V 218 (((((10 : Int32) * (V 213 9)) + (2 : Int32)) + x1)).toNatClampNeg ((V 217 ((V 213 7)).toNatClampNeg) - (97 : Int32)))))))) := hs
      have hres : res = (if (MX9_isAt (97 : Int32) (122 : Int32) V) = 0 then (BX9_readsLetters_63 x1 V) else (if (8 : Int32) ≤ x1 then (BX9_readsLetters_63 x1 V) else (BX9_readsLetters_47 (BX9_readsLetters_2 n2) x1 (gu V 218 (((((10 : Int32) * (V 213 9)) + (2 : Int32)) + x1)).toNatClampNeg ((V 217 ((V 213 7)).toNatClampNeg) - (97 : Int32)))))) := hres
      refine lv_aload_n hx hb dX9_readsLetters_2 rfl (lv_at hl 0 rfl) ?_
      refine lv_bipush (v := 97) hx hb dX9_readsLetters_3 (by decide) ?_
      refine lv_bipush (v := 122) hx hb dX9_readsLetters_5 (by decide) ?_
      obtain ⟨ho_1, hs⟩ := hs
      refine gh_kr (va_runV (As := [.int (97 : Int32), .int (122 : Int32)]) (rest := []) ⟨hx, hb, hml, hown, hw⟩ (cc_X9_isAt l G V (97 : Int32) (122 : Int32) ho_1) (cwV 2 hw gv_RX9_133 rfl rfl rfl dd_X9_isAt ⟨Nat.le_of_ble_eq_true rfl, Nat.le_of_ble_eq_true rfl⟩) (gh_preV hT hP (Nat.le_of_ble_eq_true rfl) kd213 rfl rfl) rfl rfl hl.1 rfl (lv_room (Nat.le_of_ble_eq_true rfl)) dX9_readsLetters_7 ⟨Nat.zero_le _, Nat.zero_le _⟩) hS (fun H locs hP hS => ?_)
      refine lv_if_eq (tgt := 63) hx hb dX9_readsLetters_10 (by decide) (fun c_2 => ?_) (fun c_2 => ?_)
      · have hres := hres.trans (if_pos c_2)
        have hs := hs.1 c_2
        exact b_63 x1 V _ _ _ (lv_sub hl [0, 1] rfl) hP hS hs hres
      have hres := hres.trans (if_neg c_2)
      have hs := hs.2 c_2
      refine lv_iload_n hx hb dX9_readsLetters_13 rfl (lv_at hl 1 rfl) ?_
      refine lv_bipush (v := 8) hx hb dX9_readsLetters_14 (by decide) ?_
      refine lv_icmp_ge (tgt := 63) hx hb dX9_readsLetters_16 (by decide) (fun c_6 => ?_) (fun c_6 => ?_)
      · have hres := hres.trans (if_pos c_6)
        have hs := hs.1 c_6
        exact b_63 x1 V _ _ _ (lv_sub hl [0, 1] rfl) hP hS hs hres
      have hres := hres.trans (if_neg c_6)
      have hs := hs.2 c_6
      refine lv_aload_n hx hb dX9_readsLetters_19 rfl (lv_at hl 0 rfl) ?_
      refine gh_get (v := .ref (gA G 218)) (C := RX9) (T := TX9) (N := 11) hx hb hw inlX9 hown hT hP 213 (Nat.le_of_ble_eq_true rfl) kd213 rfl rfl 10 (by decide) (hw _ uw121) rfl dX9_readsLetters_20 ?_
      refine lv_bipush (v := 10) hx hb dX9_readsLetters_23 (by decide) ?_
      refine lv_aload_n hx hb dX9_readsLetters_25 rfl (lv_at hl 0 rfl) ?_
      refine gh_get (v := .int (V 213 9)) (C := RX9) (T := TX9) (N := 11) hx hb hw inlX9 hown hT hP 213 (Nat.le_of_ble_eq_true rfl) kd213 rfl rfl 9 (by decide) (hw _ uw827) rfl dX9_readsLetters_26 ?_
      refine lv_imul hx hb dX9_readsLetters_29 ?_
      refine lv_iconst (v := 2) hx hb dX9_readsLetters_30 (by decide) ?_
      refine lv_iadd hx hb dX9_readsLetters_31 ?_
      refine lv_iload_n hx hb dX9_readsLetters_32 rfl (lv_at hl 1 rfl) ?_
      refine lv_iadd hx hb dX9_readsLetters_33 ?_
      refine lv_aload_n hx hb dX9_readsLetters_34 rfl (lv_at hl 0 rfl) ?_
      refine gh_get (v := .ref (gA G 217)) (C := RX9) (T := TX9) (N := 11) hx hb hw inlX9 hown hT hP 213 (Nat.le_of_ble_eq_true rfl) kd213 rfl rfl 5 (by decide) (hw _ uw120) rfl dX9_readsLetters_35 ?_
      refine lv_aload_n hx hb dX9_readsLetters_38 rfl (lv_at hl 0 rfl) ?_
      refine gh_get (v := .int (V 213 7)) (C := RX9) (T := TX9) (N := 11) hx hb hw inlX9 hown hT hP 213 (Nat.le_of_ble_eq_true rfl) kd213 rfl rfl 7 (by decide) (hw _ uw821) rfl dX9_readsLetters_39 ?_
      obtain ⟨ho_7, hs⟩ := hs
      refine gh_iald hx hb hT hP 217 (Nat.le_of_ble_eq_true rfl) kd217 ho_7 dX9_readsLetters_42 ?_
      refine lv_bipush (v := 97) hx hb dX9_readsLetters_43 (by decide) ?_
      refine lv_isub hx hb dX9_readsLetters_45 ?_
      obtain ⟨ho_8, hs⟩ := hs
      refine gh_iast hx hb hT hP hS 218 (Nat.le_of_ble_eq_true rfl) kd218 ho_8 dX9_readsLetters_46 (fun H locs hP hS => ?_)
      exact b_47 x1 (gu V 218 (((((10 : Int32) * (V 213 9)) + (2 : Int32)) + x1)).toNatClampNeg ((V 217 ((V 213 7)).toNatClampNeg) - (97 : Int32))) _ _ _ (lv_sub hl [0, 1] rfl) hP hS hs hres
  refine lv_iconst (v := 0) hx hb dX9_readsLetters_0 (by decide) ?_
  refine lv_istore_n (lv' := [(1, .int (0 : Int32)), (0, .ref (gA G 213))]) hx hb dX9_readsLetters_1 rfl hl (by decide) rfl (fun ls hl => ?_)
  exact b_2 1000 (0 : Int32) V _ _ _ (lv_sub hl [1, 0] rfl) hP hS hs hres
def BX9_readsWeight_79   (x1 : Int32) (V : gV) : Int32 × gV := ((1 : Int32), (gu V 218 ((((10 : Int32) * (V 213 9)) + (1 : Int32))).toNatClampNeg x1))
def PX9_readsWeight_79   (x1 : Int32) (V : gV) : Prop := (vp_in (((10 : Int32) * (V 213 9)) + (1 : Int32)) 160)
def BX9_readsWeight_40   (x1 : Int32) (V : gV) : Int32 × gV := if (MX9_isAt (48 : Int32) (57 : Int32) V) = 0 then (BX9_readsWeight_79 x1 V) else (BX9_readsWeight_79 ((((10 : Int32) * x1) + (V 217 ((V 213 7)).toNatClampNeg)) - (48 : Int32)) (gu V 213 7 ((V 213 7) + (1 : Int32))))
def PX9_readsWeight_40   (x1 : Int32) (V : gV) : Prop := (PX9_isAt (48 : Int32) (57 : Int32) V) ∧ (((MX9_isAt (48 : Int32) (57 : Int32) V) = 0 → (PX9_readsWeight_79 x1 V)) ∧ (¬ (MX9_isAt (48 : Int32) (57 : Int32) V) = 0 → (vp_in (V 213 7) 120) ∧ (PX9_readsWeight_79 ((((10 : Int32) * x1) + (V 217 ((V 213 7)).toNatClampNeg)) - (48 : Int32)) (gu V 213 7 ((V 213 7) + (1 : Int32))))))
def MX9_readsWeight   (V : gV) : Int32 × gV := if (MX9_isAt (49 : Int32) (57 : Int32) V) = 0 then (((MX9_fails (1 : Int32) V).1, (MX9_fails (1 : Int32) V).2)) else (BX9_readsWeight_40 ((V 217 ((V 213 7)).toNatClampNeg) - (48 : Int32)) (gu V 213 7 ((V 213 7) + (1 : Int32))))
def PX9_readsWeight   (V : gV) : Prop := (PX9_isAt (49 : Int32) (57 : Int32) V) ∧ (((MX9_isAt (49 : Int32) (57 : Int32) V) = 0 → (gZ (MX9_fails (1 : Int32) V).1)) ∧ (¬ (MX9_isAt (49 : Int32) (57 : Int32) V) = 0 → (vp_in (V 213 7) 120) ∧ (PX9_readsWeight_40 ((V 217 ((V 213 7)).toNatClampNeg) - (48 : Int32)) (gu V 213 7 ((V 213 7) + (1 : Int32))))))
abbrev wc_X9_readsWeight : List Cond := Cond.code yX9_readsWeight cX9_readsWeight 2 (some .boolean) :: wsL_law
abbrev r_X9_readsWeight : Room := { frames := 2, cells := 0, slots := 0, locals := 44 }
theorem dd_X9_readsWeight : yX9_readsWeight.cls = RX9 ∧ yX9_readsWeight.cls ≠ "java/lang/invoke/MethodHandle" ∧ yX9_readsWeight.cls ≠ "java/lang/invoke/VarHandle" ∧ (parseMethodDescriptor yX9_readsWeight.desc).map (fun d => d.parameters.length) = some 0 := by decide +kernel
set_option maxHeartbeats 8000000 in
set_option maxRecDepth 100000 in
theorem cc_X9_readsWeight (l : Launch) (G : gG) (V : gV)    (hs : PX9_readsWeight V) : Met l yX9_readsWeight wc_X9_readsWeight r_X9_readsWeight (va_Pc [.ref (gA G 213)] (gW G V)) (gQI G (MX9_readsWeight V)) 0 0 (gF G) := by
  refine Met.ofW (cc := cX9_readsWeight) (maxL := 2) (ret := (some .boolean)) (by decide) rfl ?_
  intro p e s m args below meth c s₁ B hml hv
  obtain ⟨rfl, hP, hT⟩ := hv
  have hx := B.exec
  have hb := B.bytes
  have hr := B.returns
  have hw := gh_hw (atoms_spec (ws := wc_X9_readsWeight) B.pre)
  have hown : s.vm.findClass RX9 = some m.cls := findClass_of_methodNamed B.named
  have hlocks := B.notSynchronized
  have hS : va_S (gF G) s.heap s.heap [] := va_S.rf
  have hl := lv_entry ([.ref (gA G 213)]) (n := 2) (Nat.le_of_ble_eq_true rfl)
  rw [lg_entry_eq]
  generalize (lg_sl ([.ref (gA G 213)]) ++ List.replicate (2 - (lg_sl ([.ref (gA G 213)])).length) Slot.unset).toArray = ls at hl ⊢
  have hl : lv_has ls 2 [(0, .ref (gA G 213))] := hl
  obtain ⟨res, hres⟩ : ∃ r, r = MX9_readsWeight V := ⟨_, rfl⟩
  rw [← hres]
  show W p l e r_X9_readsWeight s m ([.ref (gA G 213)] : List Value).toArray below meth c s.heap [] 0 0 (MQ below (gQI G res) ([.ref (gA G 213)] : List Value).toArray s 0 0 (gF G)) (F0 m 0 ls [])
  have hs : (PX9_isAt (49 : Int32) (57 : Int32) V) ∧ (((MX9_isAt (49 : Int32) (57 : Int32) V) = 0 → (gZ (MX9_fails (1 : Int32) V).1)) ∧ (¬ (MX9_isAt (49 : Int32) (57 : Int32) V) = 0 → (vp_in (V 213 7) 120) ∧ (PX9_readsWeight_40 ((V 217 ((V 213 7)).toNatClampNeg) - (48 : Int32)) (gu V 213 7 ((V 213 7) + (1 : Int32)))))) := hs
  have hres : res = (if (MX9_isAt (49 : Int32) (57 : Int32) V) = 0 then (((MX9_fails (1 : Int32) V).1, (MX9_fails (1 : Int32) V).2)) else (BX9_readsWeight_40 ((V 217 ((V 213 7)).toNatClampNeg) - (48 : Int32)) (gu V 213 7 ((V 213 7) + (1 : Int32))))) := hres
  have b_79 : ∀ (x1 : Int32) (V : gV) (H : Heap) (locs : List Loc) (ls : Array Slot), lv_has ls 2 [(0, .ref (gA G 213)), (1, .int x1)] → va_P (gD G) vwCl (gL G V) H → va_S (gF G) s.heap H locs → PX9_readsWeight_79  x1 V → res = BX9_readsWeight_79  x1 V → W p l e r_X9_readsWeight s m ([.ref (gA G 213)] : List Value).toArray below meth c H locs 0 0 (MQ below (gQI G res) ([.ref (gA G 213)] : List Value).toArray s 0 0 (gF G)) (F0 m 79 ls []) := by
    intro x1 V H locs ls hl hP hS hs hres
    have hs : (vp_in (((10 : Int32) * (V 213 9)) + (1 : Int32)) 160) := hs
    have hres : res = (((1 : Int32), (gu V 218 ((((10 : Int32) * (V 213 9)) + (1 : Int32))).toNatClampNeg x1))) := hres
    refine lv_aload_n hx hb dX9_readsWeight_79 rfl (lv_at hl 0 rfl) ?_
    refine gh_get (v := .ref (gA G 218)) (C := RX9) (T := TX9) (N := 11) hx hb hw inlX9 hown hT hP 213 (Nat.le_of_ble_eq_true rfl) kd213 rfl rfl 10 (by decide) (hw _ uw121) rfl dX9_readsWeight_80 ?_
    refine lv_bipush (v := 10) hx hb dX9_readsWeight_83 (by decide) ?_
    refine lv_aload_n hx hb dX9_readsWeight_85 rfl (lv_at hl 0 rfl) ?_
    refine gh_get (v := .int (V 213 9)) (C := RX9) (T := TX9) (N := 11) hx hb hw inlX9 hown hT hP 213 (Nat.le_of_ble_eq_true rfl) kd213 rfl rfl 9 (by decide) (hw _ uw827) rfl dX9_readsWeight_86 ?_
    refine lv_imul hx hb dX9_readsWeight_89 ?_
    refine lv_iconst (v := 1) hx hb dX9_readsWeight_90 (by decide) ?_
    refine lv_iadd hx hb dX9_readsWeight_91 ?_
    refine lv_iload_n hx hb dX9_readsWeight_92 rfl (lv_at hl 1 rfl) ?_
    have ho_6 := hs
    refine gh_iast hx hb hT hP hS 218 (Nat.le_of_ble_eq_true rfl) kd218 ho_6 dX9_readsWeight_93 (fun H locs hP hS => ?_)
    refine lv_iconst (v := 1) hx hb dX9_readsWeight_94 (by decide) ?_
    exact gh_zret hx hb hr rfl hlocks hP hS hT hres dX9_readsWeight_95
  have b_40 : ∀ (x1 : Int32) (V : gV) (H : Heap) (locs : List Loc) (ls : Array Slot), lv_has ls 2 [(0, .ref (gA G 213)), (1, .int x1)] → va_P (gD G) vwCl (gL G V) H → va_S (gF G) s.heap H locs → PX9_readsWeight_40  x1 V → res = BX9_readsWeight_40  x1 V → W p l e r_X9_readsWeight s m ([.ref (gA G 213)] : List Value).toArray below meth c H locs 0 0 (MQ below (gQI G res) ([.ref (gA G 213)] : List Value).toArray s 0 0 (gF G)) (F0 m 40 ls []) := by
    intro x1 V H locs ls hl hP hS hs hres
    have hs : (PX9_isAt (48 : Int32) (57 : Int32) V) ∧ (((MX9_isAt (48 : Int32) (57 : Int32) V) = 0 → (PX9_readsWeight_79 x1 V)) ∧ (¬ (MX9_isAt (48 : Int32) (57 : Int32) V) = 0 → (vp_in (V 213 7) 120) ∧ (PX9_readsWeight_79 ((((10 : Int32) * x1) + (V 217 ((V 213 7)).toNatClampNeg)) - (48 : Int32)) (gu V 213 7 ((V 213 7) + (1 : Int32)))))) := hs
    have hres : res = (if (MX9_isAt (48 : Int32) (57 : Int32) V) = 0 then (BX9_readsWeight_79 x1 V) else (BX9_readsWeight_79 ((((10 : Int32) * x1) + (V 217 ((V 213 7)).toNatClampNeg)) - (48 : Int32)) (gu V 213 7 ((V 213 7) + (1 : Int32))))) := hres
    refine lv_aload_n hx hb dX9_readsWeight_40 rfl (lv_at hl 0 rfl) ?_
    refine lv_bipush (v := 48) hx hb dX9_readsWeight_41 (by decide) ?_
    refine lv_bipush (v := 57) hx hb dX9_readsWeight_43 (by decide) ?_
    obtain ⟨ho_4, hs⟩ := hs
    refine gh_kr (va_runV (As := [.int (48 : Int32), .int (57 : Int32)]) (rest := []) ⟨hx, hb, hml, hown, hw⟩ (cc_X9_isAt l G V (48 : Int32) (57 : Int32) ho_4) (cwV 2 hw gv_RX9_133 rfl rfl rfl dd_X9_isAt ⟨Nat.le_of_ble_eq_true rfl, Nat.le_of_ble_eq_true rfl⟩) (gh_preV hT hP (Nat.le_of_ble_eq_true rfl) kd213 rfl rfl) rfl rfl hl.1 rfl (lv_room (Nat.le_of_ble_eq_true rfl)) dX9_readsWeight_45 ⟨Nat.zero_le _, Nat.zero_le _⟩) hS (fun H locs hP hS => ?_)
    refine lv_if_eq (tgt := 79) hx hb dX9_readsWeight_48 (by decide) (fun c_5 => ?_) (fun c_5 => ?_)
    · have hres := hres.trans (if_pos c_5)
      have hs := hs.1 c_5
      exact b_79 x1 V _ _ _ (lv_sub hl [0, 1] rfl) hP hS hs hres
    have hres := hres.trans (if_neg c_5)
    have hs := hs.2 c_5
    refine lv_bipush (v := 10) hx hb dX9_readsWeight_51 (by decide) ?_
    refine lv_iload_n hx hb dX9_readsWeight_53 rfl (lv_at hl 1 rfl) ?_
    refine lv_imul hx hb dX9_readsWeight_54 ?_
    refine lv_aload_n hx hb dX9_readsWeight_55 rfl (lv_at hl 0 rfl) ?_
    refine gh_get (v := .ref (gA G 217)) (C := RX9) (T := TX9) (N := 11) hx hb hw inlX9 hown hT hP 213 (Nat.le_of_ble_eq_true rfl) kd213 rfl rfl 5 (by decide) (hw _ uw120) rfl dX9_readsWeight_56 ?_
    refine lv_aload_n hx hb dX9_readsWeight_59 rfl (lv_at hl 0 rfl) ?_
    refine gh_get (v := .int (V 213 7)) (C := RX9) (T := TX9) (N := 11) hx hb hw inlX9 hown hT hP 213 (Nat.le_of_ble_eq_true rfl) kd213 rfl rfl 7 (by decide) (hw _ uw821) rfl dX9_readsWeight_60 ?_
    obtain ⟨ho_7, hs⟩ := hs
    refine gh_iald hx hb hT hP 217 (Nat.le_of_ble_eq_true rfl) kd217 ho_7 dX9_readsWeight_63 ?_
    refine lv_iadd hx hb dX9_readsWeight_64 ?_
    refine lv_bipush (v := 48) hx hb dX9_readsWeight_65 (by decide) ?_
    refine lv_isub hx hb dX9_readsWeight_67 ?_
    refine lv_istore_n (lv' := [(1, .int ((((10 : Int32) * x1) + (V 217 ((V 213 7)).toNatClampNeg)) - (48 : Int32))), (0, .ref (gA G 213))]) hx hb dX9_readsWeight_68 rfl hl (by decide) rfl (fun ls hl => ?_)
    refine lv_aload_n hx hb dX9_readsWeight_69 rfl (lv_at hl 1 rfl) ?_
    refine lv_dup hx hb dX9_readsWeight_70 rfl ?_
    refine gh_get (v := .int (V 213 7)) (C := RX9) (T := TX9) (N := 11) hx hb hw inlX9 hown hT hP 213 (Nat.le_of_ble_eq_true rfl) kd213 rfl rfl 7 (by decide) (hw _ uw821) rfl dX9_readsWeight_71 ?_
    refine lv_iconst (v := 1) hx hb dX9_readsWeight_74 (by decide) ?_
    refine lv_iadd hx hb dX9_readsWeight_75 ?_
    refine gh_put (ty := .int) (x := ((V 213 7) + (1 : Int32))) (C := RX9) (T := TX9) (N := 11) hx hb hw inlX9 tyX9_ok nmX9 hown hT hP hS 213 (Nat.le_of_ble_eq_true rfl) kd213 rfl rfl 7 (by decide) (hw _ uw821) rfl (by decide +kernel) rfl rfl (Nat.le_of_ble_eq_true rfl) rfl dX9_readsWeight_76 (fun H locs hP hS => ?_)
    exact b_79 ((((10 : Int32) * x1) + (V 217 ((V 213 7)).toNatClampNeg)) - (48 : Int32)) (gu V 213 7 ((V 213 7) + (1 : Int32))) _ _ _ (lv_sub hl [1, 0] rfl) hP hS hs hres
  refine lv_aload_n hx hb dX9_readsWeight_0 rfl (lv_at hl 0 rfl) ?_
  refine lv_bipush (v := 49) hx hb dX9_readsWeight_1 (by decide) ?_
  refine lv_bipush (v := 57) hx hb dX9_readsWeight_3 (by decide) ?_
  obtain ⟨ho_1, hs⟩ := hs
  refine gh_kr (va_runV (As := [.int (49 : Int32), .int (57 : Int32)]) (rest := []) ⟨hx, hb, hml, hown, hw⟩ (cc_X9_isAt l G V (49 : Int32) (57 : Int32) ho_1) (cwV 2 hw gv_RX9_133 rfl rfl rfl dd_X9_isAt ⟨Nat.le_of_ble_eq_true rfl, Nat.le_of_ble_eq_true rfl⟩) (gh_preV hT hP (Nat.le_of_ble_eq_true rfl) kd213 rfl rfl) rfl rfl hl.1 rfl (lv_room (Nat.le_of_ble_eq_true rfl)) dX9_readsWeight_5 ⟨Nat.zero_le _, Nat.zero_le _⟩) hS (fun H locs hP hS => ?_)
  refine lv_if_ne (tgt := 17) hx hb dX9_readsWeight_8 (by decide) (fun c_2 => ?_) (fun c_2 => ?_)
  · have hres := hres.trans (if_neg c_2)
    have hs := hs.2 c_2
    refine lv_aload_n hx hb dX9_readsWeight_17 rfl (lv_at hl 0 rfl) ?_
    refine gh_get (v := .ref (gA G 217)) (C := RX9) (T := TX9) (N := 11) hx hb hw inlX9 hown hT hP 213 (Nat.le_of_ble_eq_true rfl) kd213 rfl rfl 5 (by decide) (hw _ uw120) rfl dX9_readsWeight_18 ?_
    refine lv_aload_n hx hb dX9_readsWeight_21 rfl (lv_at hl 0 rfl) ?_
    refine gh_get (v := .int (V 213 7)) (C := RX9) (T := TX9) (N := 11) hx hb hw inlX9 hown hT hP 213 (Nat.le_of_ble_eq_true rfl) kd213 rfl rfl 7 (by decide) (hw _ uw821) rfl dX9_readsWeight_22 ?_
    obtain ⟨ho_3, hs⟩ := hs
    refine gh_iald hx hb hT hP 217 (Nat.le_of_ble_eq_true rfl) kd217 ho_3 dX9_readsWeight_25 ?_
    refine lv_bipush (v := 48) hx hb dX9_readsWeight_26 (by decide) ?_
    refine lv_isub hx hb dX9_readsWeight_28 ?_
    refine lv_istore_n (lv' := [(1, .int ((V 217 ((V 213 7)).toNatClampNeg) - (48 : Int32))), (0, .ref (gA G 213))]) hx hb dX9_readsWeight_29 rfl hl (by decide) rfl (fun ls hl => ?_)
    refine lv_aload_n hx hb dX9_readsWeight_30 rfl (lv_at hl 1 rfl) ?_
    refine lv_dup hx hb dX9_readsWeight_31 rfl ?_
    refine gh_get (v := .int (V 213 7)) (C := RX9) (T := TX9) (N := 11) hx hb hw inlX9 hown hT hP 213 (Nat.le_of_ble_eq_true rfl) kd213 rfl rfl 7 (by decide) (hw _ uw821) rfl dX9_readsWeight_32 ?_
    refine lv_iconst (v := 1) hx hb dX9_readsWeight_35 (by decide) ?_
    refine lv_iadd hx hb dX9_readsWeight_36 ?_
    refine gh_put (ty := .int) (x := ((V 213 7) + (1 : Int32))) (C := RX9) (T := TX9) (N := 11) hx hb hw inlX9 tyX9_ok nmX9 hown hT hP hS 213 (Nat.le_of_ble_eq_true rfl) kd213 rfl rfl 7 (by decide) (hw _ uw821) rfl (by decide +kernel) rfl rfl (Nat.le_of_ble_eq_true rfl) rfl dX9_readsWeight_37 (fun H locs hP hS => ?_)
    exact b_40 ((V 217 ((V 213 7)).toNatClampNeg) - (48 : Int32)) (gu V 213 7 ((V 213 7) + (1 : Int32))) _ _ _ (lv_sub hl [1, 0] rfl) hP hS hs hres
  have hres := hres.trans (if_pos c_2)
  have hs := hs.1 c_2
  refine lv_aload_n hx hb dX9_readsWeight_11 rfl (lv_at hl 0 rfl) ?_
  refine lv_iconst (v := 1) hx hb dX9_readsWeight_12 (by decide) ?_
  refine gh_ki (va_runV (As := [.int (1 : Int32)]) (rest := []) ⟨hx, hb, hml, hown, hw⟩ (cc_X9_fails l G V (1 : Int32)) (cwV 1 hw gv_RX9_143 rfl rfl rfl dd_X9_fails ⟨Nat.le_of_ble_eq_true rfl, Nat.le_of_ble_eq_true rfl⟩) (gh_preV hT hP (Nat.le_of_ble_eq_true rfl) kd213 rfl rfl) rfl rfl hl.1 rfl (lv_room (Nat.le_of_ble_eq_true rfl)) dX9_readsWeight_13 ⟨Nat.zero_le _, Nat.zero_le _⟩) hS (fun H locs hP hS => ?_)
  have ho_8 := hs
  exact gh_zret hx hb hr ho_8.n hlocks hP hS hT hres dX9_readsWeight_16
theorem gv_RX9_146 : GoodIn wsL_law (wsV RX9 146 RX9 yX9_readsLetters wc_X9_readsLetters) := gh_gV uw840 uw841 uw842 uw5 uw843
theorem gv_RX9_149 : GoodIn wsL_law (wsV RX9 149 RX9 yX9_sign wc_X9_sign) := gh_gV uw844 uw845 uw846 uw5 uw847
theorem gv_RX9_152 : GoodIn wsL_law (wsV RX9 152 RX9 yX9_readsWeight wc_X9_readsWeight) := gh_gV uw848 uw849 uw850 uw5 uw851
theorem gv_RX9_155 : GoodIn wsL_law (wsV RX9 155 RX9 yX9_isDouble wc_X9_isDouble) := gh_gV uw852 uw853 uw854 uw5 uw855
def BX9_readsWord_112    (V : gV) : Int32 × gV := ((MX9_fails (3 : Int32) V).1, (MX9_fails (3 : Int32) V).2)
def PX9_readsWord_112    (V : gV) : Prop := (gZ (MX9_fails (3 : Int32) V).1)
def BX9_readsWord_91   (x1 : Int32) (s0 : Int32) (V : gV) : Int32 × gV := if s0 = 0 then (((MX9_fails (1 : Int32) V).1, (MX9_fails (1 : Int32) V).2)) else (if (MX9_isDouble V) = 0 then (((1 : Int32), (gu V 213 9 ((V 213 9) + (1 : Int32))))) else (BX9_readsWord_112 (gu V 213 7 x1)))
def PX9_readsWord_91   (x1 : Int32) (s0 : Int32) (V : gV) : Prop := ((s0 = 0 → (gZ (MX9_fails (1 : Int32) V).1)) ∧ (¬ s0 = 0 → (PX9_isDouble V) ∧ ((¬ (MX9_isDouble V) = 0 → (PX9_readsWord_112 (gu V 213 7 x1))))))
def BX9_readsWord_80   (x1 : Int32) (s0 : Int32) (V : gV) : Int32 × gV := if s0 = 0 then (((0 : Int32), V)) else (BX9_readsWord_91 x1 ((MX9_sign (59 : Int32) V).1) ((MX9_sign (59 : Int32) V).2))
def PX9_readsWord_80   (x1 : Int32) (s0 : Int32) (V : gV) : Prop := ((¬ s0 = 0 → (PX9_sign (59 : Int32) V) ∧ (PX9_readsWord_91 x1 ((MX9_sign (59 : Int32) V).1) ((MX9_sign (59 : Int32) V).2))))
def BX9_readsWord_67   (x1 : Int32) (s0 : Int32) (V : gV) : Int32 × gV := if s0 = 0 then (((MX9_fails (1 : Int32) V).1, (MX9_fails (1 : Int32) V).2)) else (BX9_readsWord_80 x1 ((MX9_readsWeight V).1) ((MX9_readsWeight V).2))
def PX9_readsWord_67   (x1 : Int32) (s0 : Int32) (V : gV) : Prop := ((s0 = 0 → (gZ (MX9_fails (1 : Int32) V).1)) ∧ (¬ s0 = 0 → (PX9_readsWeight V) ∧ (PX9_readsWord_80 x1 ((MX9_readsWeight V).1) ((MX9_readsWeight V).2))))
def BX9_readsWord_39   (x1 : Int32) (s0 : Int32) (V : gV) : Int32 × gV := if s0 = 0 then (((0 : Int32), V)) else (if (MX9_isAt (97 : Int32) (122 : Int32) V) = 0 then (BX9_readsWord_67 x1 ((MX9_sign (42 : Int32) V).1) ((MX9_sign (42 : Int32) V).2)) else (((MX9_fails (2 : Int32) V).1, (MX9_fails (2 : Int32) V).2)))
def PX9_readsWord_39   (x1 : Int32) (s0 : Int32) (V : gV) : Prop := ((¬ s0 = 0 → (PX9_isAt (97 : Int32) (122 : Int32) V) ∧ (((MX9_isAt (97 : Int32) (122 : Int32) V) = 0 → (PX9_sign (42 : Int32) V) ∧ (PX9_readsWord_67 x1 ((MX9_sign (42 : Int32) V).1) ((MX9_sign (42 : Int32) V).2))) ∧ (¬ (MX9_isAt (97 : Int32) (122 : Int32) V) = 0 → (gZ (MX9_fails (2 : Int32) V).1)))))
def BX9_readsWord_31   (s0 : Int32) (V : gV) : Int32 × gV := ((MX9_fails s0 V).1, (MX9_fails s0 V).2)
def PX9_readsWord_31   (s0 : Int32) (V : gV) : Prop := (gZ (MX9_fails s0 V).1)
def MX9_readsWord   (V : gV) : Int32 × gV := if (V 213 9) = (16 : Int32) then (if (MX9_isAt (97 : Int32) (122 : Int32) V) = 0 then (BX9_readsWord_31 (1 : Int32) V) else (BX9_readsWord_31 (4 : Int32) V)) else (BX9_readsWord_39 (V 213 7) ((MX9_readsLetters V).1) ((MX9_readsLetters V).2))
def PX9_readsWord   (V : gV) : Prop := (((V 213 9) = (16 : Int32) → (PX9_isAt (97 : Int32) (122 : Int32) V) ∧ (((MX9_isAt (97 : Int32) (122 : Int32) V) = 0 → (PX9_readsWord_31 (1 : Int32) V)) ∧ (¬ (MX9_isAt (97 : Int32) (122 : Int32) V) = 0 → (PX9_readsWord_31 (4 : Int32) V)))) ∧ (¬ (V 213 9) = (16 : Int32) → (PX9_readsLetters V) ∧ (PX9_readsWord_39 (V 213 7) ((MX9_readsLetters V).1) ((MX9_readsLetters V).2))))
abbrev wc_X9_readsWord : List Cond := Cond.code yX9_readsWord cX9_readsWord 2 (some .boolean) :: wsL_law
abbrev r_X9_readsWord : Room := { frames := 3, cells := 0, slots := 0, locals := 66 }
theorem dd_X9_readsWord : yX9_readsWord.cls = RX9 ∧ yX9_readsWord.cls ≠ "java/lang/invoke/MethodHandle" ∧ yX9_readsWord.cls ≠ "java/lang/invoke/VarHandle" ∧ (parseMethodDescriptor yX9_readsWord.desc).map (fun d => d.parameters.length) = some 0 := by decide +kernel
set_option maxHeartbeats 8000000 in
set_option maxRecDepth 100000 in
theorem cc_X9_readsWord (l : Launch) (G : gG) (V : gV)    (hs : PX9_readsWord V) : Met l yX9_readsWord wc_X9_readsWord r_X9_readsWord (va_Pc [.ref (gA G 213)] (gW G V)) (gQI G (MX9_readsWord V)) 0 0 (gF G) := by
  refine Met.ofW (cc := cX9_readsWord) (maxL := 2) (ret := (some .boolean)) (by decide) rfl ?_
  intro p e s m args below meth c s₁ B hml hv
  obtain ⟨rfl, hP, hT⟩ := hv
  have hx := B.exec
  have hb := B.bytes
  have hr := B.returns
  have hw := gh_hw (atoms_spec (ws := wc_X9_readsWord) B.pre)
  have hown : s.vm.findClass RX9 = some m.cls := findClass_of_methodNamed B.named
  have hlocks := B.notSynchronized
  have hS : va_S (gF G) s.heap s.heap [] := va_S.rf
  have hl := lv_entry ([.ref (gA G 213)]) (n := 2) (Nat.le_of_ble_eq_true rfl)
  rw [lg_entry_eq]
  generalize (lg_sl ([.ref (gA G 213)]) ++ List.replicate (2 - (lg_sl ([.ref (gA G 213)])).length) Slot.unset).toArray = ls at hl ⊢
  have hl : lv_has ls 2 [(0, .ref (gA G 213))] := hl
  obtain ⟨res, hres⟩ : ∃ r, r = MX9_readsWord V := ⟨_, rfl⟩
  rw [← hres]
  show W p l e r_X9_readsWord s m ([.ref (gA G 213)] : List Value).toArray below meth c s.heap [] 0 0 (MQ below (gQI G res) ([.ref (gA G 213)] : List Value).toArray s 0 0 (gF G)) (F0 m 0 ls [])
  have hs : (((V 213 9) = (16 : Int32) → (PX9_isAt (97 : Int32) (122 : Int32) V) ∧ (((MX9_isAt (97 : Int32) (122 : Int32) V) = 0 → (PX9_readsWord_31 (1 : Int32) V)) ∧ (¬ (MX9_isAt (97 : Int32) (122 : Int32) V) = 0 → (PX9_readsWord_31 (4 : Int32) V)))) ∧ (¬ (V 213 9) = (16 : Int32) → (PX9_readsLetters V) ∧ (PX9_readsWord_39 (V 213 7) ((MX9_readsLetters V).1) ((MX9_readsLetters V).2)))) := hs
  have hres : res = (if (V 213 9) = (16 : Int32) then (if (MX9_isAt (97 : Int32) (122 : Int32) V) = 0 then (BX9_readsWord_31 (1 : Int32) V) else (BX9_readsWord_31 (4 : Int32) V)) else (BX9_readsWord_39 (V 213 7) ((MX9_readsLetters V).1) ((MX9_readsLetters V).2))) := hres
  have b_112 : ∀  (V : gV) (H : Heap) (locs : List Loc) (ls : Array Slot), lv_has ls 2 [(0, .ref (gA G 213))] → va_P (gD G) vwCl (gL G V) H → va_S (gF G) s.heap H locs → PX9_readsWord_112   V → res = BX9_readsWord_112   V → W p l e r_X9_readsWord s m ([.ref (gA G 213)] : List Value).toArray below meth c H locs 0 0 (MQ below (gQI G res) ([.ref (gA G 213)] : List Value).toArray s 0 0 (gF G)) (F0 m 112 ls []) := by
    intro  V H locs ls hl hP hS hs hres
    have hs : (gZ (MX9_fails (3 : Int32) V).1) := hs
    have hres : res = (((MX9_fails (3 : Int32) V).1, (MX9_fails (3 : Int32) V).2)) := hres
    refine lv_aload_n hx hb dX9_readsWord_112 rfl (lv_at hl 0 rfl) ?_
    refine lv_iconst (v := 3) hx hb dX9_readsWord_113 (by decide) ?_
    refine gh_ki (va_runV (As := [.int (3 : Int32)]) (rest := []) ⟨hx, hb, hml, hown, hw⟩ (cc_X9_fails l G V (3 : Int32)) (cwV 1 hw gv_RX9_143 rfl rfl rfl dd_X9_fails ⟨Nat.le_of_ble_eq_true rfl, Nat.le_of_ble_eq_true rfl⟩) (gh_preV hT hP (Nat.le_of_ble_eq_true rfl) kd213 rfl rfl) rfl rfl hl.1 rfl (lv_room (Nat.le_of_ble_eq_true rfl)) dX9_readsWord_114 ⟨Nat.zero_le _, Nat.zero_le _⟩) hS (fun H locs hP hS => ?_)
    have ho_14 := hs
    exact gh_zret hx hb hr ho_14.n hlocks hP hS hT hres dX9_readsWord_117
  have b_91 : ∀ (x1 : Int32) (s0 : Int32) (V : gV) (H : Heap) (locs : List Loc) (ls : Array Slot), lv_has ls 2 [(0, .ref (gA G 213)), (1, .int x1)] → va_P (gD G) vwCl (gL G V) H → va_S (gF G) s.heap H locs → PX9_readsWord_91  x1 s0 V → res = BX9_readsWord_91  x1 s0 V → W p l e r_X9_readsWord s m ([.ref (gA G 213)] : List Value).toArray below meth c H locs 0 0 (MQ below (gQI G res) ([.ref (gA G 213)] : List Value).toArray s 0 0 (gF G)) (F0 m 91 ls [.int s0]) := by
    intro x1 s0 V H locs ls hl hP hS hs hres
    have hs : ((s0 = 0 → (gZ (MX9_fails (1 : Int32) V).1)) ∧ (¬ s0 = 0 → (PX9_isDouble V) ∧ ((¬ (MX9_isDouble V) = 0 → (PX9_readsWord_112 (gu V 213 7 x1)))))) := hs
    have hres : res = (if s0 = 0 then (((MX9_fails (1 : Int32) V).1, (MX9_fails (1 : Int32) V).2)) else (if (MX9_isDouble V) = 0 then (((1 : Int32), (gu V 213 9 ((V 213 9) + (1 : Int32))))) else (BX9_readsWord_112 (gu V 213 7 x1)))) := hres
    refine lv_if_ne (tgt := 100) hx hb dX9_readsWord_91 (by decide) (fun c_11 => ?_) (fun c_11 => ?_)
    · have hres := hres.trans (if_neg c_11)
      have hs := hs.2 c_11
      refine lv_aload_n hx hb dX9_readsWord_100 rfl (lv_at hl 0 rfl) ?_
      obtain ⟨ho_12, hs⟩ := hs
      refine gh_kr (va_runV (As := []) (rest := []) ⟨hx, hb, hml, hown, hw⟩ (cc_X9_isDouble l G V ho_12) (cwV 0 hw gv_RX9_155 rfl rfl rfl dd_X9_isDouble ⟨Nat.le_of_ble_eq_true rfl, Nat.le_of_ble_eq_true rfl⟩) (gh_preV hT hP (Nat.le_of_ble_eq_true rfl) kd213 rfl rfl) rfl rfl hl.1 rfl (lv_room (Nat.le_of_ble_eq_true rfl)) dX9_readsWord_101 ⟨Nat.zero_le _, Nat.zero_le _⟩) hS (fun H locs hP hS => ?_)
      refine lv_if_eq (tgt := 118) hx hb dX9_readsWord_104 (by decide) (fun c_13 => ?_) (fun c_13 => ?_)
      · have hres := hres.trans (if_pos c_13)
        refine lv_aload_n hx hb dX9_readsWord_118 rfl (lv_at hl 0 rfl) ?_
        refine lv_dup hx hb dX9_readsWord_119 rfl ?_
        refine gh_get (v := .int (V 213 9)) (C := RX9) (T := TX9) (N := 11) hx hb hw inlX9 hown hT hP 213 (Nat.le_of_ble_eq_true rfl) kd213 rfl rfl 9 (by decide) (hw _ uw827) rfl dX9_readsWord_120 ?_
        refine lv_iconst (v := 1) hx hb dX9_readsWord_123 (by decide) ?_
        refine lv_iadd hx hb dX9_readsWord_124 ?_
        refine gh_put (ty := .int) (x := ((V 213 9) + (1 : Int32))) (C := RX9) (T := TX9) (N := 11) hx hb hw inlX9 tyX9_ok nmX9 hown hT hP hS 213 (Nat.le_of_ble_eq_true rfl) kd213 rfl rfl 9 (by decide) (hw _ uw827) rfl (by decide +kernel) rfl rfl (Nat.le_of_ble_eq_true rfl) rfl dX9_readsWord_125 (fun H locs hP hS => ?_)
        refine lv_iconst (v := 1) hx hb dX9_readsWord_128 (by decide) ?_
        exact gh_zret hx hb hr rfl hlocks hP hS hT hres dX9_readsWord_129
      have hres := hres.trans (if_neg c_13)
      have hs := hs c_13
      refine lv_aload_n hx hb dX9_readsWord_107 rfl (lv_at hl 0 rfl) ?_
      refine lv_iload_n hx hb dX9_readsWord_108 rfl (lv_at hl 1 rfl) ?_
      refine gh_put (ty := .int) (x := x1) (C := RX9) (T := TX9) (N := 11) hx hb hw inlX9 tyX9_ok nmX9 hown hT hP hS 213 (Nat.le_of_ble_eq_true rfl) kd213 rfl rfl 7 (by decide) (hw _ uw821) rfl (by decide +kernel) rfl rfl (Nat.le_of_ble_eq_true rfl) rfl dX9_readsWord_109 (fun H locs hP hS => ?_)
      exact b_112 (gu V 213 7 x1) _ _ _ (lv_sub hl [0] rfl) hP hS hs hres
    have hres := hres.trans (if_pos c_11)
    have hs := hs.1 c_11
    refine lv_aload_n hx hb dX9_readsWord_94 rfl (lv_at hl 0 rfl) ?_
    refine lv_iconst (v := 1) hx hb dX9_readsWord_95 (by decide) ?_
    refine gh_ki (va_runV (As := [.int (1 : Int32)]) (rest := []) ⟨hx, hb, hml, hown, hw⟩ (cc_X9_fails l G V (1 : Int32)) (cwV 1 hw gv_RX9_143 rfl rfl rfl dd_X9_fails ⟨Nat.le_of_ble_eq_true rfl, Nat.le_of_ble_eq_true rfl⟩) (gh_preV hT hP (Nat.le_of_ble_eq_true rfl) kd213 rfl rfl) rfl rfl hl.1 rfl (lv_room (Nat.le_of_ble_eq_true rfl)) dX9_readsWord_96 ⟨Nat.zero_le _, Nat.zero_le _⟩) hS (fun H locs hP hS => ?_)
    have ho_15 := hs
    exact gh_zret hx hb hr ho_15.n hlocks hP hS hT hres dX9_readsWord_99
  have b_80 : ∀ (x1 : Int32) (s0 : Int32) (V : gV) (H : Heap) (locs : List Loc) (ls : Array Slot), lv_has ls 2 [(0, .ref (gA G 213)), (1, .int x1)] → va_P (gD G) vwCl (gL G V) H → va_S (gF G) s.heap H locs → PX9_readsWord_80  x1 s0 V → res = BX9_readsWord_80  x1 s0 V → W p l e r_X9_readsWord s m ([.ref (gA G 213)] : List Value).toArray below meth c H locs 0 0 (MQ below (gQI G res) ([.ref (gA G 213)] : List Value).toArray s 0 0 (gF G)) (F0 m 80 ls [.int s0]) := by
    intro x1 s0 V H locs ls hl hP hS hs hres
    have hs : ((¬ s0 = 0 → (PX9_sign (59 : Int32) V) ∧ (PX9_readsWord_91 x1 ((MX9_sign (59 : Int32) V).1) ((MX9_sign (59 : Int32) V).2)))) := hs
    have hres : res = (if s0 = 0 then (((0 : Int32), V)) else (BX9_readsWord_91 x1 ((MX9_sign (59 : Int32) V).1) ((MX9_sign (59 : Int32) V).2))) := hres
    refine lv_if_ne (tgt := 85) hx hb dX9_readsWord_80 (by decide) (fun c_9 => ?_) (fun c_9 => ?_)
    · have hres := hres.trans (if_neg c_9)
      have hs := hs c_9
      refine lv_aload_n hx hb dX9_readsWord_85 rfl (lv_at hl 0 rfl) ?_
      refine lv_bipush (v := 59) hx hb dX9_readsWord_86 (by decide) ?_
      obtain ⟨ho_10, hs⟩ := hs
      refine gh_ki (va_runV (As := [.int (59 : Int32)]) (rest := []) ⟨hx, hb, hml, hown, hw⟩ (cc_X9_sign l G V (59 : Int32) ho_10) (cwV 1 hw gv_RX9_149 rfl rfl rfl dd_X9_sign ⟨Nat.le_of_ble_eq_true rfl, Nat.le_of_ble_eq_true rfl⟩) (gh_preV hT hP (Nat.le_of_ble_eq_true rfl) kd213 rfl rfl) rfl rfl hl.1 rfl (lv_room (Nat.le_of_ble_eq_true rfl)) dX9_readsWord_88 ⟨Nat.zero_le _, Nat.zero_le _⟩) hS (fun H locs hP hS => ?_)
      exact b_91 x1 ((MX9_sign (59 : Int32) V).1) ((MX9_sign (59 : Int32) V).2) _ _ _ (lv_sub hl [0, 1] rfl) hP hS hs hres
    have hres := hres.trans (if_pos c_9)
    refine lv_iconst (v := 0) hx hb dX9_readsWord_83 (by decide) ?_
    exact gh_zret hx hb hr rfl hlocks hP hS hT hres dX9_readsWord_84
  have b_67 : ∀ (x1 : Int32) (s0 : Int32) (V : gV) (H : Heap) (locs : List Loc) (ls : Array Slot), lv_has ls 2 [(0, .ref (gA G 213)), (1, .int x1)] → va_P (gD G) vwCl (gL G V) H → va_S (gF G) s.heap H locs → PX9_readsWord_67  x1 s0 V → res = BX9_readsWord_67  x1 s0 V → W p l e r_X9_readsWord s m ([.ref (gA G 213)] : List Value).toArray below meth c H locs 0 0 (MQ below (gQI G res) ([.ref (gA G 213)] : List Value).toArray s 0 0 (gF G)) (F0 m 67 ls [.int s0]) := by
    intro x1 s0 V H locs ls hl hP hS hs hres
    have hs : ((s0 = 0 → (gZ (MX9_fails (1 : Int32) V).1)) ∧ (¬ s0 = 0 → (PX9_readsWeight V) ∧ (PX9_readsWord_80 x1 ((MX9_readsWeight V).1) ((MX9_readsWeight V).2)))) := hs
    have hres : res = (if s0 = 0 then (((MX9_fails (1 : Int32) V).1, (MX9_fails (1 : Int32) V).2)) else (BX9_readsWord_80 x1 ((MX9_readsWeight V).1) ((MX9_readsWeight V).2))) := hres
    refine lv_if_ne (tgt := 76) hx hb dX9_readsWord_67 (by decide) (fun c_7 => ?_) (fun c_7 => ?_)
    · have hres := hres.trans (if_neg c_7)
      have hs := hs.2 c_7
      refine lv_aload_n hx hb dX9_readsWord_76 rfl (lv_at hl 0 rfl) ?_
      obtain ⟨ho_8, hs⟩ := hs
      refine gh_ki (va_runV (As := []) (rest := []) ⟨hx, hb, hml, hown, hw⟩ (cc_X9_readsWeight l G V ho_8) (cwV 0 hw gv_RX9_152 rfl rfl rfl dd_X9_readsWeight ⟨Nat.le_of_ble_eq_true rfl, Nat.le_of_ble_eq_true rfl⟩) (gh_preV hT hP (Nat.le_of_ble_eq_true rfl) kd213 rfl rfl) rfl rfl hl.1 rfl (lv_room (Nat.le_of_ble_eq_true rfl)) dX9_readsWord_77 ⟨Nat.zero_le _, Nat.zero_le _⟩) hS (fun H locs hP hS => ?_)
      exact b_80 x1 ((MX9_readsWeight V).1) ((MX9_readsWeight V).2) _ _ _ (lv_sub hl [0, 1] rfl) hP hS hs hres
    have hres := hres.trans (if_pos c_7)
    have hs := hs.1 c_7
    refine lv_aload_n hx hb dX9_readsWord_70 rfl (lv_at hl 0 rfl) ?_
    refine lv_iconst (v := 1) hx hb dX9_readsWord_71 (by decide) ?_
    refine gh_ki (va_runV (As := [.int (1 : Int32)]) (rest := []) ⟨hx, hb, hml, hown, hw⟩ (cc_X9_fails l G V (1 : Int32)) (cwV 1 hw gv_RX9_143 rfl rfl rfl dd_X9_fails ⟨Nat.le_of_ble_eq_true rfl, Nat.le_of_ble_eq_true rfl⟩) (gh_preV hT hP (Nat.le_of_ble_eq_true rfl) kd213 rfl rfl) rfl rfl hl.1 rfl (lv_room (Nat.le_of_ble_eq_true rfl)) dX9_readsWord_72 ⟨Nat.zero_le _, Nat.zero_le _⟩) hS (fun H locs hP hS => ?_)
    have ho_16 := hs
    exact gh_zret hx hb hr ho_16.n hlocks hP hS hT hres dX9_readsWord_75
  have b_39 : ∀ (x1 : Int32) (s0 : Int32) (V : gV) (H : Heap) (locs : List Loc) (ls : Array Slot), lv_has ls 2 [(0, .ref (gA G 213)), (1, .int x1)] → va_P (gD G) vwCl (gL G V) H → va_S (gF G) s.heap H locs → PX9_readsWord_39  x1 s0 V → res = BX9_readsWord_39  x1 s0 V → W p l e r_X9_readsWord s m ([.ref (gA G 213)] : List Value).toArray below meth c H locs 0 0 (MQ below (gQI G res) ([.ref (gA G 213)] : List Value).toArray s 0 0 (gF G)) (F0 m 39 ls [.int s0]) := by
    intro x1 s0 V H locs ls hl hP hS hs hres
    have hs : ((¬ s0 = 0 → (PX9_isAt (97 : Int32) (122 : Int32) V) ∧ (((MX9_isAt (97 : Int32) (122 : Int32) V) = 0 → (PX9_sign (42 : Int32) V) ∧ (PX9_readsWord_67 x1 ((MX9_sign (42 : Int32) V).1) ((MX9_sign (42 : Int32) V).2))) ∧ (¬ (MX9_isAt (97 : Int32) (122 : Int32) V) = 0 → (gZ (MX9_fails (2 : Int32) V).1))))) := hs
    have hres : res = (if s0 = 0 then (((0 : Int32), V)) else (if (MX9_isAt (97 : Int32) (122 : Int32) V) = 0 then (BX9_readsWord_67 x1 ((MX9_sign (42 : Int32) V).1) ((MX9_sign (42 : Int32) V).2)) else (((MX9_fails (2 : Int32) V).1, (MX9_fails (2 : Int32) V).2)))) := hres
    refine lv_if_ne (tgt := 44) hx hb dX9_readsWord_39 (by decide) (fun c_3 => ?_) (fun c_3 => ?_)
    · have hres := hres.trans (if_neg c_3)
      have hs := hs c_3
      refine lv_aload_n hx hb dX9_readsWord_44 rfl (lv_at hl 0 rfl) ?_
      refine lv_bipush (v := 97) hx hb dX9_readsWord_45 (by decide) ?_
      refine lv_bipush (v := 122) hx hb dX9_readsWord_47 (by decide) ?_
      obtain ⟨ho_4, hs⟩ := hs
      refine gh_kr (va_runV (As := [.int (97 : Int32), .int (122 : Int32)]) (rest := []) ⟨hx, hb, hml, hown, hw⟩ (cc_X9_isAt l G V (97 : Int32) (122 : Int32) ho_4) (cwV 2 hw gv_RX9_133 rfl rfl rfl dd_X9_isAt ⟨Nat.le_of_ble_eq_true rfl, Nat.le_of_ble_eq_true rfl⟩) (gh_preV hT hP (Nat.le_of_ble_eq_true rfl) kd213 rfl rfl) rfl rfl hl.1 rfl (lv_room (Nat.le_of_ble_eq_true rfl)) dX9_readsWord_49 ⟨Nat.zero_le _, Nat.zero_le _⟩) hS (fun H locs hP hS => ?_)
      refine lv_if_eq (tgt := 61) hx hb dX9_readsWord_52 (by decide) (fun c_5 => ?_) (fun c_5 => ?_)
      · have hres := hres.trans (if_pos c_5)
        have hs := hs.1 c_5
        refine lv_aload_n hx hb dX9_readsWord_61 rfl (lv_at hl 0 rfl) ?_
        refine lv_bipush (v := 42) hx hb dX9_readsWord_62 (by decide) ?_
        obtain ⟨ho_6, hs⟩ := hs
        refine gh_ki (va_runV (As := [.int (42 : Int32)]) (rest := []) ⟨hx, hb, hml, hown, hw⟩ (cc_X9_sign l G V (42 : Int32) ho_6) (cwV 1 hw gv_RX9_149 rfl rfl rfl dd_X9_sign ⟨Nat.le_of_ble_eq_true rfl, Nat.le_of_ble_eq_true rfl⟩) (gh_preV hT hP (Nat.le_of_ble_eq_true rfl) kd213 rfl rfl) rfl rfl hl.1 rfl (lv_room (Nat.le_of_ble_eq_true rfl)) dX9_readsWord_64 ⟨Nat.zero_le _, Nat.zero_le _⟩) hS (fun H locs hP hS => ?_)
        exact b_67 x1 ((MX9_sign (42 : Int32) V).1) ((MX9_sign (42 : Int32) V).2) _ _ _ (lv_sub hl [0, 1] rfl) hP hS hs hres
      have hres := hres.trans (if_neg c_5)
      have hs := hs.2 c_5
      refine lv_aload_n hx hb dX9_readsWord_55 rfl (lv_at hl 0 rfl) ?_
      refine lv_iconst (v := 2) hx hb dX9_readsWord_56 (by decide) ?_
      refine gh_ki (va_runV (As := [.int (2 : Int32)]) (rest := []) ⟨hx, hb, hml, hown, hw⟩ (cc_X9_fails l G V (2 : Int32)) (cwV 1 hw gv_RX9_143 rfl rfl rfl dd_X9_fails ⟨Nat.le_of_ble_eq_true rfl, Nat.le_of_ble_eq_true rfl⟩) (gh_preV hT hP (Nat.le_of_ble_eq_true rfl) kd213 rfl rfl) rfl rfl hl.1 rfl (lv_room (Nat.le_of_ble_eq_true rfl)) dX9_readsWord_57 ⟨Nat.zero_le _, Nat.zero_le _⟩) hS (fun H locs hP hS => ?_)
      have ho_17 := hs
      exact gh_zret hx hb hr ho_17.n hlocks hP hS hT hres dX9_readsWord_60
    have hres := hres.trans (if_pos c_3)
    refine lv_iconst (v := 0) hx hb dX9_readsWord_42 (by decide) ?_
    exact gh_zret hx hb hr rfl hlocks hP hS hT hres dX9_readsWord_43
  have b_31 : ∀ (s0 : Int32) (V : gV) (H : Heap) (locs : List Loc) (ls : Array Slot), lv_has ls 2 [] → va_P (gD G) vwCl (gL G V) H → va_S (gF G) s.heap H locs → PX9_readsWord_31  s0 V → res = BX9_readsWord_31  s0 V → W p l e r_X9_readsWord s m ([.ref (gA G 213)] : List Value).toArray below meth c H locs 0 0 (MQ below (gQI G res) ([.ref (gA G 213)] : List Value).toArray s 0 0 (gF G)) (F0 m 31 ls [.int s0, .ref (gA G 213)]) := by
    intro s0 V H locs ls hl hP hS hs hres
    have hs : (gZ (MX9_fails s0 V).1) := hs
    have hres : res = (((MX9_fails s0 V).1, (MX9_fails s0 V).2)) := hres
    refine gh_ki (va_runV (As := [.int s0]) (rest := []) ⟨hx, hb, hml, hown, hw⟩ (cc_X9_fails l G V s0) (cwV 1 hw gv_RX9_143 rfl rfl rfl dd_X9_fails ⟨Nat.le_of_ble_eq_true rfl, Nat.le_of_ble_eq_true rfl⟩) (gh_preV hT hP (Nat.le_of_ble_eq_true rfl) kd213 rfl rfl) rfl rfl hl.1 rfl (lv_room (Nat.le_of_ble_eq_true rfl)) dX9_readsWord_31 ⟨Nat.zero_le _, Nat.zero_le _⟩) hS (fun H locs hP hS => ?_)
    have ho_20 := hs
    exact gh_zret hx hb hr ho_20.n hlocks hP hS hT hres dX9_readsWord_34
  refine lv_aload_n hx hb dX9_readsWord_0 rfl (lv_at hl 0 rfl) ?_
  refine gh_get (v := .int (V 213 7)) (C := RX9) (T := TX9) (N := 11) hx hb hw inlX9 hown hT hP 213 (Nat.le_of_ble_eq_true rfl) kd213 rfl rfl 7 (by decide) (hw _ uw821) rfl dX9_readsWord_1 ?_
  refine lv_istore_n (lv' := [(1, .int (V 213 7)), (0, .ref (gA G 213))]) hx hb dX9_readsWord_4 rfl hl (by decide) rfl (fun ls hl => ?_)
  refine lv_aload_n hx hb dX9_readsWord_5 rfl (lv_at hl 1 rfl) ?_
  refine gh_get (v := .int (V 213 9)) (C := RX9) (T := TX9) (N := 11) hx hb hw inlX9 hown hT hP 213 (Nat.le_of_ble_eq_true rfl) kd213 rfl rfl 9 (by decide) (hw _ uw827) rfl dX9_readsWord_6 ?_
  refine lv_bipush (v := 16) hx hb dX9_readsWord_9 (by decide) ?_
  refine lv_icmp_ne (tgt := 35) hx hb dX9_readsWord_11 (by decide) (fun c_1 => ?_) (fun c_1 => ?_)
  · have hres := hres.trans (if_neg c_1)
    have hs := hs.2 c_1
    refine lv_aload_n hx hb dX9_readsWord_35 rfl (lv_at hl 1 rfl) ?_
    obtain ⟨ho_2, hs⟩ := hs
    refine gh_ki (va_runV (As := []) (rest := []) ⟨hx, hb, hml, hown, hw⟩ (cc_X9_readsLetters l G V ho_2) (cwV 0 hw gv_RX9_146 rfl rfl rfl dd_X9_readsLetters ⟨Nat.le_of_ble_eq_true rfl, Nat.le_of_ble_eq_true rfl⟩) (gh_preV hT hP (Nat.le_of_ble_eq_true rfl) kd213 rfl rfl) rfl rfl hl.1 rfl (lv_room (Nat.le_of_ble_eq_true rfl)) dX9_readsWord_36 ⟨Nat.zero_le _, Nat.zero_le _⟩) hS (fun H locs hP hS => ?_)
    exact b_39 (V 213 7) ((MX9_readsLetters V).1) ((MX9_readsLetters V).2) _ _ _ (lv_sub hl [1, 0] rfl) hP hS hs hres
  have hres := hres.trans (if_pos c_1)
  have hs := hs.1 c_1
  refine lv_aload_n hx hb dX9_readsWord_14 rfl (lv_at hl 1 rfl) ?_
  refine lv_aload_n hx hb dX9_readsWord_15 rfl (lv_at hl 1 rfl) ?_
  refine lv_bipush (v := 97) hx hb dX9_readsWord_16 (by decide) ?_
  refine lv_bipush (v := 122) hx hb dX9_readsWord_18 (by decide) ?_
  obtain ⟨ho_18, hs⟩ := hs
  refine gh_kr (va_runV (As := [.int (97 : Int32), .int (122 : Int32)]) (rest := [.ref (gA G 213)]) ⟨hx, hb, hml, hown, hw⟩ (cc_X9_isAt l G V (97 : Int32) (122 : Int32) ho_18) (cwV 2 hw gv_RX9_133 rfl rfl rfl dd_X9_isAt ⟨Nat.le_of_ble_eq_true rfl, Nat.le_of_ble_eq_true rfl⟩) (gh_preV hT hP (Nat.le_of_ble_eq_true rfl) kd213 rfl rfl) rfl rfl hl.1 rfl (lv_room (Nat.le_of_ble_eq_true rfl)) dX9_readsWord_20 ⟨Nat.zero_le _, Nat.zero_le _⟩) hS (fun H locs hP hS => ?_)
  refine lv_if_eq (tgt := 30) hx hb dX9_readsWord_23 (by decide) (fun c_19 => ?_) (fun c_19 => ?_)
  · have hres := hres.trans (if_pos c_19)
    have hs := hs.1 c_19
    refine lv_iconst (v := 1) hx hb dX9_readsWord_30 (by decide) ?_
    exact b_31 (1 : Int32) V _ _ _ (lv_sub hl [] rfl) hP hS hs hres
  have hres := hres.trans (if_neg c_19)
  have hs := hs.2 c_19
  refine lv_iconst (v := 4) hx hb dX9_readsWord_26 (by decide) ?_
  refine lv_goto (tgt := 31) hx hb dX9_readsWord_27 (by decide) ?_
  exact b_31 (4 : Int32) V _ _ _ (lv_sub hl [] rfl) hP hS hs hres
theorem gv_RX9_158 : GoodIn wsL_law (wsV RX9 158 RX9 yX9_readsWord wc_X9_readsWord) := gh_gV uw828 uw829 uw830 uw5 uw831
def BX9_isRight_34  (K15 : Int32 → gV → Int32 × gV) (s0 : Int32) (V : gV) : Int32 × gV := K15 s0 V
def PX9_isRight_34  (KP15 : Int32 → gV → Prop) (s0 : Int32) (V : gV) : Prop := (KP15 s0 V)
def BX9_isRight_15   : Nat → Int32 → gV → Int32 × gV
  | 0, _, V => (0, V)
  | n + 1, x1, V => if x1 = 0 then ((x1, V)) else (if (V 213 6) ≤ (V 213 7) then ((x1, V)) else (BX9_isRight_34 (BX9_isRight_15 n) ((MX9_readsWord V).1) ((MX9_readsWord V).2)))
def PX9_isRight_15   : Nat → Int32 → gV → Prop
  | 0, _, _ => False
  | n + 1, x1, V => ((x1 = 0 → (gZ x1)) ∧ (¬ x1 = 0 → (((V 213 6) ≤ (V 213 7) → (gZ x1)) ∧ (¬ (V 213 6) ≤ (V 213 7) → (PX9_readsWord V) ∧ (PX9_isRight_34 (PX9_isRight_15 n) ((MX9_readsWord V).1) ((MX9_readsWord V).2))))))
def BX9_isRight_14   (s0 : Int32) (V : gV) : Int32 × gV := BX9_isRight_15 1000 s0 V
def PX9_isRight_14   (s0 : Int32) (V : gV) : Prop := (PX9_isRight_15 1000 s0 V)
def BX9_isRight_10    (V : gV) : Int32 × gV := BX9_isRight_14 ((MX9_readsWord V).1) ((MX9_readsWord V).2)
def PX9_isRight_10    (V : gV) : Prop := (PX9_readsWord V) ∧ (PX9_isRight_14 ((MX9_readsWord V).1) ((MX9_readsWord V).2))
def BX9_isRight_5    (V : gV) : Int32 × gV := BX9_isRight_10 (gu V 213 9 (0 : Int32))
def PX9_isRight_5    (V : gV) : Prop := (PX9_isRight_10 (gu V 213 9 (0 : Int32)))
def MX9_isRight   (V : gV) : Int32 × gV := BX9_isRight_5 (gu V 213 7 (0 : Int32))
def PX9_isRight   (V : gV) : Prop := (PX9_isRight_5 (gu V 213 7 (0 : Int32)))
abbrev wc_X9_isRight : List Cond := Cond.code yX9_isRight cX9_isRight 2 (some .boolean) :: wsL_law
abbrev r_X9_isRight : Room := { frames := 4, cells := 0, slots := 0, locals := 87 }
theorem dd_X9_isRight : yX9_isRight.cls = RX9 ∧ yX9_isRight.cls ≠ "java/lang/invoke/MethodHandle" ∧ yX9_isRight.cls ≠ "java/lang/invoke/VarHandle" ∧ (parseMethodDescriptor yX9_isRight.desc).map (fun d => d.parameters.length) = some 0 := by decide +kernel
set_option maxHeartbeats 8000000 in
set_option maxRecDepth 100000 in
theorem cc_X9_isRight (l : Launch) (G : gG) (V : gV)    (hs : PX9_isRight V) : Met l yX9_isRight wc_X9_isRight r_X9_isRight (va_Pc [.ref (gA G 213)] (gW G V)) (gQI G (MX9_isRight V)) 0 0 (gF G) := by
  refine Met.ofW (cc := cX9_isRight) (maxL := 2) (ret := (some .boolean)) (by decide) rfl ?_
  intro p e s m args below meth c s₁ B hml hv
  obtain ⟨rfl, hP, hT⟩ := hv
  have hx := B.exec
  have hb := B.bytes
  have hr := B.returns
  have hw := gh_hw (atoms_spec (ws := wc_X9_isRight) B.pre)
  have hown : s.vm.findClass RX9 = some m.cls := findClass_of_methodNamed B.named
  have hlocks := B.notSynchronized
  have hS : va_S (gF G) s.heap s.heap [] := va_S.rf
  have hl := lv_entry ([.ref (gA G 213)]) (n := 2) (Nat.le_of_ble_eq_true rfl)
  rw [lg_entry_eq]
  generalize (lg_sl ([.ref (gA G 213)]) ++ List.replicate (2 - (lg_sl ([.ref (gA G 213)])).length) Slot.unset).toArray = ls at hl ⊢
  have hl : lv_has ls 2 [(0, .ref (gA G 213))] := hl
  obtain ⟨res, hres⟩ : ∃ r, r = MX9_isRight V := ⟨_, rfl⟩
  rw [← hres]
  show W p l e r_X9_isRight s m ([.ref (gA G 213)] : List Value).toArray below meth c s.heap [] 0 0 (MQ below (gQI G res) ([.ref (gA G 213)] : List Value).toArray s 0 0 (gF G)) (F0 m 0 ls [])
  have hs : (PX9_isRight_5 (gu V 213 7 (0 : Int32))) := hs
  have hres : res = (BX9_isRight_5 (gu V 213 7 (0 : Int32))) := hres
  have b_15 : ∀ (n : Nat) (x1 : Int32) (V : gV) (H : Heap) (locs : List Loc) (ls : Array Slot), lv_has ls 2 [(0, .ref (gA G 213)), (1, .int x1)] → va_P (gD G) vwCl (gL G V) H → va_S (gF G) s.heap H locs → PX9_isRight_15  n x1 V → res = BX9_isRight_15  n x1 V → W p l e r_X9_isRight s m ([.ref (gA G 213)] : List Value).toArray below meth c H locs 0 0 (MQ below (gQI G res) ([.ref (gA G 213)] : List Value).toArray s 0 0 (gF G)) (F0 m 15 ls []) := by
    intro n
    induction n with
    | zero =>
      intro x1 V H locs ls hl hP hS hs hres
      exact (show False from hs).elim
    | succ n15 ih15 =>
      have b_34 : ∀ (s0 : Int32) (V : gV) (H : Heap) (locs : List Loc) (ls : Array Slot), lv_has ls 2 [(0, .ref (gA G 213))] → va_P (gD G) vwCl (gL G V) H → va_S (gF G) s.heap H locs → PX9_isRight_34 (PX9_isRight_15 n15) s0 V → res = BX9_isRight_34 (BX9_isRight_15 n15) s0 V → W p l e r_X9_isRight s m ([.ref (gA G 213)] : List Value).toArray below meth c H locs 0 0 (MQ below (gQI G res) ([.ref (gA G 213)] : List Value).toArray s 0 0 (gF G)) (F0 m 34 ls [.int s0]) := by
        intro s0 V H locs ls hl hP hS hs hres
        have hs : ((PX9_isRight_15 n15) s0 V) := hs
        have hres : res = ((BX9_isRight_15 n15) s0 V) := hres
        refine lv_istore_n (lv' := [(1, .int s0), (0, .ref (gA G 213))]) hx hb dX9_isRight_34 rfl hl (by decide) rfl (fun ls hl => ?_)
        refine lv_goto (tgt := 15) hx hb dX9_isRight_35 (by decide) ?_
        exact ih15 s0 V _ _ _ (lv_sub hl [1, 0] rfl) hP hS hs hres
      intro x1 V H locs ls hl hP hS hs hres
      have hs : ((x1 = 0 → (gZ x1)) ∧ (¬ x1 = 0 → (((V 213 6) ≤ (V 213 7) → (gZ x1)) ∧ (¬ (V 213 6) ≤ (V 213 7) → (PX9_readsWord V) ∧ (PX9_isRight_34 (PX9_isRight_15 n15) ((MX9_readsWord V).1) ((MX9_readsWord V).2)))))) := hs
      have hres : res = (if x1 = 0 then ((x1, V)) else (if (V 213 6) ≤ (V 213 7) then ((x1, V)) else (BX9_isRight_34 (BX9_isRight_15 n15) ((MX9_readsWord V).1) ((MX9_readsWord V).2)))) := hres
      refine lv_iload_n hx hb dX9_isRight_15 rfl (lv_at hl 1 rfl) ?_
      refine lv_if_eq (tgt := 38) hx hb dX9_isRight_16 (by decide) (fun c_2 => ?_) (fun c_2 => ?_)
      · have hres := hres.trans (if_pos c_2)
        have hs := hs.1 c_2
        refine lv_iload_n hx hb dX9_isRight_38 rfl (lv_at hl 1 rfl) ?_
        have ho_3 := hs
        exact gh_zret hx hb hr ho_3.n hlocks hP hS hT hres dX9_isRight_39
      have hres := hres.trans (if_neg c_2)
      have hs := hs.2 c_2
      refine lv_aload_n hx hb dX9_isRight_19 rfl (lv_at hl 0 rfl) ?_
      refine gh_get (v := .int (V 213 7)) (C := RX9) (T := TX9) (N := 11) hx hb hw inlX9 hown hT hP 213 (Nat.le_of_ble_eq_true rfl) kd213 rfl rfl 7 (by decide) (hw _ uw821) rfl dX9_isRight_20 ?_
      refine lv_aload_n hx hb dX9_isRight_23 rfl (lv_at hl 0 rfl) ?_
      refine gh_get (v := .int (V 213 6)) (C := RX9) (T := TX9) (N := 11) hx hb hw inlX9 hown hT hP 213 (Nat.le_of_ble_eq_true rfl) kd213 rfl rfl 6 (by decide) (hw _ uw606) rfl dX9_isRight_24 ?_
      refine lv_icmp_ge (tgt := 38) hx hb dX9_isRight_27 (by decide) (fun c_4 => ?_) (fun c_4 => ?_)
      · have hres := hres.trans (if_pos c_4)
        have hs := hs.1 c_4
        refine lv_iload_n hx hb dX9_isRight_38 rfl (lv_at hl 1 rfl) ?_
        have ho_5 := hs
        exact gh_zret hx hb hr ho_5.n hlocks hP hS hT hres dX9_isRight_39
      have hres := hres.trans (if_neg c_4)
      have hs := hs.2 c_4
      refine lv_aload_n hx hb dX9_isRight_30 rfl (lv_at hl 0 rfl) ?_
      obtain ⟨ho_6, hs⟩ := hs
      refine gh_ki (va_runV (As := []) (rest := []) ⟨hx, hb, hml, hown, hw⟩ (cc_X9_readsWord l G V ho_6) (cwV 0 hw gv_RX9_158 rfl rfl rfl dd_X9_readsWord ⟨Nat.le_of_ble_eq_true rfl, Nat.le_of_ble_eq_true rfl⟩) (gh_preV hT hP (Nat.le_of_ble_eq_true rfl) kd213 rfl rfl) rfl rfl hl.1 rfl (lv_room (Nat.le_of_ble_eq_true rfl)) dX9_isRight_31 ⟨Nat.zero_le _, Nat.zero_le _⟩) hS (fun H locs hP hS => ?_)
      exact b_34 ((MX9_readsWord V).1) ((MX9_readsWord V).2) _ _ _ (lv_sub hl [0] rfl) hP hS hs hres
  have b_14 : ∀ (s0 : Int32) (V : gV) (H : Heap) (locs : List Loc) (ls : Array Slot), lv_has ls 2 [(0, .ref (gA G 213))] → va_P (gD G) vwCl (gL G V) H → va_S (gF G) s.heap H locs → PX9_isRight_14  s0 V → res = BX9_isRight_14  s0 V → W p l e r_X9_isRight s m ([.ref (gA G 213)] : List Value).toArray below meth c H locs 0 0 (MQ below (gQI G res) ([.ref (gA G 213)] : List Value).toArray s 0 0 (gF G)) (F0 m 14 ls [.int s0]) := by
    intro s0 V H locs ls hl hP hS hs hres
    have hs : (PX9_isRight_15 1000 s0 V) := hs
    have hres : res = (BX9_isRight_15 1000 s0 V) := hres
    refine lv_istore_n (lv' := [(1, .int s0), (0, .ref (gA G 213))]) hx hb dX9_isRight_14 rfl hl (by decide) rfl (fun ls hl => ?_)
    exact b_15 1000 s0 V _ _ _ (lv_sub hl [1, 0] rfl) hP hS hs hres
  have b_10 : ∀  (V : gV) (H : Heap) (locs : List Loc) (ls : Array Slot), lv_has ls 2 [(0, .ref (gA G 213))] → va_P (gD G) vwCl (gL G V) H → va_S (gF G) s.heap H locs → PX9_isRight_10   V → res = BX9_isRight_10   V → W p l e r_X9_isRight s m ([.ref (gA G 213)] : List Value).toArray below meth c H locs 0 0 (MQ below (gQI G res) ([.ref (gA G 213)] : List Value).toArray s 0 0 (gF G)) (F0 m 10 ls []) := by
    intro  V H locs ls hl hP hS hs hres
    have hs : (PX9_readsWord V) ∧ (PX9_isRight_14 ((MX9_readsWord V).1) ((MX9_readsWord V).2)) := hs
    have hres : res = (BX9_isRight_14 ((MX9_readsWord V).1) ((MX9_readsWord V).2)) := hres
    refine lv_aload_n hx hb dX9_isRight_10 rfl (lv_at hl 0 rfl) ?_
    obtain ⟨ho_1, hs⟩ := hs
    refine gh_ki (va_runV (As := []) (rest := []) ⟨hx, hb, hml, hown, hw⟩ (cc_X9_readsWord l G V ho_1) (cwV 0 hw gv_RX9_158 rfl rfl rfl dd_X9_readsWord ⟨Nat.le_of_ble_eq_true rfl, Nat.le_of_ble_eq_true rfl⟩) (gh_preV hT hP (Nat.le_of_ble_eq_true rfl) kd213 rfl rfl) rfl rfl hl.1 rfl (lv_room (Nat.le_of_ble_eq_true rfl)) dX9_isRight_11 ⟨Nat.zero_le _, Nat.zero_le _⟩) hS (fun H locs hP hS => ?_)
    exact b_14 ((MX9_readsWord V).1) ((MX9_readsWord V).2) _ _ _ (lv_sub hl [0] rfl) hP hS hs hres
  have b_5 : ∀  (V : gV) (H : Heap) (locs : List Loc) (ls : Array Slot), lv_has ls 2 [(0, .ref (gA G 213))] → va_P (gD G) vwCl (gL G V) H → va_S (gF G) s.heap H locs → PX9_isRight_5   V → res = BX9_isRight_5   V → W p l e r_X9_isRight s m ([.ref (gA G 213)] : List Value).toArray below meth c H locs 0 0 (MQ below (gQI G res) ([.ref (gA G 213)] : List Value).toArray s 0 0 (gF G)) (F0 m 5 ls []) := by
    intro  V H locs ls hl hP hS hs hres
    have hs : (PX9_isRight_10 (gu V 213 9 (0 : Int32))) := hs
    have hres : res = (BX9_isRight_10 (gu V 213 9 (0 : Int32))) := hres
    refine lv_aload_n hx hb dX9_isRight_5 rfl (lv_at hl 0 rfl) ?_
    refine lv_iconst (v := 0) hx hb dX9_isRight_6 (by decide) ?_
    refine gh_put (ty := .int) (x := (0 : Int32)) (C := RX9) (T := TX9) (N := 11) hx hb hw inlX9 tyX9_ok nmX9 hown hT hP hS 213 (Nat.le_of_ble_eq_true rfl) kd213 rfl rfl 9 (by decide) (hw _ uw827) rfl (by decide +kernel) rfl rfl (Nat.le_of_ble_eq_true rfl) rfl dX9_isRight_7 (fun H locs hP hS => ?_)
    exact b_10 (gu V 213 9 (0 : Int32)) _ _ _ (lv_sub hl [0] rfl) hP hS hs hres
  refine lv_aload_n hx hb dX9_isRight_0 rfl (lv_at hl 0 rfl) ?_
  refine lv_iconst (v := 0) hx hb dX9_isRight_1 (by decide) ?_
  refine gh_put (ty := .int) (x := (0 : Int32)) (C := RX9) (T := TX9) (N := 11) hx hb hw inlX9 tyX9_ok nmX9 hown hT hP hS 213 (Nat.le_of_ble_eq_true rfl) kd213 rfl rfl 7 (by decide) (hw _ uw821) rfl (by decide +kernel) rfl rfl (Nat.le_of_ble_eq_true rfl) rfl dX9_isRight_2 (fun H locs hP hS => ?_)
  exact b_5 (gu V 213 7 (0 : Int32)) _ _ _ (lv_sub hl [0] rfl) hP hS hs hres
/-- Met.ofW for a method of a class of which other methods are run by an entry: 'plainFor' of the method itself -/
theorem gh_ofWF {l : Launch} {y : MethodName} {ws ws' : List Cond} {rm : Room} {Pc : Array Value → State → Prop} {Qc : Array Value → State → Outcome → State → Prop} {mc ms : Nat} {free : Addr → Prop} {cc : ByteArray} {maxL : Nat} {ret : Option FieldType}
    (hy : plainFor y = true) (hw : ws = Cond.code y cc maxL ret :: ws')
    (body : ∀ p e s m args below meth c s₁, BodyLoose p l y (headSpec ws rm) cc maxL ret e s m args below meth c s₁ → c.maxLocals = maxL → Pc args s →
      W p l e (headSpec ws rm).room s m args below meth c s.heap [] 0 0 (MQ below Qc args s mc ms free) (entryFrame m args maxL)) : Met l y ws rm Pc Qc mc ms free := by
  refine MetFree.of_bodySF (code := cc) (maxLocals := maxL) (ret := ret) hy ?_ ?_
  · intro args s m h hn
    obtain ⟨meth, c, h1, h2, h3, h4, h5, h6, -, -⟩ := Cond.code_spec hn (atoms_spec (ws := ws) h _ (by rw [hw]; exact List.mem_cons_self))
    exact ⟨meth, c, h1, h2, h3, h4, h5, h6⟩
  · intro p e s m args below meth c s₁ B hml hP _
    have hh0 : s₁.heap = s.heap := by rw [B.state]; rfl
    obtain ⟨t, a1, o, b1, b2, b3⟩ := body p e s m args below meth c s₁ B hml hP s₁ hh0 (Stand.of_body B)
    exact ⟨t, o, a1, b1, b2, ⟨b3.1, b3.2⟩⟩
def MJxf58ca_isNaN_12338  (af0 : UInt32) (V : gV) : Int32 := if (Op.cmpValue (FP.fcmp af0 af0) CmpOp.l) = 0 then ((0 : Int32)) else ((1 : Int32))
abbrev wc_Jxf58ca_isNaN_12338 : List Cond := Cond.code yJxf58ca_isNaN_12338 cJxf58ca_isNaN_12338 1 (some .boolean) :: wsL_law
abbrev r_Jxf58ca_isNaN_12338 : Room := { frames := 0, cells := 0, slots := 0, locals := 0 }
theorem dd_Jxf58ca_isNaN_12338 : yJxf58ca_isNaN_12338.cls = RJxf58ca ∧ yJxf58ca_isNaN_12338.cls ≠ "java/lang/invoke/MethodHandle" ∧ yJxf58ca_isNaN_12338.cls ≠ "java/lang/invoke/VarHandle" ∧ (parseMethodDescriptor yJxf58ca_isNaN_12338.desc).map (fun d => d.parameters.length) = some 1 := by decide +kernel
set_option maxHeartbeats 8000000 in
set_option maxRecDepth 100000 in
theorem cc_Jxf58ca_isNaN_12338 (l : Launch) (G : gG) (V : gV)   (af0 : UInt32)  : Met l yJxf58ca_isNaN_12338 wc_Jxf58ca_isNaN_12338 r_Jxf58ca_isNaN_12338 (va_Pc [.float af0] (gW G V)) (gQR G (MJxf58ca_isNaN_12338 af0 V) V) 0 0 (gF G) := by
  refine gh_ofWF (cc := cJxf58ca_isNaN_12338) (maxL := 1) (ret := (some .boolean)) (by decide +kernel) rfl ?_
  intro p e s m args below meth c s₁ B hml hv
  obtain ⟨rfl, hP, hT⟩ := hv
  have hx := B.exec
  have hb := B.bytes
  have hr := B.returns
  have hw := gh_hw (atoms_spec (ws := wc_Jxf58ca_isNaN_12338) B.pre)
  have hown : s.vm.findClass RJxf58ca = some m.cls := findClass_of_methodNamed B.named
  have hlocks := B.notSynchronized
  have hS : va_S (gF G) s.heap s.heap [] := va_S.rf
  have hl := lv_entry ([.float af0]) (n := 1) (Nat.le_of_ble_eq_true rfl)
  rw [lg_entry_eq]
  generalize (lg_sl ([.float af0]) ++ List.replicate (1 - (lg_sl ([.float af0])).length) Slot.unset).toArray = ls at hl ⊢
  have hl : lv_has ls 1 [(0, .float af0)] := hl
  obtain ⟨res, hres⟩ : ∃ r, r = MJxf58ca_isNaN_12338 af0 V := ⟨_, rfl⟩
  rw [← hres]
  show W p l e r_Jxf58ca_isNaN_12338 s m ([.float af0] : List Value).toArray below meth c s.heap [] 0 0 (MQ below (gQR G res V) ([.float af0] : List Value).toArray s 0 0 (gF G)) (F0 m 0 ls [])
  have hres : res = (if (Op.cmpValue (FP.fcmp af0 af0) CmpOp.l) = 0 then ((0 : Int32)) else ((1 : Int32))) := hres
  refine lv_fload_n hx hb dJxf58ca_isNaN_12338_0 rfl (lv_at hl 0 rfl) ?_
  refine lv_fload_n hx hb dJxf58ca_isNaN_12338_1 rfl (lv_at hl 0 rfl) ?_
  refine lv_fcmp hx hb dJxf58ca_isNaN_12338_2 ?_
  refine lv_if_eq (tgt := 10) hx hb dJxf58ca_isNaN_12338_3 (by decide) (fun c_1 => ?_) (fun c_1 => ?_)
  · have hres := hres.trans (if_pos c_1)
    refine lv_iconst (v := 0) hx hb dJxf58ca_isNaN_12338_10 (by decide) ?_
    exact gh_zretR hx hb hr rfl hlocks hP hS hT hres dJxf58ca_isNaN_12338_11
  have hres := hres.trans (if_neg c_1)
  refine lv_iconst (v := 1) hx hb dJxf58ca_isNaN_12338_6 (by decide) ?_
  refine lv_goto (tgt := 11) hx hb dJxf58ca_isNaN_12338_7 (by decide) ?_
  exact gh_zretR hx hb hr rfl hlocks hP hS hT hres dJxf58ca_isNaN_12338_11
theorem gz_Jxf58ca_isNaN_12338  (af0 : UInt32) (V : gV) : gZ (MJxf58ca_isNaN_12338 af0 V) := by
  unfold MJxf58ca_isNaN_12338
  repeat (any_goals split)
  all_goals first | exact Or.inl rfl | exact Or.inr rfl
theorem gv_RJxf58ca_59 : GoodIn wsL_law (va_wsS RJxf58ca 59 yJxf58ca_isNaN_12338 wc_Jxf58ca_isNaN_12338) := gh_gS uw674 uw675 uw667 uw676
def MJxf58ca_floatToIntBits_5c35a  (af0 : UInt32) (V : gV) : Int32 := if (MJxf58ca_isNaN_12338 af0 V) = 0 then ((af0).toInt32) else ((2143289344 : Int32))
abbrev wc_Jxf58ca_floatToIntBits_5c35a : List Cond := Cond.code yJxf58ca_floatToIntBits_5c35a cJxf58ca_floatToIntBits_5c35a 1 (some .int) :: wsL_law
abbrev r_Jxf58ca_floatToIntBits_5c35a : Room := { frames := 1, cells := 0, slots := 0, locals := 23 }
theorem dd_Jxf58ca_floatToIntBits_5c35a : yJxf58ca_floatToIntBits_5c35a.cls = RJxf58ca ∧ yJxf58ca_floatToIntBits_5c35a.cls ≠ "java/lang/invoke/MethodHandle" ∧ yJxf58ca_floatToIntBits_5c35a.cls ≠ "java/lang/invoke/VarHandle" ∧ (parseMethodDescriptor yJxf58ca_floatToIntBits_5c35a.desc).map (fun d => d.parameters.length) = some 1 := by decide +kernel
set_option maxHeartbeats 8000000 in
set_option maxRecDepth 100000 in
theorem cc_Jxf58ca_floatToIntBits_5c35a (l : Launch) (G : gG) (V : gV)   (af0 : UInt32)  : Met l yJxf58ca_floatToIntBits_5c35a wc_Jxf58ca_floatToIntBits_5c35a r_Jxf58ca_floatToIntBits_5c35a (va_Pc [.float af0] (gW G V)) (gQR G (MJxf58ca_floatToIntBits_5c35a af0 V) V) 0 0 (gF G) := by
  refine gh_ofWF (cc := cJxf58ca_floatToIntBits_5c35a) (maxL := 1) (ret := (some .int)) (by decide +kernel) rfl ?_
  intro p e s m args below meth c s₁ B hml hv
  obtain ⟨rfl, hP, hT⟩ := hv
  have hx := B.exec
  have hb := B.bytes
  have hr := B.returns
  have hw := gh_hw (atoms_spec (ws := wc_Jxf58ca_floatToIntBits_5c35a) B.pre)
  have hown : s.vm.findClass RJxf58ca = some m.cls := findClass_of_methodNamed B.named
  have hlocks := B.notSynchronized
  have hS : va_S (gF G) s.heap s.heap [] := va_S.rf
  have hl := lv_entry ([.float af0]) (n := 1) (Nat.le_of_ble_eq_true rfl)
  rw [lg_entry_eq]
  generalize (lg_sl ([.float af0]) ++ List.replicate (1 - (lg_sl ([.float af0])).length) Slot.unset).toArray = ls at hl ⊢
  have hl : lv_has ls 1 [(0, .float af0)] := hl
  obtain ⟨res, hres⟩ : ∃ r, r = MJxf58ca_floatToIntBits_5c35a af0 V := ⟨_, rfl⟩
  rw [← hres]
  show W p l e r_Jxf58ca_floatToIntBits_5c35a s m ([.float af0] : List Value).toArray below meth c s.heap [] 0 0 (MQ below (gQR G res V) ([.float af0] : List Value).toArray s 0 0 (gF G)) (F0 m 0 ls [])
  have hres : res = (if (MJxf58ca_isNaN_12338 af0 V) = 0 then ((af0).toInt32) else ((2143289344 : Int32))) := hres
  refine lv_fload_n hx hb dJxf58ca_floatToIntBits_5c35a_0 rfl (lv_at hl 0 rfl) ?_
  refine gh_kr (va_runS (As := [.float af0]) (rest := []) ⟨hx, hb, hml, hown, hw⟩ (cc_Jxf58ca_isNaN_12338 l G V af0) (va_cwS 1 hw gv_RJxf58ca_59 rfl rfl rfl dd_Jxf58ca_isNaN_12338.2 ⟨Nat.le_of_ble_eq_true rfl, Nat.le_of_ble_eq_true rfl⟩) (gh_pre hT hP) rfl rfl hl.1 rfl (lv_room (Nat.le_of_ble_eq_true rfl)) dJxf58ca_floatToIntBits_5c35a_1 ⟨Nat.zero_le _, Nat.zero_le _⟩) hS (fun H locs hP hS => ?_)
  refine lv_if_ne (tgt := 12) hx hb dJxf58ca_floatToIntBits_5c35a_4 (by decide) (fun c_1 => ?_) (fun c_1 => ?_)
  · have hres := hres.trans (if_neg c_1)
    refine lv_ldc hx hb hown (hw _ uw673) dJxf58ca_floatToIntBits_5c35a_12 ?_
    exact gh_iretR hx hb hr hlocks hP hS hT hres dJxf58ca_floatToIntBits_5c35a_14
  have hres := hres.trans (if_pos c_1)
  refine lv_fload_n hx hb dJxf58ca_floatToIntBits_5c35a_7 rfl (lv_at hl 0 rfl) ?_
  refine vn_f2i hx hb (hml.trans hl.1.symm) hown (hw _ uw669) (hw _ uw670) (hw _ uw671) (hw _ uw672) (Nat.le_of_ble_eq_true rfl) (Nat.le_of_ble_eq_true rfl) dJxf58ca_floatToIntBits_5c35a_8 ?_
  exact gh_iretR hx hb hr hlocks hP hS hT hres dJxf58ca_floatToIntBits_5c35a_11
theorem gv_RX9_36 : GoodIn wsL_law (wsV RX9 36 RX9 yX9_isWord wc_X9_isWord) := gh_gV uw201 uw202 uw203 uw5 uw204
theorem gv_RX9_116 : GoodIn wsL_law (wsV RX9 116 RX9 yX9_lettersOf wc_X9_lettersOf) := gh_gV uw534 uw535 uw536 uw5 uw537
theorem gv_RX9_44 : GoodIn wsL_law (wsV RX9 44 RX9 yX9_runs wc_X9_runs) := gh_gV uw208 uw209 uw210 uw5 uw211
def BX9_wordOf_72   (x1 : Int32) (x2 : Int32) (V : gV) : Int32 := (MX9_of x1 x2 V)
def PX9_wordOf_72   (x1 : Int32) (x2 : Int32) (V : gV) : Prop := (PX9_of x1 x2 V)
def BX9_wordOf_37   (x1 : Int32) (x2 : Int32) (V : gV) : Int32 := if x2 = 0 then (BX9_wordOf_72 x1 x2 V) else (if x2 = 1 then (BX9_wordOf_72 x1 x2 V) else (if x2 = 2 then ((MX9_lettersOf x1 V)) else (if x2 = 3 then ((MX9_of x1 (2 : Int32) V)) else (if x2 = 4 then (if (MX9_runs V) = 0 then ((-4 : Int32)) else (if (MX9_fitsOne x1 V) = 0 then ((0 : Int32)) else ((1 : Int32)))) else ((MX9_letterAt x1 (x2 - (10 : Int32)) V))))))
def PX9_wordOf_37   (x1 : Int32) (x2 : Int32) (V : gV) : Prop := ((x2 = 0 → (PX9_wordOf_72 x1 x2 V)) ∧ (¬ x2 = 0 → ((x2 = 1 → (PX9_wordOf_72 x1 x2 V)) ∧ (¬ x2 = 1 → ((x2 = 2 → (PX9_lettersOf x1 V)) ∧ (¬ x2 = 2 → ((x2 = 3 → (PX9_of x1 (2 : Int32) V)) ∧ (¬ x2 = 3 → ((x2 = 4 → ((¬ (MX9_runs V) = 0 → (PX9_fitsOne x1 V)))) ∧ (¬ x2 = 4 → (PX9_letterAt x1 (x2 - (10 : Int32)) V)))))))))))
def MX9_wordOf  (a1 : Int32) (a2 : Int32) (V : gV) : Int32 := if (MX9_isWord a1 V) = 0 then ((-1 : Int32)) else (if (MX9_in a2 (0 : Int32) (4 : Int32) V) = 0 then (if (MX9_in a2 (10 : Int32) ((9 : Int32) + (MX9_of a1 (0 : Int32) V)) V) = 0 then ((-1 : Int32)) else (BX9_wordOf_37 a1 a2 V)) else (BX9_wordOf_37 a1 a2 V))
def PX9_wordOf  (a1 : Int32) (a2 : Int32) (V : gV) : Prop := ((¬ (MX9_isWord a1 V) = 0 → (((MX9_in a2 (0 : Int32) (4 : Int32) V) = 0 → (PX9_of a1 (0 : Int32) V) ∧ ((¬ (MX9_in a2 (10 : Int32) ((9 : Int32) + (MX9_of a1 (0 : Int32) V)) V) = 0 → (PX9_wordOf_37 a1 a2 V)))) ∧ (¬ (MX9_in a2 (0 : Int32) (4 : Int32) V) = 0 → (PX9_wordOf_37 a1 a2 V)))))
abbrev wc_X9_wordOf : List Cond := Cond.code yX9_wordOf cX9_wordOf 3 (some .int) :: wsL_law
abbrev r_X9_wordOf : Room := { frames := 3, cells := 0, slots := 0, locals := 69 }
theorem dd_X9_wordOf : yX9_wordOf.cls = RX9 ∧ yX9_wordOf.cls ≠ "java/lang/invoke/MethodHandle" ∧ yX9_wordOf.cls ≠ "java/lang/invoke/VarHandle" ∧ (parseMethodDescriptor yX9_wordOf.desc).map (fun d => d.parameters.length) = some 2 := by decide +kernel
set_option maxHeartbeats 8000000 in
set_option maxRecDepth 100000 in
theorem cc_X9_wordOf (l : Launch) (G : gG) (V : gV)   (a1 : Int32) (a2 : Int32) (hs : PX9_wordOf a1 a2 V) : Met l yX9_wordOf wc_X9_wordOf r_X9_wordOf (va_Pc [.ref (gA G 213), .int a1, .int a2] (gW G V)) (gQR G (MX9_wordOf a1 a2 V) V) 0 0 (gF G) := by
  refine Met.ofW (cc := cX9_wordOf) (maxL := 3) (ret := (some .int)) (by decide) rfl ?_
  intro p e s m args below meth c s₁ B hml hv
  obtain ⟨rfl, hP, hT⟩ := hv
  have hx := B.exec
  have hb := B.bytes
  have hr := B.returns
  have hw := gh_hw (atoms_spec (ws := wc_X9_wordOf) B.pre)
  have hown : s.vm.findClass RX9 = some m.cls := findClass_of_methodNamed B.named
  have hlocks := B.notSynchronized
  have hS : va_S (gF G) s.heap s.heap [] := va_S.rf
  have hl := lv_entry ([.ref (gA G 213), .int a1, .int a2]) (n := 3) (Nat.le_of_ble_eq_true rfl)
  rw [lg_entry_eq]
  generalize (lg_sl ([.ref (gA G 213), .int a1, .int a2]) ++ List.replicate (3 - (lg_sl ([.ref (gA G 213), .int a1, .int a2])).length) Slot.unset).toArray = ls at hl ⊢
  have hl : lv_has ls 3 [(0, .ref (gA G 213)), (1, .int a1), (2, .int a2)] := hl
  obtain ⟨res, hres⟩ : ∃ r, r = MX9_wordOf a1 a2 V := ⟨_, rfl⟩
  rw [← hres]
  show W p l e r_X9_wordOf s m ([.ref (gA G 213), .int a1, .int a2] : List Value).toArray below meth c s.heap [] 0 0 (MQ below (gQR G res V) ([.ref (gA G 213), .int a1, .int a2] : List Value).toArray s 0 0 (gF G)) (F0 m 0 ls [])
  have hs : ((¬ (MX9_isWord a1 V) = 0 → (((MX9_in a2 (0 : Int32) (4 : Int32) V) = 0 → (PX9_of a1 (0 : Int32) V) ∧ ((¬ (MX9_in a2 (10 : Int32) ((9 : Int32) + (MX9_of a1 (0 : Int32) V)) V) = 0 → (PX9_wordOf_37 a1 a2 V)))) ∧ (¬ (MX9_in a2 (0 : Int32) (4 : Int32) V) = 0 → (PX9_wordOf_37 a1 a2 V))))) := hs
  have hres : res = (if (MX9_isWord a1 V) = 0 then ((-1 : Int32)) else (if (MX9_in a2 (0 : Int32) (4 : Int32) V) = 0 then (if (MX9_in a2 (10 : Int32) ((9 : Int32) + (MX9_of a1 (0 : Int32) V)) V) = 0 then ((-1 : Int32)) else (BX9_wordOf_37 a1 a2 V)) else (BX9_wordOf_37 a1 a2 V))) := hres
  have b_72 : ∀ (x1 : Int32) (x2 : Int32) (H : Heap) (locs : List Loc) (ls : Array Slot), lv_has ls 3 [(0, .ref (gA G 213)), (1, .int x1), (2, .int x2)] → va_P (gD G) vwCl (gL G V) H → va_S (gF G) s.heap H locs → PX9_wordOf_72  x1 x2 V → res = BX9_wordOf_72  x1 x2 V → W p l e r_X9_wordOf s m ([.ref (gA G 213), .int a1, .int a2] : List Value).toArray below meth c H locs 0 0 (MQ below (gQR G res V) ([.ref (gA G 213), .int a1, .int a2] : List Value).toArray s 0 0 (gF G)) (F0 m 72 ls []) := by
    intro x1 x2 H locs ls hl hP hS hs hres
    have hs : (PX9_of x1 x2 V) := hs
    have hres : res = ((MX9_of x1 x2 V)) := hres
    refine lv_aload_n hx hb dX9_wordOf_72 rfl (lv_at hl 0 rfl) ?_
    refine lv_iload_n hx hb dX9_wordOf_73 rfl (lv_at hl 1 rfl) ?_
    refine lv_iload_n hx hb dX9_wordOf_74 rfl (lv_at hl 2 rfl) ?_
    have ho_4 := hs
    refine gh_kr (va_runV (As := [.int x1, .int x2]) (rest := []) ⟨hx, hb, hml, hown, hw⟩ (cc_X9_of l G V x1 x2 ho_4) (cwV 2 hw gv_RX9_29 rfl rfl rfl dd_X9_of ⟨Nat.le_of_ble_eq_true rfl, Nat.le_of_ble_eq_true rfl⟩) (gh_preV hT hP (Nat.le_of_ble_eq_true rfl) kd213 rfl rfl) rfl rfl hl.1 rfl (lv_room (Nat.le_of_ble_eq_true rfl)) dX9_wordOf_75 ⟨Nat.zero_le _, Nat.zero_le _⟩) hS (fun H locs hP hS => ?_)
    exact gh_iretR hx hb hr hlocks hP hS hT hres dX9_wordOf_78
  have b_37 : ∀ (x1 : Int32) (x2 : Int32) (H : Heap) (locs : List Loc) (ls : Array Slot), lv_has ls 3 [(0, .ref (gA G 213)), (1, .int x1), (2, .int x2)] → va_P (gD G) vwCl (gL G V) H → va_S (gF G) s.heap H locs → PX9_wordOf_37  x1 x2 V → res = BX9_wordOf_37  x1 x2 V → W p l e r_X9_wordOf s m ([.ref (gA G 213), .int a1, .int a2] : List Value).toArray below meth c H locs 0 0 (MQ below (gQR G res V) ([.ref (gA G 213), .int a1, .int a2] : List Value).toArray s 0 0 (gF G)) (F0 m 37 ls []) := by
    intro x1 x2 H locs ls hl hP hS hs hres
    have hs : ((x2 = 0 → (PX9_wordOf_72 x1 x2 V)) ∧ (¬ x2 = 0 → ((x2 = 1 → (PX9_wordOf_72 x1 x2 V)) ∧ (¬ x2 = 1 → ((x2 = 2 → (PX9_lettersOf x1 V)) ∧ (¬ x2 = 2 → ((x2 = 3 → (PX9_of x1 (2 : Int32) V)) ∧ (¬ x2 = 3 → ((x2 = 4 → ((¬ (MX9_runs V) = 0 → (PX9_fitsOne x1 V)))) ∧ (¬ x2 = 4 → (PX9_letterAt x1 (x2 - (10 : Int32)) V))))))))))) := hs
    have hres : res = (if x2 = 0 then (BX9_wordOf_72 x1 x2 V) else (if x2 = 1 then (BX9_wordOf_72 x1 x2 V) else (if x2 = 2 then ((MX9_lettersOf x1 V)) else (if x2 = 3 then ((MX9_of x1 (2 : Int32) V)) else (if x2 = 4 then (if (MX9_runs V) = 0 then ((-4 : Int32)) else (if (MX9_fitsOne x1 V) = 0 then ((0 : Int32)) else ((1 : Int32)))) else ((MX9_letterAt x1 (x2 - (10 : Int32)) V))))))) := hres
    refine lv_iload_n hx hb dX9_wordOf_37 rfl (lv_at hl 2 rfl) ?_
    by_cases c_3 : x2 = 0
    · have hres := hres.trans (if_pos c_3)
      have hs := hs.1 c_3
      refine lv_tableIn (off := 34) (tgt := 72) hx hb dX9_wordOf_38 (by rw [c_3]; decide) (by rw [c_3]; decide) (by rw [c_3]; rfl) (by decide) ?_
      exact b_72 x1 x2 _ _ _ (lv_sub hl [0, 1, 2] rfl) hP hS hs hres
    · have hres := hres.trans (if_neg c_3)
      have hs := hs.2 c_3
      by_cases c_5 : x2 = 1
      · have hres := hres.trans (if_pos c_5)
        have hs := hs.1 c_5
        refine lv_tableIn (off := 34) (tgt := 72) hx hb dX9_wordOf_38 (by rw [c_5]; decide) (by rw [c_5]; decide) (by rw [c_5]; rfl) (by decide) ?_
        exact b_72 x1 x2 _ _ _ (lv_sub hl [0, 1, 2] rfl) hP hS hs hres
      · have hres := hres.trans (if_neg c_5)
        have hs := hs.2 c_5
        by_cases c_6 : x2 = 2
        · have hres := hres.trans (if_pos c_6)
          have hs := hs.1 c_6
          refine lv_tableIn (off := 41) (tgt := 79) hx hb dX9_wordOf_38 (by rw [c_6]; decide) (by rw [c_6]; decide) (by rw [c_6]; rfl) (by decide) ?_
          refine lv_aload_n hx hb dX9_wordOf_79 rfl (lv_at hl 0 rfl) ?_
          refine lv_iload_n hx hb dX9_wordOf_80 rfl (lv_at hl 1 rfl) ?_
          have ho_7 := hs
          refine gh_kr (va_runV (As := [.int x1]) (rest := []) ⟨hx, hb, hml, hown, hw⟩ (cc_X9_lettersOf l G V x1 ho_7) (cwV 1 hw gv_RX9_116 rfl rfl rfl dd_X9_lettersOf ⟨Nat.le_of_ble_eq_true rfl, Nat.le_of_ble_eq_true rfl⟩) (gh_preV hT hP (Nat.le_of_ble_eq_true rfl) kd213 rfl rfl) rfl rfl hl.1 rfl (lv_room (Nat.le_of_ble_eq_true rfl)) dX9_wordOf_81 ⟨Nat.zero_le _, Nat.zero_le _⟩) hS (fun H locs hP hS => ?_)
          exact gh_iretR hx hb hr hlocks hP hS hT hres dX9_wordOf_84
        · have hres := hres.trans (if_neg c_6)
          have hs := hs.2 c_6
          by_cases c_8 : x2 = 3
          · have hres := hres.trans (if_pos c_8)
            have hs := hs.1 c_8
            refine lv_tableIn (off := 47) (tgt := 85) hx hb dX9_wordOf_38 (by rw [c_8]; decide) (by rw [c_8]; decide) (by rw [c_8]; rfl) (by decide) ?_
            refine lv_aload_n hx hb dX9_wordOf_85 rfl (lv_at hl 0 rfl) ?_
            refine lv_iload_n hx hb dX9_wordOf_86 rfl (lv_at hl 1 rfl) ?_
            refine lv_iconst (v := 2) hx hb dX9_wordOf_87 (by decide) ?_
            have ho_9 := hs
            refine gh_kr (va_runV (As := [.int x1, .int (2 : Int32)]) (rest := []) ⟨hx, hb, hml, hown, hw⟩ (cc_X9_of l G V x1 (2 : Int32) ho_9) (cwV 2 hw gv_RX9_29 rfl rfl rfl dd_X9_of ⟨Nat.le_of_ble_eq_true rfl, Nat.le_of_ble_eq_true rfl⟩) (gh_preV hT hP (Nat.le_of_ble_eq_true rfl) kd213 rfl rfl) rfl rfl hl.1 rfl (lv_room (Nat.le_of_ble_eq_true rfl)) dX9_wordOf_88 ⟨Nat.zero_le _, Nat.zero_le _⟩) hS (fun H locs hP hS => ?_)
            exact gh_iretR hx hb hr hlocks hP hS hT hres dX9_wordOf_91
          · have hres := hres.trans (if_neg c_8)
            have hs := hs.2 c_8
            by_cases c_10 : x2 = 4
            · have hres := hres.trans (if_pos c_10)
              have hs := hs.1 c_10
              refine lv_tableIn (off := 54) (tgt := 92) hx hb dX9_wordOf_38 (by rw [c_10]; decide) (by rw [c_10]; decide) (by rw [c_10]; rfl) (by decide) ?_
              refine lv_aload_n hx hb dX9_wordOf_92 rfl (lv_at hl 0 rfl) ?_
              refine gh_kr (va_runV (As := []) (rest := []) ⟨hx, hb, hml, hown, hw⟩ (cc_X9_runs l G V) (cwV 0 hw gv_RX9_44 rfl rfl rfl dd_X9_runs ⟨Nat.le_of_ble_eq_true rfl, Nat.le_of_ble_eq_true rfl⟩) (gh_preV hT hP (Nat.le_of_ble_eq_true rfl) kd213 rfl rfl) rfl rfl hl.1 rfl (lv_room (Nat.le_of_ble_eq_true rfl)) dX9_wordOf_93 ⟨Nat.zero_le _, Nat.zero_le _⟩) hS (fun H locs hP hS => ?_)
              refine lv_if_ne (tgt := 104) hx hb dX9_wordOf_96 (by decide) (fun c_11 => ?_) (fun c_11 => ?_)
              · have hres := hres.trans (if_neg c_11)
                have hs := hs c_11
                refine lv_aload_n hx hb dX9_wordOf_104 rfl (lv_at hl 0 rfl) ?_
                refine lv_iload_n hx hb dX9_wordOf_105 rfl (lv_at hl 1 rfl) ?_
                have ho_12 := hs
                refine gh_kr (va_runV (As := [.int x1]) (rest := []) ⟨hx, hb, hml, hown, hw⟩ (cc_X9_fitsOne l G V x1 ho_12) (cwV 1 hw gv_RX9_95 rfl rfl rfl dd_X9_fitsOne ⟨Nat.le_of_ble_eq_true rfl, Nat.le_of_ble_eq_true rfl⟩) (gh_preV hT hP (Nat.le_of_ble_eq_true rfl) kd213 rfl rfl) rfl rfl hl.1 rfl (lv_room (Nat.le_of_ble_eq_true rfl)) dX9_wordOf_106 ⟨Nat.zero_le _, Nat.zero_le _⟩) hS (fun H locs hP hS => ?_)
                refine lv_if_eq (tgt := 116) hx hb dX9_wordOf_109 (by decide) (fun c_13 => ?_) (fun c_13 => ?_)
                · have hres := hres.trans (if_pos c_13)
                  refine lv_iconst (v := 0) hx hb dX9_wordOf_116 (by decide) ?_
                  exact gh_iretR hx hb hr hlocks hP hS hT hres dX9_wordOf_117
                have hres := hres.trans (if_neg c_13)
                refine lv_iconst (v := 1) hx hb dX9_wordOf_112 (by decide) ?_
                refine lv_goto (tgt := 117) hx hb dX9_wordOf_113 (by decide) ?_
                exact gh_iretR hx hb hr hlocks hP hS hT hres dX9_wordOf_117
              have hres := hres.trans (if_pos c_11)
              refine lv_bipush (v := -4) hx hb dX9_wordOf_99 (by decide) ?_
              refine lv_goto (tgt := 117) hx hb dX9_wordOf_101 (by decide) ?_
              exact gh_iretR hx hb hr hlocks hP hS hT hres dX9_wordOf_117
            · have hres := hres.trans (if_neg c_10)
              have hs := hs.2 c_10
              refine lv_tableOut (tgt := 118) hx hb dX9_wordOf_38 (gh_sw2 (a := 0) (n := 4) (by decide) (fun j hi hj => by
                  rcases (show j = 0 ∨ j = 1 ∨ j = 2 ∨ j = 3 ∨ j = 4 by omega) with rfl | rfl | rfl | rfl | rfl
                  · exact c_3
                  · exact c_5
                  · exact c_6
                  · exact c_8
                  · exact c_10)) (by decide) ?_
              refine lv_aload_n hx hb dX9_wordOf_118 rfl (lv_at hl 0 rfl) ?_
              refine lv_iload_n hx hb dX9_wordOf_119 rfl (lv_at hl 1 rfl) ?_
              refine lv_iload_n hx hb dX9_wordOf_120 rfl (lv_at hl 2 rfl) ?_
              refine lv_bipush (v := 10) hx hb dX9_wordOf_121 (by decide) ?_
              refine lv_isub hx hb dX9_wordOf_123 ?_
              have ho_14 := hs
              refine gh_kr (va_runV (As := [.int x1, .int (x2 - (10 : Int32))]) (rest := []) ⟨hx, hb, hml, hown, hw⟩ (cc_X9_letterAt l G V x1 (x2 - (10 : Int32)) ho_14) (cwV 2 hw gv_RX9_33 rfl rfl rfl dd_X9_letterAt ⟨Nat.le_of_ble_eq_true rfl, Nat.le_of_ble_eq_true rfl⟩) (gh_preV hT hP (Nat.le_of_ble_eq_true rfl) kd213 rfl rfl) rfl rfl hl.1 rfl (lv_room (Nat.le_of_ble_eq_true rfl)) dX9_wordOf_124 ⟨Nat.zero_le _, Nat.zero_le _⟩) hS (fun H locs hP hS => ?_)
              exact gh_iretR hx hb hr hlocks hP hS hT hres dX9_wordOf_127
  refine lv_aload_n hx hb dX9_wordOf_0 rfl (lv_at hl 0 rfl) ?_
  refine lv_iload_n hx hb dX9_wordOf_1 rfl (lv_at hl 1 rfl) ?_
  refine gh_kr (va_runV (As := [.int a1]) (rest := []) ⟨hx, hb, hml, hown, hw⟩ (cc_X9_isWord l G V a1) (cwV 1 hw gv_RX9_36 rfl rfl rfl dd_X9_isWord ⟨Nat.le_of_ble_eq_true rfl, Nat.le_of_ble_eq_true rfl⟩) (gh_preV hT hP (Nat.le_of_ble_eq_true rfl) kd213 rfl rfl) rfl rfl hl.1 rfl (lv_room (Nat.le_of_ble_eq_true rfl)) dX9_wordOf_2 ⟨Nat.zero_le _, Nat.zero_le _⟩) hS (fun H locs hP hS => ?_)
  refine lv_if_eq (tgt := 35) hx hb dX9_wordOf_5 (by decide) (fun c_1 => ?_) (fun c_1 => ?_)
  · have hres := hres.trans (if_pos c_1)
    refine lv_iconst (v := -1) hx hb dX9_wordOf_35 (by decide) ?_
    exact gh_iretR hx hb hr hlocks hP hS hT hres dX9_wordOf_36
  have hres := hres.trans (if_neg c_1)
  have hs := hs c_1
  refine lv_iload_n hx hb dX9_wordOf_8 rfl (lv_at hl 2 rfl) ?_
  refine lv_iconst (v := 0) hx hb dX9_wordOf_9 (by decide) ?_
  refine lv_iconst (v := 4) hx hb dX9_wordOf_10 (by decide) ?_
  refine gh_kr (va_runS (As := [.int a2, .int (0 : Int32), .int (4 : Int32)]) (rest := []) ⟨hx, hb, hml, hown, hw⟩ (cc_X9_in l G V a2 (0 : Int32) (4 : Int32)) (va_cwS 3 hw gv_RX9_40 rfl rfl rfl dd_X9_in.2 ⟨Nat.le_of_ble_eq_true rfl, Nat.le_of_ble_eq_true rfl⟩) (gh_pre hT hP) rfl rfl hl.1 rfl (lv_room (Nat.le_of_ble_eq_true rfl)) dX9_wordOf_11 ⟨Nat.zero_le _, Nat.zero_le _⟩) hS (fun H locs hP hS => ?_)
  refine lv_if_ne (tgt := 37) hx hb dX9_wordOf_14 (by decide) (fun c_2 => ?_) (fun c_2 => ?_)
  · have hres := hres.trans (if_neg c_2)
    have hs := hs.2 c_2
    exact b_37 a1 a2 _ _ _ (lv_sub hl [0, 1, 2] rfl) hP hS hs hres
  have hres := hres.trans (if_pos c_2)
  have hs := hs.1 c_2
  refine lv_iload_n hx hb dX9_wordOf_17 rfl (lv_at hl 2 rfl) ?_
  refine lv_bipush (v := 10) hx hb dX9_wordOf_18 (by decide) ?_
  refine lv_bipush (v := 9) hx hb dX9_wordOf_20 (by decide) ?_
  refine lv_aload_n hx hb dX9_wordOf_22 rfl (lv_at hl 0 rfl) ?_
  refine lv_iload_n hx hb dX9_wordOf_23 rfl (lv_at hl 1 rfl) ?_
  refine lv_iconst (v := 0) hx hb dX9_wordOf_24 (by decide) ?_
  obtain ⟨ho_15, hs⟩ := hs
  refine gh_kr (va_runV (As := [.int a1, .int (0 : Int32)]) (rest := [.int (9 : Int32), .int (10 : Int32), .int a2]) ⟨hx, hb, hml, hown, hw⟩ (cc_X9_of l G V a1 (0 : Int32) ho_15) (cwV 2 hw gv_RX9_29 rfl rfl rfl dd_X9_of ⟨Nat.le_of_ble_eq_true rfl, Nat.le_of_ble_eq_true rfl⟩) (gh_preV hT hP (Nat.le_of_ble_eq_true rfl) kd213 rfl rfl) rfl rfl hl.1 rfl (lv_room (Nat.le_of_ble_eq_true rfl)) dX9_wordOf_25 ⟨Nat.zero_le _, Nat.zero_le _⟩) hS (fun H locs hP hS => ?_)
  refine lv_iadd hx hb dX9_wordOf_28 ?_
  refine gh_kr (va_runS (As := [.int a2, .int (10 : Int32), .int ((9 : Int32) + (MX9_of a1 (0 : Int32) V))]) (rest := []) ⟨hx, hb, hml, hown, hw⟩ (cc_X9_in l G V a2 (10 : Int32) ((9 : Int32) + (MX9_of a1 (0 : Int32) V))) (va_cwS 3 hw gv_RX9_40 rfl rfl rfl dd_X9_in.2 ⟨Nat.le_of_ble_eq_true rfl, Nat.le_of_ble_eq_true rfl⟩) (gh_pre hT hP) rfl rfl hl.1 rfl (lv_room (Nat.le_of_ble_eq_true rfl)) dX9_wordOf_29 ⟨Nat.zero_le _, Nat.zero_le _⟩) hS (fun H locs hP hS => ?_)
  refine lv_if_ne (tgt := 37) hx hb dX9_wordOf_32 (by decide) (fun c_16 => ?_) (fun c_16 => ?_)
  · have hres := hres.trans (if_neg c_16)
    have hs := hs c_16
    exact b_37 a1 a2 _ _ _ (lv_sub hl [0, 1, 2] rfl) hP hS hs hres
  have hres := hres.trans (if_pos c_16)
  refine lv_iconst (v := -1) hx hb dX9_wordOf_35 (by decide) ?_
  exact gh_iretR hx hb hr hlocks hP hS hT hres dX9_wordOf_36
theorem gv_RX9_54 : GoodIn wsL_law (wsV RX9 54 RX9 yX9_isPlayer wc_X9_isPlayer) := gh_gV uw262 uw263 uw264 uw5 uw265
def BX9_playerOf_44   (x1 : Int32) (x2 : Int32) (V : gV) : Int32 := (V 214 ((MX9_at x1 x2 V)).toNatClampNeg)
def PX9_playerOf_44   (x1 : Int32) (x2 : Int32) (V : gV) : Prop := (vp_in (MX9_at x1 x2 V) 246)
def MX9_playerOf  (a1 : Int32) (a2 : Int32) (V : gV) : Int32 := if (MX9_isPlayer a1 V) = 0 then ((-1 : Int32)) else (if (MX9_in a2 (0 : Int32) (5 : Int32) V) = 0 then ((-1 : Int32)) else (if a2 ≤ (3 : Int32) then (BX9_playerOf_44 a1 a2 V) else (if (V 214 ((MX9_at a1 (4 : Int32) V)).toNatClampNeg) = (26 : Int32) then ((-4 : Int32)) else (BX9_playerOf_44 a1 a2 V))))
def PX9_playerOf  (a1 : Int32) (a2 : Int32) (V : gV) : Prop := ((¬ (MX9_isPlayer a1 V) = 0 → ((¬ (MX9_in a2 (0 : Int32) (5 : Int32) V) = 0 → ((a2 ≤ (3 : Int32) → (PX9_playerOf_44 a1 a2 V)) ∧ (¬ a2 ≤ (3 : Int32) → (vp_in (MX9_at a1 (4 : Int32) V) 246) ∧ ((¬ (V 214 ((MX9_at a1 (4 : Int32) V)).toNatClampNeg) = (26 : Int32) → (PX9_playerOf_44 a1 a2 V)))))))))
abbrev wc_X9_playerOf : List Cond := Cond.code yX9_playerOf cX9_playerOf 3 (some .int) :: wsL_law
abbrev r_X9_playerOf : Room := { frames := 1, cells := 0, slots := 0, locals := 22 }
theorem dd_X9_playerOf : yX9_playerOf.cls = RX9 ∧ yX9_playerOf.cls ≠ "java/lang/invoke/MethodHandle" ∧ yX9_playerOf.cls ≠ "java/lang/invoke/VarHandle" ∧ (parseMethodDescriptor yX9_playerOf.desc).map (fun d => d.parameters.length) = some 2 := by decide +kernel
set_option maxHeartbeats 8000000 in
set_option maxRecDepth 100000 in
theorem cc_X9_playerOf (l : Launch) (G : gG) (V : gV)   (a1 : Int32) (a2 : Int32) (hs : PX9_playerOf a1 a2 V) : Met l yX9_playerOf wc_X9_playerOf r_X9_playerOf (va_Pc [.ref (gA G 213), .int a1, .int a2] (gW G V)) (gQR G (MX9_playerOf a1 a2 V) V) 0 0 (gF G) := by
  refine Met.ofW (cc := cX9_playerOf) (maxL := 3) (ret := (some .int)) (by decide) rfl ?_
  intro p e s m args below meth c s₁ B hml hv
  obtain ⟨rfl, hP, hT⟩ := hv
  have hx := B.exec
  have hb := B.bytes
  have hr := B.returns
  have hw := gh_hw (atoms_spec (ws := wc_X9_playerOf) B.pre)
  have hown : s.vm.findClass RX9 = some m.cls := findClass_of_methodNamed B.named
  have hlocks := B.notSynchronized
  have hS : va_S (gF G) s.heap s.heap [] := va_S.rf
  have hl := lv_entry ([.ref (gA G 213), .int a1, .int a2]) (n := 3) (Nat.le_of_ble_eq_true rfl)
  rw [lg_entry_eq]
  generalize (lg_sl ([.ref (gA G 213), .int a1, .int a2]) ++ List.replicate (3 - (lg_sl ([.ref (gA G 213), .int a1, .int a2])).length) Slot.unset).toArray = ls at hl ⊢
  have hl : lv_has ls 3 [(0, .ref (gA G 213)), (1, .int a1), (2, .int a2)] := hl
  obtain ⟨res, hres⟩ : ∃ r, r = MX9_playerOf a1 a2 V := ⟨_, rfl⟩
  rw [← hres]
  show W p l e r_X9_playerOf s m ([.ref (gA G 213), .int a1, .int a2] : List Value).toArray below meth c s.heap [] 0 0 (MQ below (gQR G res V) ([.ref (gA G 213), .int a1, .int a2] : List Value).toArray s 0 0 (gF G)) (F0 m 0 ls [])
  have hs : ((¬ (MX9_isPlayer a1 V) = 0 → ((¬ (MX9_in a2 (0 : Int32) (5 : Int32) V) = 0 → ((a2 ≤ (3 : Int32) → (PX9_playerOf_44 a1 a2 V)) ∧ (¬ a2 ≤ (3 : Int32) → (vp_in (MX9_at a1 (4 : Int32) V) 246) ∧ ((¬ (V 214 ((MX9_at a1 (4 : Int32) V)).toNatClampNeg) = (26 : Int32) → (PX9_playerOf_44 a1 a2 V))))))))) := hs
  have hres : res = (if (MX9_isPlayer a1 V) = 0 then ((-1 : Int32)) else (if (MX9_in a2 (0 : Int32) (5 : Int32) V) = 0 then ((-1 : Int32)) else (if a2 ≤ (3 : Int32) then (BX9_playerOf_44 a1 a2 V) else (if (V 214 ((MX9_at a1 (4 : Int32) V)).toNatClampNeg) = (26 : Int32) then ((-4 : Int32)) else (BX9_playerOf_44 a1 a2 V))))) := hres
  have b_44 : ∀ (x1 : Int32) (x2 : Int32) (H : Heap) (locs : List Loc) (ls : Array Slot), lv_has ls 3 [(0, .ref (gA G 213)), (1, .int x1), (2, .int x2)] → va_P (gD G) vwCl (gL G V) H → va_S (gF G) s.heap H locs → PX9_playerOf_44  x1 x2 V → res = BX9_playerOf_44  x1 x2 V → W p l e r_X9_playerOf s m ([.ref (gA G 213), .int a1, .int a2] : List Value).toArray below meth c H locs 0 0 (MQ below (gQR G res V) ([.ref (gA G 213), .int a1, .int a2] : List Value).toArray s 0 0 (gF G)) (F0 m 44 ls []) := by
    intro x1 x2 H locs ls hl hP hS hs hres
    have hs : (vp_in (MX9_at x1 x2 V) 246) := hs
    have hres : res = ((V 214 ((MX9_at x1 x2 V)).toNatClampNeg)) := hres
    refine lv_aload_n hx hb dX9_playerOf_44 rfl (lv_at hl 0 rfl) ?_
    refine gh_get (v := .ref (gA G 214)) (C := RX9) (T := TX9) (N := 11) hx hb hw inlX9 hown hT hP 213 (Nat.le_of_ble_eq_true rfl) kd213 rfl rfl 0 (by decide) (hw _ uw117) rfl dX9_playerOf_45 ?_
    refine lv_iload_n hx hb dX9_playerOf_48 rfl (lv_at hl 1 rfl) ?_
    refine lv_iload_n hx hb dX9_playerOf_49 rfl (lv_at hl 2 rfl) ?_
    refine gh_kr (va_runS (As := [.int x1, .int x2]) (rest := [.ref (gA G 214)]) ⟨hx, hb, hml, hown, hw⟩ (cc_X9_at l G V x1 x2) (va_cwS 2 hw gv_RX9_51 rfl rfl rfl dd_X9_at.2 ⟨Nat.le_of_ble_eq_true rfl, Nat.le_of_ble_eq_true rfl⟩) (gh_pre hT hP) rfl rfl hl.1 rfl (lv_room (Nat.le_of_ble_eq_true rfl)) dX9_playerOf_50 ⟨Nat.zero_le _, Nat.zero_le _⟩) hS (fun H locs hP hS => ?_)
    have ho_4 := hs
    refine gh_iald hx hb hT hP 214 (Nat.le_of_ble_eq_true rfl) kd214 ho_4 dX9_playerOf_53 ?_
    exact gh_iretR hx hb hr hlocks hP hS hT hres dX9_playerOf_54
  refine lv_aload_n hx hb dX9_playerOf_0 rfl (lv_at hl 0 rfl) ?_
  refine lv_iload_n hx hb dX9_playerOf_1 rfl (lv_at hl 1 rfl) ?_
  refine gh_kr (va_runV (As := [.int a1]) (rest := []) ⟨hx, hb, hml, hown, hw⟩ (cc_X9_isPlayer l G V a1) (cwV 1 hw gv_RX9_54 rfl rfl rfl dd_X9_isPlayer ⟨Nat.le_of_ble_eq_true rfl, Nat.le_of_ble_eq_true rfl⟩) (gh_preV hT hP (Nat.le_of_ble_eq_true rfl) kd213 rfl rfl) rfl rfl hl.1 rfl (lv_room (Nat.le_of_ble_eq_true rfl)) dX9_playerOf_2 ⟨Nat.zero_le _, Nat.zero_le _⟩) hS (fun H locs hP hS => ?_)
  refine lv_if_eq (tgt := 17) hx hb dX9_playerOf_5 (by decide) (fun c_1 => ?_) (fun c_1 => ?_)
  · have hres := hres.trans (if_pos c_1)
    refine lv_iconst (v := -1) hx hb dX9_playerOf_17 (by decide) ?_
    exact gh_iretR hx hb hr hlocks hP hS hT hres dX9_playerOf_18
  have hres := hres.trans (if_neg c_1)
  have hs := hs c_1
  refine lv_iload_n hx hb dX9_playerOf_8 rfl (lv_at hl 2 rfl) ?_
  refine lv_iconst (v := 0) hx hb dX9_playerOf_9 (by decide) ?_
  refine lv_iconst (v := 5) hx hb dX9_playerOf_10 (by decide) ?_
  refine gh_kr (va_runS (As := [.int a2, .int (0 : Int32), .int (5 : Int32)]) (rest := []) ⟨hx, hb, hml, hown, hw⟩ (cc_X9_in l G V a2 (0 : Int32) (5 : Int32)) (va_cwS 3 hw gv_RX9_40 rfl rfl rfl dd_X9_in.2 ⟨Nat.le_of_ble_eq_true rfl, Nat.le_of_ble_eq_true rfl⟩) (gh_pre hT hP) rfl rfl hl.1 rfl (lv_room (Nat.le_of_ble_eq_true rfl)) dX9_playerOf_11 ⟨Nat.zero_le _, Nat.zero_le _⟩) hS (fun H locs hP hS => ?_)
  refine lv_if_ne (tgt := 19) hx hb dX9_playerOf_14 (by decide) (fun c_2 => ?_) (fun c_2 => ?_)
  · have hres := hres.trans (if_neg c_2)
    have hs := hs c_2
    refine lv_iload_n hx hb dX9_playerOf_19 rfl (lv_at hl 2 rfl) ?_
    refine lv_iconst (v := 3) hx hb dX9_playerOf_20 (by decide) ?_
    refine lv_icmp_le (tgt := 44) hx hb dX9_playerOf_21 (by decide) (fun c_3 => ?_) (fun c_3 => ?_)
    · have hres := hres.trans (if_pos c_3)
      have hs := hs.1 c_3
      exact b_44 a1 a2 _ _ _ (lv_sub hl [0, 1, 2] rfl) hP hS hs hres
    have hres := hres.trans (if_neg c_3)
    have hs := hs.2 c_3
    refine lv_aload_n hx hb dX9_playerOf_24 rfl (lv_at hl 0 rfl) ?_
    refine gh_get (v := .ref (gA G 214)) (C := RX9) (T := TX9) (N := 11) hx hb hw inlX9 hown hT hP 213 (Nat.le_of_ble_eq_true rfl) kd213 rfl rfl 0 (by decide) (hw _ uw117) rfl dX9_playerOf_25 ?_
    refine lv_iload_n hx hb dX9_playerOf_28 rfl (lv_at hl 1 rfl) ?_
    refine lv_iconst (v := 4) hx hb dX9_playerOf_29 (by decide) ?_
    refine gh_kr (va_runS (As := [.int a1, .int (4 : Int32)]) (rest := [.ref (gA G 214)]) ⟨hx, hb, hml, hown, hw⟩ (cc_X9_at l G V a1 (4 : Int32)) (va_cwS 2 hw gv_RX9_51 rfl rfl rfl dd_X9_at.2 ⟨Nat.le_of_ble_eq_true rfl, Nat.le_of_ble_eq_true rfl⟩) (gh_pre hT hP) rfl rfl hl.1 rfl (lv_room (Nat.le_of_ble_eq_true rfl)) dX9_playerOf_30 ⟨Nat.zero_le _, Nat.zero_le _⟩) hS (fun H locs hP hS => ?_)
    obtain ⟨ho_5, hs⟩ := hs
    refine gh_iald hx hb hT hP 214 (Nat.le_of_ble_eq_true rfl) kd214 ho_5 dX9_playerOf_33 ?_
    refine lv_bipush (v := 26) hx hb dX9_playerOf_34 (by decide) ?_
    refine lv_icmp_ne (tgt := 44) hx hb dX9_playerOf_36 (by decide) (fun c_6 => ?_) (fun c_6 => ?_)
    · have hres := hres.trans (if_neg c_6)
      have hs := hs c_6
      exact b_44 a1 a2 _ _ _ (lv_sub hl [0, 1, 2] rfl) hP hS hs hres
    have hres := hres.trans (if_pos c_6)
    refine lv_bipush (v := -4) hx hb dX9_playerOf_39 (by decide) ?_
    refine lv_goto (tgt := 54) hx hb dX9_playerOf_41 (by decide) ?_
    exact gh_iretR hx hb hr hlocks hP hS hT hres dX9_playerOf_54
  have hres := hres.trans (if_pos c_2)
  refine lv_iconst (v := -1) hx hb dX9_playerOf_17 (by decide) ?_
  exact gh_iretR hx hb hr hlocks hP hS hT hres dX9_playerOf_18
def MX9_open  (a1 : Int32) (V : gV) : Int32 := if 0 ≤ a1 then (if (MX9_runs V) = 0 then ((-2 : Int32)) else (if a1 < (MX9_of (V 214 ((13 : Int32)).toNatClampNeg) (0 : Int32) V) then (if (((V 214 ((7 : Int32)).toNatClampNeg) >>> (a1 &&& 31)) &&& (1 : Int32)) = (1 : Int32) then ((MX9_letterAt (V 214 ((13 : Int32)).toNatClampNeg) a1 V)) else ((26 : Int32))) else ((-4 : Int32)))) else ((-1 : Int32))
def PX9_open  (a1 : Int32) (V : gV) : Prop := ((0 ≤ a1 → ((¬ (MX9_runs V) = 0 → (PX9_of (V 214 ((13 : Int32)).toNatClampNeg) (0 : Int32) V) ∧ ((a1 < (MX9_of (V 214 ((13 : Int32)).toNatClampNeg) (0 : Int32) V) → (((((V 214 ((7 : Int32)).toNatClampNeg) >>> (a1 &&& 31)) &&& (1 : Int32)) = (1 : Int32) → (PX9_letterAt (V 214 ((13 : Int32)).toNatClampNeg) a1 V)))))))))
abbrev wc_X9_open : List Cond := Cond.code yX9_open cX9_open 2 (some .int) :: wsL_law
abbrev r_X9_open : Room := { frames := 2, cells := 0, slots := 0, locals := 44 }
theorem dd_X9_open : yX9_open.cls = RX9 ∧ yX9_open.cls ≠ "java/lang/invoke/MethodHandle" ∧ yX9_open.cls ≠ "java/lang/invoke/VarHandle" ∧ (parseMethodDescriptor yX9_open.desc).map (fun d => d.parameters.length) = some 1 := by decide +kernel
set_option maxHeartbeats 8000000 in
set_option maxRecDepth 100000 in
theorem cc_X9_open (l : Launch) (G : gG) (V : gV)   (a1 : Int32) (hs : PX9_open a1 V) : Met l yX9_open wc_X9_open r_X9_open (va_Pc [.ref (gA G 213), .int a1] (gW G V)) (gQR G (MX9_open a1 V) V) 0 0 (gF G) := by
  refine Met.ofW (cc := cX9_open) (maxL := 2) (ret := (some .int)) (by decide) rfl ?_
  intro p e s m args below meth c s₁ B hml hv
  obtain ⟨rfl, hP, hT⟩ := hv
  have hx := B.exec
  have hb := B.bytes
  have hr := B.returns
  have hw := gh_hw (atoms_spec (ws := wc_X9_open) B.pre)
  have hown : s.vm.findClass RX9 = some m.cls := findClass_of_methodNamed B.named
  have hlocks := B.notSynchronized
  have hS : va_S (gF G) s.heap s.heap [] := va_S.rf
  have hl := lv_entry ([.ref (gA G 213), .int a1]) (n := 2) (Nat.le_of_ble_eq_true rfl)
  rw [lg_entry_eq]
  generalize (lg_sl ([.ref (gA G 213), .int a1]) ++ List.replicate (2 - (lg_sl ([.ref (gA G 213), .int a1])).length) Slot.unset).toArray = ls at hl ⊢
  have hl : lv_has ls 2 [(0, .ref (gA G 213)), (1, .int a1)] := hl
  obtain ⟨res, hres⟩ : ∃ r, r = MX9_open a1 V := ⟨_, rfl⟩
  rw [← hres]
  show W p l e r_X9_open s m ([.ref (gA G 213), .int a1] : List Value).toArray below meth c s.heap [] 0 0 (MQ below (gQR G res V) ([.ref (gA G 213), .int a1] : List Value).toArray s 0 0 (gF G)) (F0 m 0 ls [])
  have hs : ((0 ≤ a1 → ((¬ (MX9_runs V) = 0 → (PX9_of (V 214 ((13 : Int32)).toNatClampNeg) (0 : Int32) V) ∧ ((a1 < (MX9_of (V 214 ((13 : Int32)).toNatClampNeg) (0 : Int32) V) → (((((V 214 ((7 : Int32)).toNatClampNeg) >>> (a1 &&& 31)) &&& (1 : Int32)) = (1 : Int32) → (PX9_letterAt (V 214 ((13 : Int32)).toNatClampNeg) a1 V))))))))) := hs
  have hres : res = (if 0 ≤ a1 then (if (MX9_runs V) = 0 then ((-2 : Int32)) else (if a1 < (MX9_of (V 214 ((13 : Int32)).toNatClampNeg) (0 : Int32) V) then (if (((V 214 ((7 : Int32)).toNatClampNeg) >>> (a1 &&& 31)) &&& (1 : Int32)) = (1 : Int32) then ((MX9_letterAt (V 214 ((13 : Int32)).toNatClampNeg) a1 V)) else ((26 : Int32))) else ((-4 : Int32)))) else ((-1 : Int32))) := hres
  refine lv_iload_n hx hb dX9_open_0 rfl (lv_at hl 1 rfl) ?_
  refine lv_if_ge (tgt := 6) hx hb dX9_open_1 (by decide) (fun c_1 => ?_) (fun c_1 => ?_)
  · have hres := hres.trans (if_pos c_1)
    have hs := hs c_1
    refine lv_aload_n hx hb dX9_open_6 rfl (lv_at hl 0 rfl) ?_
    refine gh_kr (va_runV (As := []) (rest := []) ⟨hx, hb, hml, hown, hw⟩ (cc_X9_runs l G V) (cwV 0 hw gv_RX9_44 rfl rfl rfl dd_X9_runs ⟨Nat.le_of_ble_eq_true rfl, Nat.le_of_ble_eq_true rfl⟩) (gh_preV hT hP (Nat.le_of_ble_eq_true rfl) kd213 rfl rfl) rfl rfl hl.1 rfl (lv_room (Nat.le_of_ble_eq_true rfl)) dX9_open_7 ⟨Nat.zero_le _, Nat.zero_le _⟩) hS (fun H locs hP hS => ?_)
    refine lv_if_ne (tgt := 16) hx hb dX9_open_10 (by decide) (fun c_2 => ?_) (fun c_2 => ?_)
    · have hres := hres.trans (if_neg c_2)
      have hs := hs c_2
      refine lv_iload_n hx hb dX9_open_16 rfl (lv_at hl 1 rfl) ?_
      refine lv_aload_n hx hb dX9_open_17 rfl (lv_at hl 0 rfl) ?_
      refine lv_aload_n hx hb dX9_open_18 rfl (lv_at hl 0 rfl) ?_
      refine gh_get (v := .ref (gA G 214)) (C := RX9) (T := TX9) (N := 11) hx hb hw inlX9 hown hT hP 213 (Nat.le_of_ble_eq_true rfl) kd213 rfl rfl 0 (by decide) (hw _ uw117) rfl dX9_open_19 ?_
      refine lv_bipush (v := 13) hx hb dX9_open_22 (by decide) ?_
      refine gh_iald hx hb hT hP 214 (Nat.le_of_ble_eq_true rfl) kd214 (gh_ci (by decide)) dX9_open_24 ?_
      refine lv_iconst (v := 0) hx hb dX9_open_25 (by decide) ?_
      obtain ⟨ho_3, hs⟩ := hs
      refine gh_kr (va_runV (As := [.int (V 214 ((13 : Int32)).toNatClampNeg), .int (0 : Int32)]) (rest := [.int a1]) ⟨hx, hb, hml, hown, hw⟩ (cc_X9_of l G V (V 214 ((13 : Int32)).toNatClampNeg) (0 : Int32) ho_3) (cwV 2 hw gv_RX9_29 rfl rfl rfl dd_X9_of ⟨Nat.le_of_ble_eq_true rfl, Nat.le_of_ble_eq_true rfl⟩) (gh_preV hT hP (Nat.le_of_ble_eq_true rfl) kd213 rfl rfl) rfl rfl hl.1 rfl (lv_room (Nat.le_of_ble_eq_true rfl)) dX9_open_26 ⟨Nat.zero_le _, Nat.zero_le _⟩) hS (fun H locs hP hS => ?_)
      refine lv_icmp_lt (tgt := 35) hx hb dX9_open_29 (by decide) (fun c_4 => ?_) (fun c_4 => ?_)
      · have hres := hres.trans (if_pos c_4)
        have hs := hs c_4
        refine lv_aload_n hx hb dX9_open_35 rfl (lv_at hl 0 rfl) ?_
        refine gh_get (v := .ref (gA G 214)) (C := RX9) (T := TX9) (N := 11) hx hb hw inlX9 hown hT hP 213 (Nat.le_of_ble_eq_true rfl) kd213 rfl rfl 0 (by decide) (hw _ uw117) rfl dX9_open_36 ?_
        refine lv_bipush (v := 7) hx hb dX9_open_39 (by decide) ?_
        refine gh_iald hx hb hT hP 214 (Nat.le_of_ble_eq_true rfl) kd214 (gh_ci (by decide)) dX9_open_41 ?_
        refine lv_iload_n hx hb dX9_open_42 rfl (lv_at hl 1 rfl) ?_
        refine lv_ishr hx hb dX9_open_43 ?_
        refine lv_iconst (v := 1) hx hb dX9_open_44 (by decide) ?_
        refine lv_iand hx hb dX9_open_45 ?_
        refine lv_iconst (v := 1) hx hb dX9_open_46 (by decide) ?_
        refine lv_icmp_ne (tgt := 65) hx hb dX9_open_47 (by decide) (fun c_5 => ?_) (fun c_5 => ?_)
        · have hres := hres.trans (if_neg c_5)
          refine lv_bipush (v := 26) hx hb dX9_open_65 (by decide) ?_
          exact gh_iretR hx hb hr hlocks hP hS hT hres dX9_open_67
        have hres := hres.trans (if_pos c_5)
        have hs := hs c_5
        refine lv_aload_n hx hb dX9_open_50 rfl (lv_at hl 0 rfl) ?_
        refine lv_aload_n hx hb dX9_open_51 rfl (lv_at hl 0 rfl) ?_
        refine gh_get (v := .ref (gA G 214)) (C := RX9) (T := TX9) (N := 11) hx hb hw inlX9 hown hT hP 213 (Nat.le_of_ble_eq_true rfl) kd213 rfl rfl 0 (by decide) (hw _ uw117) rfl dX9_open_52 ?_
        refine lv_bipush (v := 13) hx hb dX9_open_55 (by decide) ?_
        refine gh_iald hx hb hT hP 214 (Nat.le_of_ble_eq_true rfl) kd214 (gh_ci (by decide)) dX9_open_57 ?_
        refine lv_iload_n hx hb dX9_open_58 rfl (lv_at hl 1 rfl) ?_
        have ho_6 := hs
        refine gh_kr (va_runV (As := [.int (V 214 ((13 : Int32)).toNatClampNeg), .int a1]) (rest := []) ⟨hx, hb, hml, hown, hw⟩ (cc_X9_letterAt l G V (V 214 ((13 : Int32)).toNatClampNeg) a1 ho_6) (cwV 2 hw gv_RX9_33 rfl rfl rfl dd_X9_letterAt ⟨Nat.le_of_ble_eq_true rfl, Nat.le_of_ble_eq_true rfl⟩) (gh_preV hT hP (Nat.le_of_ble_eq_true rfl) kd213 rfl rfl) rfl rfl hl.1 rfl (lv_room (Nat.le_of_ble_eq_true rfl)) dX9_open_59 ⟨Nat.zero_le _, Nat.zero_le _⟩) hS (fun H locs hP hS => ?_)
        refine lv_goto (tgt := 67) hx hb dX9_open_62 (by decide) ?_
        exact gh_iretR hx hb hr hlocks hP hS hT hres dX9_open_67
      have hres := hres.trans (if_neg c_4)
      refine lv_bipush (v := -4) hx hb dX9_open_32 (by decide) ?_
      exact gh_iretR hx hb hr hlocks hP hS hT hres dX9_open_34
    have hres := hres.trans (if_pos c_2)
    refine lv_bipush (v := -2) hx hb dX9_open_13 (by decide) ?_
    exact gh_iretR hx hb hr hlocks hP hS hT hres dX9_open_15
  have hres := hres.trans (if_neg c_1)
  refine lv_iconst (v := -1) hx hb dX9_open_4 (by decide) ?_
  exact gh_iretR hx hb hr hlocks hP hS hT hres dX9_open_5
def MX9_round  (a1 : Int32) (a2 : Int32) (V : gV) : Int32 := if a1 < 0 then ((-1 : Int32)) else (if (MX9_in a2 (0 : Int32) (3 : Int32) V) = 0 then ((-1 : Int32)) else (if (V 214 ((15 : Int32)).toNatClampNeg) ≤ a1 then ((-4 : Int32)) else ((V 214 ((((222 : Int32) + ((4 : Int32) * a1)) + a2)).toNatClampNeg))))
def PX9_round  (a1 : Int32) (a2 : Int32) (V : gV) : Prop := ((¬ a1 < 0 → ((¬ (MX9_in a2 (0 : Int32) (3 : Int32) V) = 0 → ((¬ (V 214 ((15 : Int32)).toNatClampNeg) ≤ a1 → (vp_in (((222 : Int32) + ((4 : Int32) * a1)) + a2) 246)))))))
abbrev wc_X9_round : List Cond := Cond.code yX9_round cX9_round 3 (some .int) :: wsL_law
abbrev r_X9_round : Room := { frames := 1, cells := 0, slots := 0, locals := 22 }
theorem dd_X9_round : yX9_round.cls = RX9 ∧ yX9_round.cls ≠ "java/lang/invoke/MethodHandle" ∧ yX9_round.cls ≠ "java/lang/invoke/VarHandle" ∧ (parseMethodDescriptor yX9_round.desc).map (fun d => d.parameters.length) = some 2 := by decide +kernel
set_option maxHeartbeats 8000000 in
set_option maxRecDepth 100000 in
theorem cc_X9_round (l : Launch) (G : gG) (V : gV)   (a1 : Int32) (a2 : Int32) (hs : PX9_round a1 a2 V) : Met l yX9_round wc_X9_round r_X9_round (va_Pc [.ref (gA G 213), .int a1, .int a2] (gW G V)) (gQR G (MX9_round a1 a2 V) V) 0 0 (gF G) := by
  refine Met.ofW (cc := cX9_round) (maxL := 3) (ret := (some .int)) (by decide) rfl ?_
  intro p e s m args below meth c s₁ B hml hv
  obtain ⟨rfl, hP, hT⟩ := hv
  have hx := B.exec
  have hb := B.bytes
  have hr := B.returns
  have hw := gh_hw (atoms_spec (ws := wc_X9_round) B.pre)
  have hown : s.vm.findClass RX9 = some m.cls := findClass_of_methodNamed B.named
  have hlocks := B.notSynchronized
  have hS : va_S (gF G) s.heap s.heap [] := va_S.rf
  have hl := lv_entry ([.ref (gA G 213), .int a1, .int a2]) (n := 3) (Nat.le_of_ble_eq_true rfl)
  rw [lg_entry_eq]
  generalize (lg_sl ([.ref (gA G 213), .int a1, .int a2]) ++ List.replicate (3 - (lg_sl ([.ref (gA G 213), .int a1, .int a2])).length) Slot.unset).toArray = ls at hl ⊢
  have hl : lv_has ls 3 [(0, .ref (gA G 213)), (1, .int a1), (2, .int a2)] := hl
  obtain ⟨res, hres⟩ : ∃ r, r = MX9_round a1 a2 V := ⟨_, rfl⟩
  rw [← hres]
  show W p l e r_X9_round s m ([.ref (gA G 213), .int a1, .int a2] : List Value).toArray below meth c s.heap [] 0 0 (MQ below (gQR G res V) ([.ref (gA G 213), .int a1, .int a2] : List Value).toArray s 0 0 (gF G)) (F0 m 0 ls [])
  have hs : ((¬ a1 < 0 → ((¬ (MX9_in a2 (0 : Int32) (3 : Int32) V) = 0 → ((¬ (V 214 ((15 : Int32)).toNatClampNeg) ≤ a1 → (vp_in (((222 : Int32) + ((4 : Int32) * a1)) + a2) 246))))))) := hs
  have hres : res = (if a1 < 0 then ((-1 : Int32)) else (if (MX9_in a2 (0 : Int32) (3 : Int32) V) = 0 then ((-1 : Int32)) else (if (V 214 ((15 : Int32)).toNatClampNeg) ≤ a1 then ((-4 : Int32)) else ((V 214 ((((222 : Int32) + ((4 : Int32) * a1)) + a2)).toNatClampNeg))))) := hres
  refine lv_iload_n hx hb dX9_round_0 rfl (lv_at hl 1 rfl) ?_
  refine lv_if_lt (tgt := 13) hx hb dX9_round_1 (by decide) (fun c_1 => ?_) (fun c_1 => ?_)
  · have hres := hres.trans (if_pos c_1)
    refine lv_iconst (v := -1) hx hb dX9_round_13 (by decide) ?_
    exact gh_iretR hx hb hr hlocks hP hS hT hres dX9_round_14
  have hres := hres.trans (if_neg c_1)
  have hs := hs c_1
  refine lv_iload_n hx hb dX9_round_4 rfl (lv_at hl 2 rfl) ?_
  refine lv_iconst (v := 0) hx hb dX9_round_5 (by decide) ?_
  refine lv_iconst (v := 3) hx hb dX9_round_6 (by decide) ?_
  refine gh_kr (va_runS (As := [.int a2, .int (0 : Int32), .int (3 : Int32)]) (rest := []) ⟨hx, hb, hml, hown, hw⟩ (cc_X9_in l G V a2 (0 : Int32) (3 : Int32)) (va_cwS 3 hw gv_RX9_40 rfl rfl rfl dd_X9_in.2 ⟨Nat.le_of_ble_eq_true rfl, Nat.le_of_ble_eq_true rfl⟩) (gh_pre hT hP) rfl rfl hl.1 rfl (lv_room (Nat.le_of_ble_eq_true rfl)) dX9_round_7 ⟨Nat.zero_le _, Nat.zero_le _⟩) hS (fun H locs hP hS => ?_)
  refine lv_if_ne (tgt := 15) hx hb dX9_round_10 (by decide) (fun c_2 => ?_) (fun c_2 => ?_)
  · have hres := hres.trans (if_neg c_2)
    have hs := hs c_2
    refine lv_iload_n hx hb dX9_round_15 rfl (lv_at hl 1 rfl) ?_
    refine lv_aload_n hx hb dX9_round_16 rfl (lv_at hl 0 rfl) ?_
    refine gh_get (v := .ref (gA G 214)) (C := RX9) (T := TX9) (N := 11) hx hb hw inlX9 hown hT hP 213 (Nat.le_of_ble_eq_true rfl) kd213 rfl rfl 0 (by decide) (hw _ uw117) rfl dX9_round_17 ?_
    refine lv_bipush (v := 15) hx hb dX9_round_20 (by decide) ?_
    refine gh_iald hx hb hT hP 214 (Nat.le_of_ble_eq_true rfl) kd214 (gh_ci (by decide)) dX9_round_22 ?_
    refine lv_icmp_ge (tgt := 43) hx hb dX9_round_23 (by decide) (fun c_3 => ?_) (fun c_3 => ?_)
    · have hres := hres.trans (if_pos c_3)
      refine lv_bipush (v := -4) hx hb dX9_round_43 (by decide) ?_
      exact gh_iretR hx hb hr hlocks hP hS hT hres dX9_round_45
    have hres := hres.trans (if_neg c_3)
    have hs := hs c_3
    refine lv_aload_n hx hb dX9_round_26 rfl (lv_at hl 0 rfl) ?_
    refine gh_get (v := .ref (gA G 214)) (C := RX9) (T := TX9) (N := 11) hx hb hw inlX9 hown hT hP 213 (Nat.le_of_ble_eq_true rfl) kd213 rfl rfl 0 (by decide) (hw _ uw117) rfl dX9_round_27 ?_
    refine lv_sipush (v := 222) hx hb dX9_round_30 (by decide) ?_
    refine lv_iconst (v := 4) hx hb dX9_round_33 (by decide) ?_
    refine lv_iload_n hx hb dX9_round_34 rfl (lv_at hl 1 rfl) ?_
    refine lv_imul hx hb dX9_round_35 ?_
    refine lv_iadd hx hb dX9_round_36 ?_
    refine lv_iload_n hx hb dX9_round_37 rfl (lv_at hl 2 rfl) ?_
    refine lv_iadd hx hb dX9_round_38 ?_
    have ho_4 := hs
    refine gh_iald hx hb hT hP 214 (Nat.le_of_ble_eq_true rfl) kd214 ho_4 dX9_round_39 ?_
    refine lv_goto (tgt := 45) hx hb dX9_round_40 (by decide) ?_
    exact gh_iretR hx hb hr hlocks hP hS hT hres dX9_round_45
  have hres := hres.trans (if_pos c_2)
  refine lv_iconst (v := -1) hx hb dX9_round_13 (by decide) ?_
  exact gh_iretR hx hb hr hlocks hP hS hT hres dX9_round_14
def BX9_count_80   (x1 : Int32) (V : gV) : Int32 := (V 214 (x1).toNatClampNeg)
def PX9_count_80   (x1 : Int32) (V : gV) : Prop := (vp_in x1 246)
def BX9_count_87   (x1 : Int32) (V : gV) : Int32 := if (MX9_runs V) = 0 then ((-4 : Int32)) else ((V 214 (x1).toNatClampNeg))
def PX9_count_87   (x1 : Int32) (V : gV) : Prop := ((¬ (MX9_runs V) = 0 → (vp_in x1 246)))
def BX9_count_129   (x1 : Int32) (V : gV) : Int32 := (V 214 (x1).toNatClampNeg)
def PX9_count_129   (x1 : Int32) (V : gV) : Prop := (vp_in x1 246)
def MX9_count  (a1 : Int32) (V : gV) : Int32 := if a1 = 0 then (BX9_count_80 a1 V) else (if a1 = 1 then (BX9_count_80 a1 V) else (if a1 = 2 then (BX9_count_80 a1 V) else (if a1 = 3 then (BX9_count_87 a1 V) else (if a1 = 4 then (BX9_count_87 a1 V) else (if a1 = 5 then (BX9_count_87 a1 V) else (if a1 = 6 then (BX9_count_87 a1 V) else (if a1 = 7 then (if (MX9_runs V) = 0 then ((-4 : Int32)) else ((MX9_ones (V 214 ((7 : Int32)).toNatClampNeg) V))) else (if a1 = 8 then (BX9_count_129 a1 V) else (if a1 = 9 then (BX9_count_129 a1 V) else (if a1 = 10 then (BX9_count_129 a1 V) else (if a1 = 11 then ((MX9_weights V)) else (if a1 = 12 then ((V 213 4)) else (if a1 = 13 then ((V 213 6)) else (if a1 = 14 then (if (V 213 3) = 0 then ((0 : Int32)) else ((1 : Int32))) else (if a1 = 15 then ((V 214 ((11 : Int32)).toNatClampNeg)) else ((-1 : Int32)))))))))))))))))
def PX9_count  (a1 : Int32) (V : gV) : Prop := ((a1 = 0 → (PX9_count_80 a1 V)) ∧ (¬ a1 = 0 → ((a1 = 1 → (PX9_count_80 a1 V)) ∧ (¬ a1 = 1 → ((a1 = 2 → (PX9_count_80 a1 V)) ∧ (¬ a1 = 2 → ((a1 = 3 → (PX9_count_87 a1 V)) ∧ (¬ a1 = 3 → ((a1 = 4 → (PX9_count_87 a1 V)) ∧ (¬ a1 = 4 → ((a1 = 5 → (PX9_count_87 a1 V)) ∧ (¬ a1 = 5 → ((a1 = 6 → (PX9_count_87 a1 V)) ∧ (¬ a1 = 6 → ((a1 = 7 → ((¬ (MX9_runs V) = 0 → (PX9_ones (V 214 ((7 : Int32)).toNatClampNeg) V)))) ∧ (¬ a1 = 7 → ((a1 = 8 → (PX9_count_129 a1 V)) ∧ (¬ a1 = 8 → ((a1 = 9 → (PX9_count_129 a1 V)) ∧ (¬ a1 = 9 → ((a1 = 10 → (PX9_count_129 a1 V)) ∧ (¬ a1 = 10 → ((a1 = 11 → (PX9_weights V)))))))))))))))))))))))))
abbrev wc_X9_count : List Cond := Cond.code yX9_count cX9_count 2 (some .int) :: wsL_law
abbrev r_X9_count : Room := { frames := 2, cells := 0, slots := 0, locals := 44 }
theorem dd_X9_count : yX9_count.cls = RX9 ∧ yX9_count.cls ≠ "java/lang/invoke/MethodHandle" ∧ yX9_count.cls ≠ "java/lang/invoke/VarHandle" ∧ (parseMethodDescriptor yX9_count.desc).map (fun d => d.parameters.length) = some 1 := by decide +kernel
set_option maxHeartbeats 8000000 in
set_option maxRecDepth 100000 in
theorem cc_X9_count (l : Launch) (G : gG) (V : gV)   (a1 : Int32) (hs : PX9_count a1 V) : Met l yX9_count wc_X9_count r_X9_count (va_Pc [.ref (gA G 213), .int a1] (gW G V)) (gQR G (MX9_count a1 V) V) 0 0 (gF G) := by
  refine Met.ofW (cc := cX9_count) (maxL := 2) (ret := (some .int)) (by decide) rfl ?_
  intro p e s m args below meth c s₁ B hml hv
  obtain ⟨rfl, hP, hT⟩ := hv
  have hx := B.exec
  have hb := B.bytes
  have hr := B.returns
  have hw := gh_hw (atoms_spec (ws := wc_X9_count) B.pre)
  have hown : s.vm.findClass RX9 = some m.cls := findClass_of_methodNamed B.named
  have hlocks := B.notSynchronized
  have hS : va_S (gF G) s.heap s.heap [] := va_S.rf
  have hl := lv_entry ([.ref (gA G 213), .int a1]) (n := 2) (Nat.le_of_ble_eq_true rfl)
  rw [lg_entry_eq]
  generalize (lg_sl ([.ref (gA G 213), .int a1]) ++ List.replicate (2 - (lg_sl ([.ref (gA G 213), .int a1])).length) Slot.unset).toArray = ls at hl ⊢
  have hl : lv_has ls 2 [(0, .ref (gA G 213)), (1, .int a1)] := hl
  obtain ⟨res, hres⟩ : ∃ r, r = MX9_count a1 V := ⟨_, rfl⟩
  rw [← hres]
  show W p l e r_X9_count s m ([.ref (gA G 213), .int a1] : List Value).toArray below meth c s.heap [] 0 0 (MQ below (gQR G res V) ([.ref (gA G 213), .int a1] : List Value).toArray s 0 0 (gF G)) (F0 m 0 ls [])
  have hs : ((a1 = 0 → (PX9_count_80 a1 V)) ∧ (¬ a1 = 0 → ((a1 = 1 → (PX9_count_80 a1 V)) ∧ (¬ a1 = 1 → ((a1 = 2 → (PX9_count_80 a1 V)) ∧ (¬ a1 = 2 → ((a1 = 3 → (PX9_count_87 a1 V)) ∧ (¬ a1 = 3 → ((a1 = 4 → (PX9_count_87 a1 V)) ∧ (¬ a1 = 4 → ((a1 = 5 → (PX9_count_87 a1 V)) ∧ (¬ a1 = 5 → ((a1 = 6 → (PX9_count_87 a1 V)) ∧ (¬ a1 = 6 → ((a1 = 7 → ((¬ (MX9_runs V) = 0 → (PX9_ones (V 214 ((7 : Int32)).toNatClampNeg) V)))) ∧ (¬ a1 = 7 → ((a1 = 8 → (PX9_count_129 a1 V)) ∧ (¬ a1 = 8 → ((a1 = 9 → (PX9_count_129 a1 V)) ∧ (¬ a1 = 9 → ((a1 = 10 → (PX9_count_129 a1 V)) ∧ (¬ a1 = 10 → ((a1 = 11 → (PX9_weights V))))))))))))))))))))))))) := hs
  have hres : res = (if a1 = 0 then (BX9_count_80 a1 V) else (if a1 = 1 then (BX9_count_80 a1 V) else (if a1 = 2 then (BX9_count_80 a1 V) else (if a1 = 3 then (BX9_count_87 a1 V) else (if a1 = 4 then (BX9_count_87 a1 V) else (if a1 = 5 then (BX9_count_87 a1 V) else (if a1 = 6 then (BX9_count_87 a1 V) else (if a1 = 7 then (if (MX9_runs V) = 0 then ((-4 : Int32)) else ((MX9_ones (V 214 ((7 : Int32)).toNatClampNeg) V))) else (if a1 = 8 then (BX9_count_129 a1 V) else (if a1 = 9 then (BX9_count_129 a1 V) else (if a1 = 10 then (BX9_count_129 a1 V) else (if a1 = 11 then ((MX9_weights V)) else (if a1 = 12 then ((V 213 4)) else (if a1 = 13 then ((V 213 6)) else (if a1 = 14 then (if (V 213 3) = 0 then ((0 : Int32)) else ((1 : Int32))) else (if a1 = 15 then ((V 214 ((11 : Int32)).toNatClampNeg)) else ((-1 : Int32)))))))))))))))))) := hres
  have b_80 : ∀ (x1 : Int32) (H : Heap) (locs : List Loc) (ls : Array Slot), lv_has ls 2 [(0, .ref (gA G 213)), (1, .int x1)] → va_P (gD G) vwCl (gL G V) H → va_S (gF G) s.heap H locs → PX9_count_80  x1 V → res = BX9_count_80  x1 V → W p l e r_X9_count s m ([.ref (gA G 213), .int a1] : List Value).toArray below meth c H locs 0 0 (MQ below (gQR G res V) ([.ref (gA G 213), .int a1] : List Value).toArray s 0 0 (gF G)) (F0 m 80 ls []) := by
    intro x1 H locs ls hl hP hS hs hres
    have hs : (vp_in x1 246) := hs
    have hres : res = ((V 214 (x1).toNatClampNeg)) := hres
    refine lv_aload_n hx hb dX9_count_80 rfl (lv_at hl 0 rfl) ?_
    refine gh_get (v := .ref (gA G 214)) (C := RX9) (T := TX9) (N := 11) hx hb hw inlX9 hown hT hP 213 (Nat.le_of_ble_eq_true rfl) kd213 rfl rfl 0 (by decide) (hw _ uw117) rfl dX9_count_81 ?_
    refine lv_iload_n hx hb dX9_count_84 rfl (lv_at hl 1 rfl) ?_
    have ho_2 := hs
    refine gh_iald hx hb hT hP 214 (Nat.le_of_ble_eq_true rfl) kd214 ho_2 dX9_count_85 ?_
    exact gh_iretR hx hb hr hlocks hP hS hT hres dX9_count_86
  have b_87 : ∀ (x1 : Int32) (H : Heap) (locs : List Loc) (ls : Array Slot), lv_has ls 2 [(0, .ref (gA G 213)), (1, .int x1)] → va_P (gD G) vwCl (gL G V) H → va_S (gF G) s.heap H locs → PX9_count_87  x1 V → res = BX9_count_87  x1 V → W p l e r_X9_count s m ([.ref (gA G 213), .int a1] : List Value).toArray below meth c H locs 0 0 (MQ below (gQR G res V) ([.ref (gA G 213), .int a1] : List Value).toArray s 0 0 (gF G)) (F0 m 87 ls []) := by
    intro x1 H locs ls hl hP hS hs hres
    have hs : ((¬ (MX9_runs V) = 0 → (vp_in x1 246))) := hs
    have hres : res = (if (MX9_runs V) = 0 then ((-4 : Int32)) else ((V 214 (x1).toNatClampNeg))) := hres
    refine lv_aload_n hx hb dX9_count_87 rfl (lv_at hl 0 rfl) ?_
    refine gh_kr (va_runV (As := []) (rest := []) ⟨hx, hb, hml, hown, hw⟩ (cc_X9_runs l G V) (cwV 0 hw gv_RX9_44 rfl rfl rfl dd_X9_runs ⟨Nat.le_of_ble_eq_true rfl, Nat.le_of_ble_eq_true rfl⟩) (gh_preV hT hP (Nat.le_of_ble_eq_true rfl) kd213 rfl rfl) rfl rfl hl.1 rfl (lv_room (Nat.le_of_ble_eq_true rfl)) dX9_count_88 ⟨Nat.zero_le _, Nat.zero_le _⟩) hS (fun H locs hP hS => ?_)
    refine lv_if_eq (tgt := 103) hx hb dX9_count_91 (by decide) (fun c_6 => ?_) (fun c_6 => ?_)
    · have hres := hres.trans (if_pos c_6)
      refine lv_bipush (v := -4) hx hb dX9_count_103 (by decide) ?_
      exact gh_iretR hx hb hr hlocks hP hS hT hres dX9_count_105
    have hres := hres.trans (if_neg c_6)
    have hs := hs c_6
    refine lv_aload_n hx hb dX9_count_94 rfl (lv_at hl 0 rfl) ?_
    refine gh_get (v := .ref (gA G 214)) (C := RX9) (T := TX9) (N := 11) hx hb hw inlX9 hown hT hP 213 (Nat.le_of_ble_eq_true rfl) kd213 rfl rfl 0 (by decide) (hw _ uw117) rfl dX9_count_95 ?_
    refine lv_iload_n hx hb dX9_count_98 rfl (lv_at hl 1 rfl) ?_
    have ho_7 := hs
    refine gh_iald hx hb hT hP 214 (Nat.le_of_ble_eq_true rfl) kd214 ho_7 dX9_count_99 ?_
    refine lv_goto (tgt := 105) hx hb dX9_count_100 (by decide) ?_
    exact gh_iretR hx hb hr hlocks hP hS hT hres dX9_count_105
  have b_129 : ∀ (x1 : Int32) (H : Heap) (locs : List Loc) (ls : Array Slot), lv_has ls 2 [(0, .ref (gA G 213)), (1, .int x1)] → va_P (gD G) vwCl (gL G V) H → va_S (gF G) s.heap H locs → PX9_count_129  x1 V → res = BX9_count_129  x1 V → W p l e r_X9_count s m ([.ref (gA G 213), .int a1] : List Value).toArray below meth c H locs 0 0 (MQ below (gQR G res V) ([.ref (gA G 213), .int a1] : List Value).toArray s 0 0 (gF G)) (F0 m 129 ls []) := by
    intro x1 H locs ls hl hP hS hs hres
    have hs : (vp_in x1 246) := hs
    have hres : res = ((V 214 (x1).toNatClampNeg)) := hres
    refine lv_aload_n hx hb dX9_count_129 rfl (lv_at hl 0 rfl) ?_
    refine gh_get (v := .ref (gA G 214)) (C := RX9) (T := TX9) (N := 11) hx hb hw inlX9 hown hT hP 213 (Nat.le_of_ble_eq_true rfl) kd213 rfl rfl 0 (by decide) (hw _ uw117) rfl dX9_count_130 ?_
    refine lv_iload_n hx hb dX9_count_133 rfl (lv_at hl 1 rfl) ?_
    have ho_15 := hs
    refine gh_iald hx hb hT hP 214 (Nat.le_of_ble_eq_true rfl) kd214 ho_15 dX9_count_134 ?_
    exact gh_iretR hx hb hr hlocks hP hS hT hres dX9_count_135
  refine lv_iload_n hx hb dX9_count_0 rfl (lv_at hl 1 rfl) ?_
  by_cases c_1 : a1 = 0
  · have hres := hres.trans (if_pos c_1)
    have hs := hs.1 c_1
    refine lv_tableIn (off := 79) (tgt := 80) hx hb dX9_count_1 (by rw [c_1]; decide) (by rw [c_1]; decide) (by rw [c_1]; rfl) (by decide) ?_
    exact b_80 a1 _ _ _ (lv_sub hl [0, 1] rfl) hP hS hs hres
  · have hres := hres.trans (if_neg c_1)
    have hs := hs.2 c_1
    by_cases c_3 : a1 = 1
    · have hres := hres.trans (if_pos c_3)
      have hs := hs.1 c_3
      refine lv_tableIn (off := 79) (tgt := 80) hx hb dX9_count_1 (by rw [c_3]; decide) (by rw [c_3]; decide) (by rw [c_3]; rfl) (by decide) ?_
      exact b_80 a1 _ _ _ (lv_sub hl [0, 1] rfl) hP hS hs hres
    · have hres := hres.trans (if_neg c_3)
      have hs := hs.2 c_3
      by_cases c_4 : a1 = 2
      · have hres := hres.trans (if_pos c_4)
        have hs := hs.1 c_4
        refine lv_tableIn (off := 79) (tgt := 80) hx hb dX9_count_1 (by rw [c_4]; decide) (by rw [c_4]; decide) (by rw [c_4]; rfl) (by decide) ?_
        exact b_80 a1 _ _ _ (lv_sub hl [0, 1] rfl) hP hS hs hres
      · have hres := hres.trans (if_neg c_4)
        have hs := hs.2 c_4
        by_cases c_5 : a1 = 3
        · have hres := hres.trans (if_pos c_5)
          have hs := hs.1 c_5
          refine lv_tableIn (off := 86) (tgt := 87) hx hb dX9_count_1 (by rw [c_5]; decide) (by rw [c_5]; decide) (by rw [c_5]; rfl) (by decide) ?_
          exact b_87 a1 _ _ _ (lv_sub hl [0, 1] rfl) hP hS hs hres
        · have hres := hres.trans (if_neg c_5)
          have hs := hs.2 c_5
          by_cases c_8 : a1 = 4
          · have hres := hres.trans (if_pos c_8)
            have hs := hs.1 c_8
            refine lv_tableIn (off := 86) (tgt := 87) hx hb dX9_count_1 (by rw [c_8]; decide) (by rw [c_8]; decide) (by rw [c_8]; rfl) (by decide) ?_
            exact b_87 a1 _ _ _ (lv_sub hl [0, 1] rfl) hP hS hs hres
          · have hres := hres.trans (if_neg c_8)
            have hs := hs.2 c_8
            by_cases c_9 : a1 = 5
            · have hres := hres.trans (if_pos c_9)
              have hs := hs.1 c_9
              refine lv_tableIn (off := 86) (tgt := 87) hx hb dX9_count_1 (by rw [c_9]; decide) (by rw [c_9]; decide) (by rw [c_9]; rfl) (by decide) ?_
              exact b_87 a1 _ _ _ (lv_sub hl [0, 1] rfl) hP hS hs hres
            · have hres := hres.trans (if_neg c_9)
              have hs := hs.2 c_9
              by_cases c_10 : a1 = 6
              · have hres := hres.trans (if_pos c_10)
                have hs := hs.1 c_10
                refine lv_tableIn (off := 86) (tgt := 87) hx hb dX9_count_1 (by rw [c_10]; decide) (by rw [c_10]; decide) (by rw [c_10]; rfl) (by decide) ?_
                exact b_87 a1 _ _ _ (lv_sub hl [0, 1] rfl) hP hS hs hres
              · have hres := hres.trans (if_neg c_10)
                have hs := hs.2 c_10
                by_cases c_11 : a1 = 7
                · have hres := hres.trans (if_pos c_11)
                  have hs := hs.1 c_11
                  refine lv_tableIn (off := 105) (tgt := 106) hx hb dX9_count_1 (by rw [c_11]; decide) (by rw [c_11]; decide) (by rw [c_11]; rfl) (by decide) ?_
                  refine lv_aload_n hx hb dX9_count_106 rfl (lv_at hl 0 rfl) ?_
                  refine gh_kr (va_runV (As := []) (rest := []) ⟨hx, hb, hml, hown, hw⟩ (cc_X9_runs l G V) (cwV 0 hw gv_RX9_44 rfl rfl rfl dd_X9_runs ⟨Nat.le_of_ble_eq_true rfl, Nat.le_of_ble_eq_true rfl⟩) (gh_preV hT hP (Nat.le_of_ble_eq_true rfl) kd213 rfl rfl) rfl rfl hl.1 rfl (lv_room (Nat.le_of_ble_eq_true rfl)) dX9_count_107 ⟨Nat.zero_le _, Nat.zero_le _⟩) hS (fun H locs hP hS => ?_)
                  refine lv_if_eq (tgt := 126) hx hb dX9_count_110 (by decide) (fun c_12 => ?_) (fun c_12 => ?_)
                  · have hres := hres.trans (if_pos c_12)
                    refine lv_bipush (v := -4) hx hb dX9_count_126 (by decide) ?_
                    exact gh_iretR hx hb hr hlocks hP hS hT hres dX9_count_128
                  have hres := hres.trans (if_neg c_12)
                  have hs := hs c_12
                  refine lv_aload_n hx hb dX9_count_113 rfl (lv_at hl 0 rfl) ?_
                  refine gh_get (v := .ref (gA G 214)) (C := RX9) (T := TX9) (N := 11) hx hb hw inlX9 hown hT hP 213 (Nat.le_of_ble_eq_true rfl) kd213 rfl rfl 0 (by decide) (hw _ uw117) rfl dX9_count_114 ?_
                  refine lv_bipush (v := 7) hx hb dX9_count_117 (by decide) ?_
                  refine gh_iald hx hb hT hP 214 (Nat.le_of_ble_eq_true rfl) kd214 (gh_ci (by decide)) dX9_count_119 ?_
                  have ho_13 := hs
                  refine gh_kr (va_runS (As := [.int (V 214 ((7 : Int32)).toNatClampNeg)]) (rest := []) ⟨hx, hb, hml, hown, hw⟩ (cc_X9_ones l G V (V 214 ((7 : Int32)).toNatClampNeg) ho_13) (va_cwS 1 hw gv_RX9_82 rfl rfl rfl dd_X9_ones.2 ⟨Nat.le_of_ble_eq_true rfl, Nat.le_of_ble_eq_true rfl⟩) (gh_pre hT hP) rfl rfl hl.1 rfl (lv_room (Nat.le_of_ble_eq_true rfl)) dX9_count_120 ⟨Nat.zero_le _, Nat.zero_le _⟩) hS (fun H locs hP hS => ?_)
                  refine lv_goto (tgt := 128) hx hb dX9_count_123 (by decide) ?_
                  exact gh_iretR hx hb hr hlocks hP hS hT hres dX9_count_128
                · have hres := hres.trans (if_neg c_11)
                  have hs := hs.2 c_11
                  by_cases c_14 : a1 = 8
                  · have hres := hres.trans (if_pos c_14)
                    have hs := hs.1 c_14
                    refine lv_tableIn (off := 128) (tgt := 129) hx hb dX9_count_1 (by rw [c_14]; decide) (by rw [c_14]; decide) (by rw [c_14]; rfl) (by decide) ?_
                    exact b_129 a1 _ _ _ (lv_sub hl [0, 1] rfl) hP hS hs hres
                  · have hres := hres.trans (if_neg c_14)
                    have hs := hs.2 c_14
                    by_cases c_16 : a1 = 9
                    · have hres := hres.trans (if_pos c_16)
                      have hs := hs.1 c_16
                      refine lv_tableIn (off := 128) (tgt := 129) hx hb dX9_count_1 (by rw [c_16]; decide) (by rw [c_16]; decide) (by rw [c_16]; rfl) (by decide) ?_
                      exact b_129 a1 _ _ _ (lv_sub hl [0, 1] rfl) hP hS hs hres
                    · have hres := hres.trans (if_neg c_16)
                      have hs := hs.2 c_16
                      by_cases c_17 : a1 = 10
                      · have hres := hres.trans (if_pos c_17)
                        have hs := hs.1 c_17
                        refine lv_tableIn (off := 128) (tgt := 129) hx hb dX9_count_1 (by rw [c_17]; decide) (by rw [c_17]; decide) (by rw [c_17]; rfl) (by decide) ?_
                        exact b_129 a1 _ _ _ (lv_sub hl [0, 1] rfl) hP hS hs hres
                      · have hres := hres.trans (if_neg c_17)
                        have hs := hs.2 c_17
                        by_cases c_18 : a1 = 11
                        · have hres := hres.trans (if_pos c_18)
                          have hs := hs c_18
                          refine lv_tableIn (off := 135) (tgt := 136) hx hb dX9_count_1 (by rw [c_18]; decide) (by rw [c_18]; decide) (by rw [c_18]; rfl) (by decide) ?_
                          refine lv_aload_n hx hb dX9_count_136 rfl (lv_at hl 0 rfl) ?_
                          have ho_19 := hs
                          refine gh_kr (va_runV (As := []) (rest := []) ⟨hx, hb, hml, hown, hw⟩ (cc_X9_weights l G V ho_19) (cwV 0 hw gv_RX9_64 rfl rfl rfl dd_X9_weights ⟨Nat.le_of_ble_eq_true rfl, Nat.le_of_ble_eq_true rfl⟩) (gh_preV hT hP (Nat.le_of_ble_eq_true rfl) kd213 rfl rfl) rfl rfl hl.1 rfl (lv_room (Nat.le_of_ble_eq_true rfl)) dX9_count_137 ⟨Nat.zero_le _, Nat.zero_le _⟩) hS (fun H locs hP hS => ?_)
                          exact gh_iretR hx hb hr hlocks hP hS hT hres dX9_count_140
                        · have hres := hres.trans (if_neg c_18)
                          by_cases c_20 : a1 = 12
                          · have hres := hres.trans (if_pos c_20)
                            refine lv_tableIn (off := 140) (tgt := 141) hx hb dX9_count_1 (by rw [c_20]; decide) (by rw [c_20]; decide) (by rw [c_20]; rfl) (by decide) ?_
                            refine lv_aload_n hx hb dX9_count_141 rfl (lv_at hl 0 rfl) ?_
                            refine gh_get (v := .int (V 213 4)) (C := RX9) (T := TX9) (N := 11) hx hb hw inlX9 hown hT hP 213 (Nat.le_of_ble_eq_true rfl) kd213 rfl rfl 4 (by decide) (hw _ uw216) rfl dX9_count_142 ?_
                            exact gh_iretR hx hb hr hlocks hP hS hT hres dX9_count_145
                          · have hres := hres.trans (if_neg c_20)
                            by_cases c_21 : a1 = 13
                            · have hres := hres.trans (if_pos c_21)
                              refine lv_tableIn (off := 145) (tgt := 146) hx hb dX9_count_1 (by rw [c_21]; decide) (by rw [c_21]; decide) (by rw [c_21]; rfl) (by decide) ?_
                              refine lv_aload_n hx hb dX9_count_146 rfl (lv_at hl 0 rfl) ?_
                              refine gh_get (v := .int (V 213 6)) (C := RX9) (T := TX9) (N := 11) hx hb hw inlX9 hown hT hP 213 (Nat.le_of_ble_eq_true rfl) kd213 rfl rfl 6 (by decide) (hw _ uw606) rfl dX9_count_147 ?_
                              exact gh_iretR hx hb hr hlocks hP hS hT hres dX9_count_150
                            · have hres := hres.trans (if_neg c_21)
                              by_cases c_22 : a1 = 14
                              · have hres := hres.trans (if_pos c_22)
                                refine lv_tableIn (off := 150) (tgt := 151) hx hb dX9_count_1 (by rw [c_22]; decide) (by rw [c_22]; decide) (by rw [c_22]; rfl) (by decide) ?_
                                refine lv_aload_n hx hb dX9_count_151 rfl (lv_at hl 0 rfl) ?_
                                refine gh_get (v := .int (V 213 3)) (C := RX9) (T := TX9) (N := 11) hx hb hw inlX9 hown hT hP 213 (Nat.le_of_ble_eq_true rfl) kd213 rfl rfl 3 (by decide) (hw _ uw607) rfl dX9_count_152 ?_
                                refine lv_if_eq (tgt := 162) hx hb dX9_count_155 (by decide) (fun c_23 => ?_) (fun c_23 => ?_)
                                · have hres := hres.trans (if_pos c_23)
                                  refine lv_iconst (v := 0) hx hb dX9_count_162 (by decide) ?_
                                  exact gh_iretR hx hb hr hlocks hP hS hT hres dX9_count_163
                                have hres := hres.trans (if_neg c_23)
                                refine lv_iconst (v := 1) hx hb dX9_count_158 (by decide) ?_
                                refine lv_goto (tgt := 163) hx hb dX9_count_159 (by decide) ?_
                                exact gh_iretR hx hb hr hlocks hP hS hT hres dX9_count_163
                              · have hres := hres.trans (if_neg c_22)
                                by_cases c_24 : a1 = 15
                                · have hres := hres.trans (if_pos c_24)
                                  refine lv_tableIn (off := 163) (tgt := 164) hx hb dX9_count_1 (by rw [c_24]; decide) (by rw [c_24]; decide) (by rw [c_24]; rfl) (by decide) ?_
                                  refine lv_aload_n hx hb dX9_count_164 rfl (lv_at hl 0 rfl) ?_
                                  refine gh_get (v := .ref (gA G 214)) (C := RX9) (T := TX9) (N := 11) hx hb hw inlX9 hown hT hP 213 (Nat.le_of_ble_eq_true rfl) kd213 rfl rfl 0 (by decide) (hw _ uw117) rfl dX9_count_165 ?_
                                  refine lv_bipush (v := 11) hx hb dX9_count_168 (by decide) ?_
                                  refine gh_iald hx hb hT hP 214 (Nat.le_of_ble_eq_true rfl) kd214 (gh_ci (by decide)) dX9_count_170 ?_
                                  exact gh_iretR hx hb hr hlocks hP hS hT hres dX9_count_171
                                · have hres := hres.trans (if_neg c_24)
                                  refine lv_tableOut (tgt := 172) hx hb dX9_count_1 (gh_sw2 (a := 0) (n := 15) (by decide) (fun j hi hj => by
                                      rcases (show j = 0 ∨ j = 1 ∨ j = 2 ∨ j = 3 ∨ j = 4 ∨ j = 5 ∨ j = 6 ∨ j = 7 ∨ j = 8 ∨ j = 9 ∨ j = 10 ∨ j = 11 ∨ j = 12 ∨ j = 13 ∨ j = 14 ∨ j = 15 by omega) with rfl | rfl | rfl | rfl | rfl | rfl | rfl | rfl | rfl | rfl | rfl | rfl | rfl | rfl | rfl | rfl
                                      · exact c_1
                                      · exact c_3
                                      · exact c_4
                                      · exact c_5
                                      · exact c_8
                                      · exact c_9
                                      · exact c_10
                                      · exact c_11
                                      · exact c_14
                                      · exact c_16
                                      · exact c_17
                                      · exact c_18
                                      · exact c_20
                                      · exact c_21
                                      · exact c_22
                                      · exact c_24)) (by decide) ?_
                                  refine lv_iconst (v := -1) hx hb dX9_count_172 (by decide) ?_
                                  exact gh_iretR hx hb hr hlocks hP hS hT hres dX9_count_173
theorem gv_RX9_101 : GoodIn wsL_law (wsV RX9 101 RX9 yX9_fitting wc_X9_fitting) := gh_gV uw629 uw630 uw631 uw5 uw632
theorem gv_RX9_104 : GoodIn wsL_law (wsV RX9 104 RX9 yX9_bestLetter wc_X9_bestLetter) := gh_gV uw637 uw638 uw639 uw5 uw640
def MX9_fits  (a1 : Int32) (V : gV) : Int32 := if (MX9_in a1 (0 : Int32) (4 : Int32) V) = 0 then ((-1 : Int32)) else (if (MX9_runs V) = 0 then ((-2 : Int32)) else (if a1 = 0 then ((MX9_fitting V)) else (if a1 = 1 then ((MX9_ones (MX9_fitting V) V)) else (if a1 = 2 then ((MX9_weightsOf (MX9_fitting V) (26 : Int32) V)) else (if a1 = 3 then ((MX9_bestLetter (MX9_fitting V) V)) else ((MX9_weightsOf (MX9_fitting V) (MX9_bestLetter (MX9_fitting V) V) V)))))))
def PX9_fits  (a1 : Int32) (V : gV) : Prop := ((¬ (MX9_in a1 (0 : Int32) (4 : Int32) V) = 0 → ((¬ (MX9_runs V) = 0 → (PX9_fitting V) ∧ ((¬ a1 = 0 → ((a1 = 1 → (PX9_ones (MX9_fitting V) V)) ∧ (¬ a1 = 1 → ((a1 = 2 → (PX9_weightsOf (MX9_fitting V) (26 : Int32) V)) ∧ (¬ a1 = 2 → ((a1 = 3 → (PX9_bestLetter (MX9_fitting V) V)) ∧ (¬ a1 = 3 → (PX9_bestLetter (MX9_fitting V) V) ∧ (PX9_weightsOf (MX9_fitting V) (MX9_bestLetter (MX9_fitting V) V) V)))))))))))))
abbrev wc_X9_fits : List Cond := Cond.code yX9_fits cX9_fits 3 (some .int) :: wsL_law
abbrev r_X9_fits : Room := { frames := 5, cells := 0, slots := 0, locals := 118 }
theorem dd_X9_fits : yX9_fits.cls = RX9 ∧ yX9_fits.cls ≠ "java/lang/invoke/MethodHandle" ∧ yX9_fits.cls ≠ "java/lang/invoke/VarHandle" ∧ (parseMethodDescriptor yX9_fits.desc).map (fun d => d.parameters.length) = some 1 := by decide +kernel
set_option maxHeartbeats 8000000 in
set_option maxRecDepth 100000 in
theorem cc_X9_fits (l : Launch) (G : gG) (V : gV)   (a1 : Int32) (hs : PX9_fits a1 V) : Met l yX9_fits wc_X9_fits r_X9_fits (va_Pc [.ref (gA G 213), .int a1] (gW G V)) (gQR G (MX9_fits a1 V) V) 0 0 (gF G) := by
  refine Met.ofW (cc := cX9_fits) (maxL := 3) (ret := (some .int)) (by decide) rfl ?_
  intro p e s m args below meth c s₁ B hml hv
  obtain ⟨rfl, hP, hT⟩ := hv
  have hx := B.exec
  have hb := B.bytes
  have hr := B.returns
  have hw := gh_hw (atoms_spec (ws := wc_X9_fits) B.pre)
  have hown : s.vm.findClass RX9 = some m.cls := findClass_of_methodNamed B.named
  have hlocks := B.notSynchronized
  have hS : va_S (gF G) s.heap s.heap [] := va_S.rf
  have hl := lv_entry ([.ref (gA G 213), .int a1]) (n := 3) (Nat.le_of_ble_eq_true rfl)
  rw [lg_entry_eq]
  generalize (lg_sl ([.ref (gA G 213), .int a1]) ++ List.replicate (3 - (lg_sl ([.ref (gA G 213), .int a1])).length) Slot.unset).toArray = ls at hl ⊢
  have hl : lv_has ls 3 [(0, .ref (gA G 213)), (1, .int a1)] := hl
  obtain ⟨res, hres⟩ : ∃ r, r = MX9_fits a1 V := ⟨_, rfl⟩
  rw [← hres]
  show W p l e r_X9_fits s m ([.ref (gA G 213), .int a1] : List Value).toArray below meth c s.heap [] 0 0 (MQ below (gQR G res V) ([.ref (gA G 213), .int a1] : List Value).toArray s 0 0 (gF G)) (F0 m 0 ls [])
  have hs : ((¬ (MX9_in a1 (0 : Int32) (4 : Int32) V) = 0 → ((¬ (MX9_runs V) = 0 → (PX9_fitting V) ∧ ((¬ a1 = 0 → ((a1 = 1 → (PX9_ones (MX9_fitting V) V)) ∧ (¬ a1 = 1 → ((a1 = 2 → (PX9_weightsOf (MX9_fitting V) (26 : Int32) V)) ∧ (¬ a1 = 2 → ((a1 = 3 → (PX9_bestLetter (MX9_fitting V) V)) ∧ (¬ a1 = 3 → (PX9_bestLetter (MX9_fitting V) V) ∧ (PX9_weightsOf (MX9_fitting V) (MX9_bestLetter (MX9_fitting V) V) V))))))))))))) := hs
  have hres : res = (if (MX9_in a1 (0 : Int32) (4 : Int32) V) = 0 then ((-1 : Int32)) else (if (MX9_runs V) = 0 then ((-2 : Int32)) else (if a1 = 0 then ((MX9_fitting V)) else (if a1 = 1 then ((MX9_ones (MX9_fitting V) V)) else (if a1 = 2 then ((MX9_weightsOf (MX9_fitting V) (26 : Int32) V)) else (if a1 = 3 then ((MX9_bestLetter (MX9_fitting V) V)) else ((MX9_weightsOf (MX9_fitting V) (MX9_bestLetter (MX9_fitting V) V) V)))))))) := hres
  refine lv_iload_n hx hb dX9_fits_0 rfl (lv_at hl 1 rfl) ?_
  refine lv_iconst (v := 0) hx hb dX9_fits_1 (by decide) ?_
  refine lv_iconst (v := 4) hx hb dX9_fits_2 (by decide) ?_
  refine gh_kr (va_runS (As := [.int a1, .int (0 : Int32), .int (4 : Int32)]) (rest := []) ⟨hx, hb, hml, hown, hw⟩ (cc_X9_in l G V a1 (0 : Int32) (4 : Int32)) (va_cwS 3 hw gv_RX9_40 rfl rfl rfl dd_X9_in.2 ⟨Nat.le_of_ble_eq_true rfl, Nat.le_of_ble_eq_true rfl⟩) (gh_pre hT hP) rfl rfl hl.1 rfl (lv_room (Nat.le_of_ble_eq_true rfl)) dX9_fits_3 ⟨Nat.zero_le _, Nat.zero_le _⟩) hS (fun H locs hP hS => ?_)
  refine lv_if_ne (tgt := 11) hx hb dX9_fits_6 (by decide) (fun c_1 => ?_) (fun c_1 => ?_)
  · have hres := hres.trans (if_neg c_1)
    have hs := hs c_1
    refine lv_aload_n hx hb dX9_fits_11 rfl (lv_at hl 0 rfl) ?_
    refine gh_kr (va_runV (As := []) (rest := []) ⟨hx, hb, hml, hown, hw⟩ (cc_X9_runs l G V) (cwV 0 hw gv_RX9_44 rfl rfl rfl dd_X9_runs ⟨Nat.le_of_ble_eq_true rfl, Nat.le_of_ble_eq_true rfl⟩) (gh_preV hT hP (Nat.le_of_ble_eq_true rfl) kd213 rfl rfl) rfl rfl hl.1 rfl (lv_room (Nat.le_of_ble_eq_true rfl)) dX9_fits_12 ⟨Nat.zero_le _, Nat.zero_le _⟩) hS (fun H locs hP hS => ?_)
    refine lv_if_ne (tgt := 21) hx hb dX9_fits_15 (by decide) (fun c_2 => ?_) (fun c_2 => ?_)
    · have hres := hres.trans (if_neg c_2)
      have hs := hs c_2
      refine lv_aload_n hx hb dX9_fits_21 rfl (lv_at hl 0 rfl) ?_
      obtain ⟨ho_3, hs⟩ := hs
      refine gh_kr (va_runV (As := []) (rest := []) ⟨hx, hb, hml, hown, hw⟩ (cc_X9_fitting l G V ho_3) (cwV 0 hw gv_RX9_101 rfl rfl rfl dd_X9_fitting ⟨Nat.le_of_ble_eq_true rfl, Nat.le_of_ble_eq_true rfl⟩) (gh_preV hT hP (Nat.le_of_ble_eq_true rfl) kd213 rfl rfl) rfl rfl hl.1 rfl (lv_room (Nat.le_of_ble_eq_true rfl)) dX9_fits_22 ⟨Nat.zero_le _, Nat.zero_le _⟩) hS (fun H locs hP hS => ?_)
      refine lv_istore_n (lv' := [(2, .int (MX9_fitting V)), (0, .ref (gA G 213)), (1, .int a1)]) hx hb dX9_fits_25 rfl hl (by decide) rfl (fun ls hl => ?_)
      refine lv_iload_n hx hb dX9_fits_26 rfl (lv_at hl 2 rfl) ?_
      by_cases c_4 : a1 = 0
      · have hres := hres.trans (if_pos c_4)
        refine lv_tableIn (off := 29) (tgt := 56) hx hb dX9_fits_27 (by rw [c_4]; decide) (by rw [c_4]; decide) (by rw [c_4]; rfl) (by decide) ?_
        refine lv_iload_n hx hb dX9_fits_56 rfl (lv_at hl 0 rfl) ?_
        exact gh_iretR hx hb hr hlocks hP hS hT hres dX9_fits_57
      · have hres := hres.trans (if_neg c_4)
        have hs := hs c_4
        by_cases c_5 : a1 = 1
        · have hres := hres.trans (if_pos c_5)
          have hs := hs.1 c_5
          refine lv_tableIn (off := 31) (tgt := 58) hx hb dX9_fits_27 (by rw [c_5]; decide) (by rw [c_5]; decide) (by rw [c_5]; rfl) (by decide) ?_
          refine lv_iload_n hx hb dX9_fits_58 rfl (lv_at hl 0 rfl) ?_
          have ho_6 := hs
          refine gh_kr (va_runS (As := [.int (MX9_fitting V)]) (rest := []) ⟨hx, hb, hml, hown, hw⟩ (cc_X9_ones l G V (MX9_fitting V) ho_6) (va_cwS 1 hw gv_RX9_82 rfl rfl rfl dd_X9_ones.2 ⟨Nat.le_of_ble_eq_true rfl, Nat.le_of_ble_eq_true rfl⟩) (gh_pre hT hP) rfl rfl hl.1 rfl (lv_room (Nat.le_of_ble_eq_true rfl)) dX9_fits_59 ⟨Nat.zero_le _, Nat.zero_le _⟩) hS (fun H locs hP hS => ?_)
          exact gh_iretR hx hb hr hlocks hP hS hT hres dX9_fits_62
        · have hres := hres.trans (if_neg c_5)
          have hs := hs.2 c_5
          by_cases c_7 : a1 = 2
          · have hres := hres.trans (if_pos c_7)
            have hs := hs.1 c_7
            refine lv_tableIn (off := 36) (tgt := 63) hx hb dX9_fits_27 (by rw [c_7]; decide) (by rw [c_7]; decide) (by rw [c_7]; rfl) (by decide) ?_
            refine lv_aload_n hx hb dX9_fits_63 rfl (lv_at hl 1 rfl) ?_
            refine lv_iload_n hx hb dX9_fits_64 rfl (lv_at hl 0 rfl) ?_
            refine lv_bipush (v := 26) hx hb dX9_fits_65 (by decide) ?_
            have ho_8 := hs
            refine gh_kr (va_runV (As := [.int (MX9_fitting V), .int (26 : Int32)]) (rest := []) ⟨hx, hb, hml, hown, hw⟩ (cc_X9_weightsOf l G V (MX9_fitting V) (26 : Int32) ho_8) (cwV 2 hw gv_RX9_98 rfl rfl rfl dd_X9_weightsOf ⟨Nat.le_of_ble_eq_true rfl, Nat.le_of_ble_eq_true rfl⟩) (gh_preV hT hP (Nat.le_of_ble_eq_true rfl) kd213 rfl rfl) rfl rfl hl.1 rfl (lv_room (Nat.le_of_ble_eq_true rfl)) dX9_fits_67 ⟨Nat.zero_le _, Nat.zero_le _⟩) hS (fun H locs hP hS => ?_)
            exact gh_iretR hx hb hr hlocks hP hS hT hres dX9_fits_70
          · have hres := hres.trans (if_neg c_7)
            have hs := hs.2 c_7
            by_cases c_9 : a1 = 3
            · have hres := hres.trans (if_pos c_9)
              have hs := hs.1 c_9
              refine lv_tableIn (off := 44) (tgt := 71) hx hb dX9_fits_27 (by rw [c_9]; decide) (by rw [c_9]; decide) (by rw [c_9]; rfl) (by decide) ?_
              refine lv_aload_n hx hb dX9_fits_71 rfl (lv_at hl 1 rfl) ?_
              refine lv_iload_n hx hb dX9_fits_72 rfl (lv_at hl 0 rfl) ?_
              have ho_10 := hs
              refine gh_kr (va_runV (As := [.int (MX9_fitting V)]) (rest := []) ⟨hx, hb, hml, hown, hw⟩ (cc_X9_bestLetter l G V (MX9_fitting V) ho_10) (cwV 1 hw gv_RX9_104 rfl rfl rfl dd_X9_bestLetter ⟨Nat.le_of_ble_eq_true rfl, Nat.le_of_ble_eq_true rfl⟩) (gh_preV hT hP (Nat.le_of_ble_eq_true rfl) kd213 rfl rfl) rfl rfl hl.1 rfl (lv_room (Nat.le_of_ble_eq_true rfl)) dX9_fits_73 ⟨Nat.zero_le _, Nat.zero_le _⟩) hS (fun H locs hP hS => ?_)
              exact gh_iretR hx hb hr hlocks hP hS hT hres dX9_fits_76
            · have hres := hres.trans (if_neg c_9)
              have hs := hs.2 c_9
              refine lv_tableOut (tgt := 77) hx hb dX9_fits_27 (gh_sw2 (a := 0) (n := 3) (by decide) (fun j hi hj => by
                  rcases (show j = 0 ∨ j = 1 ∨ j = 2 ∨ j = 3 by omega) with rfl | rfl | rfl | rfl
                  · exact c_4
                  · exact c_5
                  · exact c_7
                  · exact c_9)) (by decide) ?_
              refine lv_aload_n hx hb dX9_fits_77 rfl (lv_at hl 1 rfl) ?_
              refine lv_iload_n hx hb dX9_fits_78 rfl (lv_at hl 0 rfl) ?_
              refine lv_aload_n hx hb dX9_fits_79 rfl (lv_at hl 1 rfl) ?_
              refine lv_iload_n hx hb dX9_fits_80 rfl (lv_at hl 0 rfl) ?_
              obtain ⟨ho_11, hs⟩ := hs
              refine gh_kr (va_runV (As := [.int (MX9_fitting V)]) (rest := [.int (MX9_fitting V), .ref (gA G 213)]) ⟨hx, hb, hml, hown, hw⟩ (cc_X9_bestLetter l G V (MX9_fitting V) ho_11) (cwV 1 hw gv_RX9_104 rfl rfl rfl dd_X9_bestLetter ⟨Nat.le_of_ble_eq_true rfl, Nat.le_of_ble_eq_true rfl⟩) (gh_preV hT hP (Nat.le_of_ble_eq_true rfl) kd213 rfl rfl) rfl rfl hl.1 rfl (lv_room (Nat.le_of_ble_eq_true rfl)) dX9_fits_81 ⟨Nat.zero_le _, Nat.zero_le _⟩) hS (fun H locs hP hS => ?_)
              have ho_12 := hs
              refine gh_kr (va_runV (As := [.int (MX9_fitting V), .int (MX9_bestLetter (MX9_fitting V) V)]) (rest := []) ⟨hx, hb, hml, hown, hw⟩ (cc_X9_weightsOf l G V (MX9_fitting V) (MX9_bestLetter (MX9_fitting V) V) ho_12) (cwV 2 hw gv_RX9_98 rfl rfl rfl dd_X9_weightsOf ⟨Nat.le_of_ble_eq_true rfl, Nat.le_of_ble_eq_true rfl⟩) (gh_preV hT hP (Nat.le_of_ble_eq_true rfl) kd213 rfl rfl) rfl rfl hl.1 rfl (lv_room (Nat.le_of_ble_eq_true rfl)) dX9_fits_84 ⟨Nat.zero_le _, Nat.zero_le _⟩) hS (fun H locs hP hS => ?_)
              exact gh_iretR hx hb hr hlocks hP hS hT hres dX9_fits_87
    have hres := hres.trans (if_pos c_2)
    refine lv_bipush (v := -2) hx hb dX9_fits_18 (by decide) ?_
    exact gh_iretR hx hb hr hlocks hP hS hT hres dX9_fits_20
  have hres := hres.trans (if_pos c_1)
  refine lv_iconst (v := -1) hx hb dX9_fits_9 (by decide) ?_
  exact gh_iretR hx hb hr hlocks hP hS hT hres dX9_fits_10
theorem gv_RX9_113 : GoodIn wsL_law (wsV RX9 113 RX9 yX9_greatest wc_X9_greatest) := gh_gV uw677 uw678 uw679 uw5 uw680
theorem gv_RX9_107 : GoodIn wsL_law (va_wsS RX9 107 yJxf58ca_floatToIntBits_5c35a wc_Jxf58ca_floatToIntBits_5c35a) := gh_gS uw665 uw666 uw667 uw668
def MX9_letterOf  (a1 : Int32) (a2 : Int32) (V : gV) : Int32 := if (MX9_in a1 (0 : Int32) (25 : Int32) V) = 0 then ((-1 : Int32)) else (if (MX9_in a2 (0 : Int32) (2 : Int32) V) = 0 then ((-1 : Int32)) else (if (MX9_runs V) = 0 then ((-2 : Int32)) else (if (((V 214 ((6 : Int32)).toNatClampNeg) >>> (a1 &&& 31)) &&& (1 : Int32)) = (1 : Int32) then ((-2 : Int32)) else (if a2 = 0 then ((MX9_weightsOf (MX9_fitting V) a1 V)) else (if a2 = (1 : Int32) then ((MJxf58ca_floatToIntBits_5c35a (FP.fdiv (FP.i2f (MX9_weightsOf (MX9_fitting V) a1 V)) (FP.i2f (MX9_weightsOf (MX9_fitting V) (26 : Int32) V))) V)) else ((MX9_greatest (MX9_fitting V) a1 V)))))))
def PX9_letterOf  (a1 : Int32) (a2 : Int32) (V : gV) : Prop := ((¬ (MX9_in a1 (0 : Int32) (25 : Int32) V) = 0 → ((¬ (MX9_in a2 (0 : Int32) (2 : Int32) V) = 0 → ((¬ (MX9_runs V) = 0 → ((¬ (((V 214 ((6 : Int32)).toNatClampNeg) >>> (a1 &&& 31)) &&& (1 : Int32)) = (1 : Int32) → (PX9_fitting V) ∧ (PX9_weightsOf (MX9_fitting V) a1 V) ∧ (PX9_weightsOf (MX9_fitting V) (26 : Int32) V) ∧ (vf_n32 (FP.fdiv (FP.i2f (MX9_weightsOf (MX9_fitting V) a1 V)) (FP.i2f (MX9_weightsOf (MX9_fitting V) (26 : Int32) V)))) ∧ ((a2 = 0 → (PX9_weightsOf (MX9_fitting V) a1 V)) ∧ (¬ a2 = 0 → ((¬ a2 = (1 : Int32) → (PX9_greatest (MX9_fitting V) a1 V)))))))))))))
abbrev wc_X9_letterOf : List Cond := Cond.code yX9_letterOf cX9_letterOf 5 (some .int) :: wsL_law
abbrev r_X9_letterOf : Room := { frames := 4, cells := 0, slots := 0, locals := 94 }
theorem dd_X9_letterOf : yX9_letterOf.cls = RX9 ∧ yX9_letterOf.cls ≠ "java/lang/invoke/MethodHandle" ∧ yX9_letterOf.cls ≠ "java/lang/invoke/VarHandle" ∧ (parseMethodDescriptor yX9_letterOf.desc).map (fun d => d.parameters.length) = some 2 := by decide +kernel
set_option maxHeartbeats 8000000 in
set_option maxRecDepth 100000 in
theorem cc_X9_letterOf (l : Launch) (G : gG) (V : gV)   (a1 : Int32) (a2 : Int32) (hs : PX9_letterOf a1 a2 V) : Met l yX9_letterOf wc_X9_letterOf r_X9_letterOf (va_Pc [.ref (gA G 213), .int a1, .int a2] (gW G V)) (gQR G (MX9_letterOf a1 a2 V) V) 0 0 (gF G) := by
  refine Met.ofW (cc := cX9_letterOf) (maxL := 5) (ret := (some .int)) (by decide) rfl ?_
  intro p e s m args below meth c s₁ B hml hv
  obtain ⟨rfl, hP, hT⟩ := hv
  have hx := B.exec
  have hb := B.bytes
  have hr := B.returns
  have hw := gh_hw (atoms_spec (ws := wc_X9_letterOf) B.pre)
  have hown : s.vm.findClass RX9 = some m.cls := findClass_of_methodNamed B.named
  have hlocks := B.notSynchronized
  have hS : va_S (gF G) s.heap s.heap [] := va_S.rf
  have hl := lv_entry ([.ref (gA G 213), .int a1, .int a2]) (n := 5) (Nat.le_of_ble_eq_true rfl)
  rw [lg_entry_eq]
  generalize (lg_sl ([.ref (gA G 213), .int a1, .int a2]) ++ List.replicate (5 - (lg_sl ([.ref (gA G 213), .int a1, .int a2])).length) Slot.unset).toArray = ls at hl ⊢
  have hl : lv_has ls 5 [(0, .ref (gA G 213)), (1, .int a1), (2, .int a2)] := hl
  obtain ⟨res, hres⟩ : ∃ r, r = MX9_letterOf a1 a2 V := ⟨_, rfl⟩
  rw [← hres]
  show W p l e r_X9_letterOf s m ([.ref (gA G 213), .int a1, .int a2] : List Value).toArray below meth c s.heap [] 0 0 (MQ below (gQR G res V) ([.ref (gA G 213), .int a1, .int a2] : List Value).toArray s 0 0 (gF G)) (F0 m 0 ls [])
  have hs : ((¬ (MX9_in a1 (0 : Int32) (25 : Int32) V) = 0 → ((¬ (MX9_in a2 (0 : Int32) (2 : Int32) V) = 0 → ((¬ (MX9_runs V) = 0 → ((¬ (((V 214 ((6 : Int32)).toNatClampNeg) >>> (a1 &&& 31)) &&& (1 : Int32)) = (1 : Int32) → (PX9_fitting V) ∧ (PX9_weightsOf (MX9_fitting V) a1 V) ∧ (PX9_weightsOf (MX9_fitting V) (26 : Int32) V) ∧ (vf_n32 (FP.fdiv (FP.i2f (MX9_weightsOf (MX9_fitting V) a1 V)) (FP.i2f (MX9_weightsOf (MX9_fitting V) (26 : Int32) V)))) ∧ ((a2 = 0 → (PX9_weightsOf (MX9_fitting V) a1 V)) ∧ (¬ a2 = 0 → ((¬ a2 = (1 : Int32) → (PX9_greatest (MX9_fitting V) a1 V))))))))))))) := hs
  have hres : res = (if (MX9_in a1 (0 : Int32) (25 : Int32) V) = 0 then ((-1 : Int32)) else (if (MX9_in a2 (0 : Int32) (2 : Int32) V) = 0 then ((-1 : Int32)) else (if (MX9_runs V) = 0 then ((-2 : Int32)) else (if (((V 214 ((6 : Int32)).toNatClampNeg) >>> (a1 &&& 31)) &&& (1 : Int32)) = (1 : Int32) then ((-2 : Int32)) else (if a2 = 0 then ((MX9_weightsOf (MX9_fitting V) a1 V)) else (if a2 = (1 : Int32) then ((MJxf58ca_floatToIntBits_5c35a (FP.fdiv (FP.i2f (MX9_weightsOf (MX9_fitting V) a1 V)) (FP.i2f (MX9_weightsOf (MX9_fitting V) (26 : Int32) V))) V)) else ((MX9_greatest (MX9_fitting V) a1 V)))))))) := hres
  refine lv_iload_n hx hb dX9_letterOf_0 rfl (lv_at hl 1 rfl) ?_
  refine lv_iconst (v := 0) hx hb dX9_letterOf_1 (by decide) ?_
  refine lv_bipush (v := 25) hx hb dX9_letterOf_2 (by decide) ?_
  refine gh_kr (va_runS (As := [.int a1, .int (0 : Int32), .int (25 : Int32)]) (rest := []) ⟨hx, hb, hml, hown, hw⟩ (cc_X9_in l G V a1 (0 : Int32) (25 : Int32)) (va_cwS 3 hw gv_RX9_40 rfl rfl rfl dd_X9_in.2 ⟨Nat.le_of_ble_eq_true rfl, Nat.le_of_ble_eq_true rfl⟩) (gh_pre hT hP) rfl rfl hl.1 rfl (lv_room (Nat.le_of_ble_eq_true rfl)) dX9_letterOf_4 ⟨Nat.zero_le _, Nat.zero_le _⟩) hS (fun H locs hP hS => ?_)
  refine lv_if_eq (tgt := 19) hx hb dX9_letterOf_7 (by decide) (fun c_1 => ?_) (fun c_1 => ?_)
  · have hres := hres.trans (if_pos c_1)
    refine lv_iconst (v := -1) hx hb dX9_letterOf_19 (by decide) ?_
    exact gh_iretR hx hb hr hlocks hP hS hT hres dX9_letterOf_20
  have hres := hres.trans (if_neg c_1)
  have hs := hs c_1
  refine lv_iload_n hx hb dX9_letterOf_10 rfl (lv_at hl 2 rfl) ?_
  refine lv_iconst (v := 0) hx hb dX9_letterOf_11 (by decide) ?_
  refine lv_iconst (v := 2) hx hb dX9_letterOf_12 (by decide) ?_
  refine gh_kr (va_runS (As := [.int a2, .int (0 : Int32), .int (2 : Int32)]) (rest := []) ⟨hx, hb, hml, hown, hw⟩ (cc_X9_in l G V a2 (0 : Int32) (2 : Int32)) (va_cwS 3 hw gv_RX9_40 rfl rfl rfl dd_X9_in.2 ⟨Nat.le_of_ble_eq_true rfl, Nat.le_of_ble_eq_true rfl⟩) (gh_pre hT hP) rfl rfl hl.1 rfl (lv_room (Nat.le_of_ble_eq_true rfl)) dX9_letterOf_13 ⟨Nat.zero_le _, Nat.zero_le _⟩) hS (fun H locs hP hS => ?_)
  refine lv_if_ne (tgt := 21) hx hb dX9_letterOf_16 (by decide) (fun c_2 => ?_) (fun c_2 => ?_)
  · have hres := hres.trans (if_neg c_2)
    have hs := hs c_2
    refine lv_aload_n hx hb dX9_letterOf_21 rfl (lv_at hl 0 rfl) ?_
    refine gh_kr (va_runV (As := []) (rest := []) ⟨hx, hb, hml, hown, hw⟩ (cc_X9_runs l G V) (cwV 0 hw gv_RX9_44 rfl rfl rfl dd_X9_runs ⟨Nat.le_of_ble_eq_true rfl, Nat.le_of_ble_eq_true rfl⟩) (gh_preV hT hP (Nat.le_of_ble_eq_true rfl) kd213 rfl rfl) rfl rfl hl.1 rfl (lv_room (Nat.le_of_ble_eq_true rfl)) dX9_letterOf_22 ⟨Nat.zero_le _, Nat.zero_le _⟩) hS (fun H locs hP hS => ?_)
    refine lv_if_eq (tgt := 43) hx hb dX9_letterOf_25 (by decide) (fun c_3 => ?_) (fun c_3 => ?_)
    · have hres := hres.trans (if_pos c_3)
      refine lv_bipush (v := -2) hx hb dX9_letterOf_43 (by decide) ?_
      exact gh_iretR hx hb hr hlocks hP hS hT hres dX9_letterOf_45
    have hres := hres.trans (if_neg c_3)
    have hs := hs c_3
    refine lv_aload_n hx hb dX9_letterOf_28 rfl (lv_at hl 0 rfl) ?_
    refine gh_get (v := .ref (gA G 214)) (C := RX9) (T := TX9) (N := 11) hx hb hw inlX9 hown hT hP 213 (Nat.le_of_ble_eq_true rfl) kd213 rfl rfl 0 (by decide) (hw _ uw117) rfl dX9_letterOf_29 ?_
    refine lv_bipush (v := 6) hx hb dX9_letterOf_32 (by decide) ?_
    refine gh_iald hx hb hT hP 214 (Nat.le_of_ble_eq_true rfl) kd214 (gh_ci (by decide)) dX9_letterOf_34 ?_
    refine lv_iload_n hx hb dX9_letterOf_35 rfl (lv_at hl 1 rfl) ?_
    refine lv_ishr hx hb dX9_letterOf_36 ?_
    refine lv_iconst (v := 1) hx hb dX9_letterOf_37 (by decide) ?_
    refine lv_iand hx hb dX9_letterOf_38 ?_
    refine lv_iconst (v := 1) hx hb dX9_letterOf_39 (by decide) ?_
    refine lv_icmp_ne (tgt := 46) hx hb dX9_letterOf_40 (by decide) (fun c_4 => ?_) (fun c_4 => ?_)
    · have hres := hres.trans (if_neg c_4)
      have hs := hs c_4
      refine lv_aload_n hx hb dX9_letterOf_46 rfl (lv_at hl 0 rfl) ?_
      obtain ⟨ho_5, hs⟩ := hs
      refine gh_kr (va_runV (As := []) (rest := []) ⟨hx, hb, hml, hown, hw⟩ (cc_X9_fitting l G V ho_5) (cwV 0 hw gv_RX9_101 rfl rfl rfl dd_X9_fitting ⟨Nat.le_of_ble_eq_true rfl, Nat.le_of_ble_eq_true rfl⟩) (gh_preV hT hP (Nat.le_of_ble_eq_true rfl) kd213 rfl rfl) rfl rfl hl.1 rfl (lv_room (Nat.le_of_ble_eq_true rfl)) dX9_letterOf_47 ⟨Nat.zero_le _, Nat.zero_le _⟩) hS (fun H locs hP hS => ?_)
      refine lv_istore_n (lv' := [(3, .int (MX9_fitting V)), (0, .ref (gA G 213)), (1, .int a1), (2, .int a2)]) hx hb dX9_letterOf_50 rfl hl (by decide) rfl (fun ls hl => ?_)
      refine lv_aload_n hx hb dX9_letterOf_51 rfl (lv_at hl 1 rfl) ?_
      refine lv_iload_n hx hb dX9_letterOf_52 rfl (lv_at hl 0 rfl) ?_
      refine lv_iload_n hx hb dX9_letterOf_53 rfl (lv_at hl 2 rfl) ?_
      obtain ⟨ho_6, hs⟩ := hs
      refine gh_kr (va_runV (As := [.int (MX9_fitting V), .int a1]) (rest := []) ⟨hx, hb, hml, hown, hw⟩ (cc_X9_weightsOf l G V (MX9_fitting V) a1 ho_6) (cwV 2 hw gv_RX9_98 rfl rfl rfl dd_X9_weightsOf ⟨Nat.le_of_ble_eq_true rfl, Nat.le_of_ble_eq_true rfl⟩) (gh_preV hT hP (Nat.le_of_ble_eq_true rfl) kd213 rfl rfl) rfl rfl hl.1 rfl (lv_room (Nat.le_of_ble_eq_true rfl)) dX9_letterOf_54 ⟨Nat.zero_le _, Nat.zero_le _⟩) hS (fun H locs hP hS => ?_)
      refine lv_i2f hx hb dX9_letterOf_57 ?_
      refine lv_aload_n hx hb dX9_letterOf_58 rfl (lv_at hl 1 rfl) ?_
      refine lv_iload_n hx hb dX9_letterOf_59 rfl (lv_at hl 0 rfl) ?_
      refine lv_bipush (v := 26) hx hb dX9_letterOf_60 (by decide) ?_
      obtain ⟨ho_7, hs⟩ := hs
      refine gh_kr (va_runV (As := [.int (MX9_fitting V), .int (26 : Int32)]) (rest := [.float (FP.i2f (MX9_weightsOf (MX9_fitting V) a1 V))]) ⟨hx, hb, hml, hown, hw⟩ (cc_X9_weightsOf l G V (MX9_fitting V) (26 : Int32) ho_7) (cwV 2 hw gv_RX9_98 rfl rfl rfl dd_X9_weightsOf ⟨Nat.le_of_ble_eq_true rfl, Nat.le_of_ble_eq_true rfl⟩) (gh_preV hT hP (Nat.le_of_ble_eq_true rfl) kd213 rfl rfl) rfl rfl hl.1 rfl (lv_room (Nat.le_of_ble_eq_true rfl)) dX9_letterOf_62 ⟨Nat.zero_le _, Nat.zero_le _⟩) hS (fun H locs hP hS => ?_)
      refine lv_i2f hx hb dX9_letterOf_65 ?_
      obtain ⟨ho_8, hs⟩ := hs
      refine lv_fdiv hx hb dX9_letterOf_66 ho_8 ?_
      refine lv_fstore (lv' := [(4, .float (FP.fdiv (FP.i2f (MX9_weightsOf (MX9_fitting V) a1 V)) (FP.i2f (MX9_weightsOf (MX9_fitting V) (26 : Int32) V)))), (3, .int (MX9_fitting V)), (0, .ref (gA G 213)), (1, .int a1), (2, .int a2)]) hx hb dX9_letterOf_67 hl (by decide) rfl (fun ls hl => ?_)
      refine lv_iload_n hx hb dX9_letterOf_69 rfl (lv_at hl 4 rfl) ?_
      refine lv_if_ne (tgt := 82) hx hb dX9_letterOf_70 (by decide) (fun c_9 => ?_) (fun c_9 => ?_)
      · have hres := hres.trans (if_neg c_9)
        have hs := hs.2 c_9
        refine lv_iload_n hx hb dX9_letterOf_82 rfl (lv_at hl 4 rfl) ?_
        refine lv_iconst (v := 1) hx hb dX9_letterOf_83 (by decide) ?_
        refine lv_icmp_ne (tgt := 95) hx hb dX9_letterOf_84 (by decide) (fun c_10 => ?_) (fun c_10 => ?_)
        · have hres := hres.trans (if_neg c_10)
          have hs := hs c_10
          refine lv_aload_n hx hb dX9_letterOf_95 rfl (lv_at hl 2 rfl) ?_
          refine lv_iload_n hx hb dX9_letterOf_96 rfl (lv_at hl 1 rfl) ?_
          refine lv_iload_n hx hb dX9_letterOf_97 rfl (lv_at hl 3 rfl) ?_
          have ho_11 := hs
          refine gh_kr (va_runV (As := [.int (MX9_fitting V), .int a1]) (rest := []) ⟨hx, hb, hml, hown, hw⟩ (cc_X9_greatest l G V (MX9_fitting V) a1 ho_11) (cwV 2 hw gv_RX9_113 rfl rfl rfl dd_X9_greatest ⟨Nat.le_of_ble_eq_true rfl, Nat.le_of_ble_eq_true rfl⟩) (gh_preV hT hP (Nat.le_of_ble_eq_true rfl) kd213 rfl rfl) rfl rfl hl.1 rfl (lv_room (Nat.le_of_ble_eq_true rfl)) dX9_letterOf_98 ⟨Nat.zero_le _, Nat.zero_le _⟩) hS (fun H locs hP hS => ?_)
          exact gh_iretR hx hb hr hlocks hP hS hT hres dX9_letterOf_101
        have hres := hres.trans (if_pos c_10)
        refine lv_fload hx hb dX9_letterOf_87 (lv_at hl 0 rfl) ?_
        refine gh_kr (va_runS (As := [.float (FP.fdiv (FP.i2f (MX9_weightsOf (MX9_fitting V) a1 V)) (FP.i2f (MX9_weightsOf (MX9_fitting V) (26 : Int32) V)))]) (rest := []) ⟨hx, hb, hml, hown, hw⟩ (cc_Jxf58ca_floatToIntBits_5c35a l G V (FP.fdiv (FP.i2f (MX9_weightsOf (MX9_fitting V) a1 V)) (FP.i2f (MX9_weightsOf (MX9_fitting V) (26 : Int32) V)))) (va_cwS 1 hw gv_RX9_107 rfl rfl rfl dd_Jxf58ca_floatToIntBits_5c35a.2 ⟨Nat.le_of_ble_eq_true rfl, Nat.le_of_ble_eq_true rfl⟩) (gh_pre hT hP) rfl rfl hl.1 rfl (lv_room (Nat.le_of_ble_eq_true rfl)) dX9_letterOf_89 ⟨Nat.zero_le _, Nat.zero_le _⟩) hS (fun H locs hP hS => ?_)
        refine lv_goto (tgt := 101) hx hb dX9_letterOf_92 (by decide) ?_
        exact gh_iretR hx hb hr hlocks hP hS hT hres dX9_letterOf_101
      have hres := hres.trans (if_pos c_9)
      have hs := hs.1 c_9
      refine lv_aload_n hx hb dX9_letterOf_73 rfl (lv_at hl 2 rfl) ?_
      refine lv_iload_n hx hb dX9_letterOf_74 rfl (lv_at hl 1 rfl) ?_
      refine lv_iload_n hx hb dX9_letterOf_75 rfl (lv_at hl 3 rfl) ?_
      have ho_12 := hs
      refine gh_kr (va_runV (As := [.int (MX9_fitting V), .int a1]) (rest := []) ⟨hx, hb, hml, hown, hw⟩ (cc_X9_weightsOf l G V (MX9_fitting V) a1 ho_12) (cwV 2 hw gv_RX9_98 rfl rfl rfl dd_X9_weightsOf ⟨Nat.le_of_ble_eq_true rfl, Nat.le_of_ble_eq_true rfl⟩) (gh_preV hT hP (Nat.le_of_ble_eq_true rfl) kd213 rfl rfl) rfl rfl hl.1 rfl (lv_room (Nat.le_of_ble_eq_true rfl)) dX9_letterOf_76 ⟨Nat.zero_le _, Nat.zero_le _⟩) hS (fun H locs hP hS => ?_)
      refine lv_goto (tgt := 101) hx hb dX9_letterOf_79 (by decide) ?_
      exact gh_iretR hx hb hr hlocks hP hS hT hres dX9_letterOf_101
    have hres := hres.trans (if_pos c_4)
    refine lv_bipush (v := -2) hx hb dX9_letterOf_43 (by decide) ?_
    exact gh_iretR hx hb hr hlocks hP hS hT hres dX9_letterOf_45
  have hres := hres.trans (if_pos c_2)
  refine lv_iconst (v := -1) hx hb dX9_letterOf_19 (by decide) ?_
  exact gh_iretR hx hb hr hlocks hP hS hT hres dX9_letterOf_20
def BX9_sharpest_86  (K24 : Int32 → Int32 → Int32 → Int32 → gV → Int32) (x1 : Int32) (x2 : Int32) (x4 : Int32) (s0 : Int32) (V : gV) : Int32 := K24 x1 x2 s0 (x4 + (1 : Int32)) V
def PX9_sharpest_86  (KP24 : Int32 → Int32 → Int32 → Int32 → gV → Prop) (x1 : Int32) (x2 : Int32) (x4 : Int32) (s0 : Int32) (V : gV) : Prop := (KP24 x1 x2 s0 (x4 + (1 : Int32)) V)
def BX9_sharpest_73  (K24 : Int32 → Int32 → Int32 → Int32 → gV → Int32) (x1 : Int32) (x3 : Int32) (x4 : Int32) (x5 : Int32) (s0 : Int32) (V : gV) : Int32 := if x3 ≤ x5 then (BX9_sharpest_86 K24 x1 s0 x4 x3 V) else (BX9_sharpest_86 K24 x1 s0 x4 x5 V)
def PX9_sharpest_73  (KP24 : Int32 → Int32 → Int32 → Int32 → gV → Prop) (x1 : Int32) (x3 : Int32) (x4 : Int32) (x5 : Int32) (s0 : Int32) (V : gV) : Prop := ((x3 ≤ x5 → (PX9_sharpest_86 KP24 x1 s0 x4 x3 V)) ∧ (¬ x3 ≤ x5 → (PX9_sharpest_86 KP24 x1 s0 x4 x5 V)))
def BX9_sharpest_59  (K24 : Int32 → Int32 → Int32 → Int32 → gV → Int32) (x1 : Int32) (x2 : Int32) (x3 : Int32) (x4 : Int32) (s0 : Int32) (V : gV) : Int32 := if x3 ≤ s0 then (BX9_sharpest_73 K24 x1 x3 x4 s0 x2 V) else (BX9_sharpest_73 K24 x1 x3 x4 s0 x4 V)
def PX9_sharpest_59  (KP24 : Int32 → Int32 → Int32 → Int32 → gV → Prop) (x1 : Int32) (x2 : Int32) (x3 : Int32) (x4 : Int32) (s0 : Int32) (V : gV) : Prop := ((x3 ≤ s0 → (PX9_sharpest_73 KP24 x1 x3 x4 s0 x2 V)) ∧ (¬ x3 ≤ s0 → (PX9_sharpest_73 KP24 x1 x3 x4 s0 x4 V)))
def BX9_sharpest_24   : Nat → Int32 → Int32 → Int32 → Int32 → gV → Int32
  | 0, _, _, _, _, _ => 0
  | n + 1, x1, x2, x3, x4, V => if (26 : Int32) ≤ x4 then (x2) else (if (((V 214 ((6 : Int32)).toNatClampNeg) >>> (x4 &&& 31)) &&& (1 : Int32)) = (1 : Int32) then (BX9_sharpest_59 (BX9_sharpest_24 n) x1 x2 x3 x4 (17 : Int32) V) else (BX9_sharpest_59 (BX9_sharpest_24 n) x1 x2 x3 x4 (MX9_greatest x1 x4 V) V))
def PX9_sharpest_24   : Nat → Int32 → Int32 → Int32 → Int32 → gV → Prop
  | 0, _, _, _, _, _ => False
  | n + 1, x1, x2, x3, x4, V => ((¬ (26 : Int32) ≤ x4 → (((((V 214 ((6 : Int32)).toNatClampNeg) >>> (x4 &&& 31)) &&& (1 : Int32)) = (1 : Int32) → (PX9_sharpest_59 (PX9_sharpest_24 n) x1 x2 x3 x4 (17 : Int32) V)) ∧ (¬ (((V 214 ((6 : Int32)).toNatClampNeg) >>> (x4 &&& 31)) &&& (1 : Int32)) = (1 : Int32) → (PX9_greatest x1 x4 V) ∧ (PX9_sharpest_59 (PX9_sharpest_24 n) x1 x2 x3 x4 (MX9_greatest x1 x4 V) V)))))
def MX9_sharpest   (V : gV) : Int32 := if (MX9_runs V) = 0 then ((-2 : Int32)) else (BX9_sharpest_24 1000 (MX9_fitting V) (-4 : Int32) (17 : Int32) (0 : Int32) V)
def PX9_sharpest   (V : gV) : Prop := ((¬ (MX9_runs V) = 0 → (PX9_fitting V) ∧ (PX9_sharpest_24 1000 (MX9_fitting V) (-4 : Int32) (17 : Int32) (0 : Int32) V)))
abbrev wc_X9_sharpest : List Cond := Cond.code yX9_sharpest cX9_sharpest 6 (some .int) :: wsL_law
abbrev r_X9_sharpest : Room := { frames := 4, cells := 0, slots := 0, locals := 94 }
theorem dd_X9_sharpest : yX9_sharpest.cls = RX9 ∧ yX9_sharpest.cls ≠ "java/lang/invoke/MethodHandle" ∧ yX9_sharpest.cls ≠ "java/lang/invoke/VarHandle" ∧ (parseMethodDescriptor yX9_sharpest.desc).map (fun d => d.parameters.length) = some 0 := by decide +kernel
set_option maxHeartbeats 8000000 in
set_option maxRecDepth 100000 in
theorem cc_X9_sharpest (l : Launch) (G : gG) (V : gV)    (hs : PX9_sharpest V) : Met l yX9_sharpest wc_X9_sharpest r_X9_sharpest (va_Pc [.ref (gA G 213)] (gW G V)) (gQR G (MX9_sharpest V) V) 0 0 (gF G) := by
  refine Met.ofW (cc := cX9_sharpest) (maxL := 6) (ret := (some .int)) (by decide) rfl ?_
  intro p e s m args below meth c s₁ B hml hv
  obtain ⟨rfl, hP, hT⟩ := hv
  have hx := B.exec
  have hb := B.bytes
  have hr := B.returns
  have hw := gh_hw (atoms_spec (ws := wc_X9_sharpest) B.pre)
  have hown : s.vm.findClass RX9 = some m.cls := findClass_of_methodNamed B.named
  have hlocks := B.notSynchronized
  have hS : va_S (gF G) s.heap s.heap [] := va_S.rf
  have hl := lv_entry ([.ref (gA G 213)]) (n := 6) (Nat.le_of_ble_eq_true rfl)
  rw [lg_entry_eq]
  generalize (lg_sl ([.ref (gA G 213)]) ++ List.replicate (6 - (lg_sl ([.ref (gA G 213)])).length) Slot.unset).toArray = ls at hl ⊢
  have hl : lv_has ls 6 [(0, .ref (gA G 213))] := hl
  obtain ⟨res, hres⟩ : ∃ r, r = MX9_sharpest V := ⟨_, rfl⟩
  rw [← hres]
  show W p l e r_X9_sharpest s m ([.ref (gA G 213)] : List Value).toArray below meth c s.heap [] 0 0 (MQ below (gQR G res V) ([.ref (gA G 213)] : List Value).toArray s 0 0 (gF G)) (F0 m 0 ls [])
  have hs : ((¬ (MX9_runs V) = 0 → (PX9_fitting V) ∧ (PX9_sharpest_24 1000 (MX9_fitting V) (-4 : Int32) (17 : Int32) (0 : Int32) V))) := hs
  have hres : res = (if (MX9_runs V) = 0 then ((-2 : Int32)) else (BX9_sharpest_24 1000 (MX9_fitting V) (-4 : Int32) (17 : Int32) (0 : Int32) V)) := hres
  have b_24 : ∀ (n : Nat) (x1 : Int32) (x2 : Int32) (x3 : Int32) (x4 : Int32) (H : Heap) (locs : List Loc) (ls : Array Slot), lv_has ls 6 [(0, .ref (gA G 213)), (1, .int x1), (2, .int x2), (3, .int x3), (4, .int x4)] → va_P (gD G) vwCl (gL G V) H → va_S (gF G) s.heap H locs → PX9_sharpest_24  n x1 x2 x3 x4 V → res = BX9_sharpest_24  n x1 x2 x3 x4 V → W p l e r_X9_sharpest s m ([.ref (gA G 213)] : List Value).toArray below meth c H locs 0 0 (MQ below (gQR G res V) ([.ref (gA G 213)] : List Value).toArray s 0 0 (gF G)) (F0 m 24 ls []) := by
    intro n
    induction n with
    | zero =>
      intro x1 x2 x3 x4 H locs ls hl hP hS hs hres
      exact (show False from hs).elim
    | succ n24 ih24 =>
      have b_86 : ∀ (x1 : Int32) (x2 : Int32) (x4 : Int32) (s0 : Int32) (H : Heap) (locs : List Loc) (ls : Array Slot), lv_has ls 6 [(0, .ref (gA G 213)), (1, .int x1), (2, .int x2), (4, .int x4)] → va_P (gD G) vwCl (gL G V) H → va_S (gF G) s.heap H locs → PX9_sharpest_86 (PX9_sharpest_24 n24) x1 x2 x4 s0 V → res = BX9_sharpest_86 (BX9_sharpest_24 n24) x1 x2 x4 s0 V → W p l e r_X9_sharpest s m ([.ref (gA G 213)] : List Value).toArray below meth c H locs 0 0 (MQ below (gQR G res V) ([.ref (gA G 213)] : List Value).toArray s 0 0 (gF G)) (F0 m 86 ls [.int s0]) := by
        intro x1 x2 x4 s0 H locs ls hl hP hS hs hres
        have hs : ((PX9_sharpest_24 n24) x1 x2 s0 (x4 + (1 : Int32)) V) := hs
        have hres : res = ((BX9_sharpest_24 n24) x1 x2 s0 (x4 + (1 : Int32)) V) := hres
        refine lv_istore_n (lv' := [(3, .int s0), (0, .ref (gA G 213)), (1, .int x1), (2, .int x2), (4, .int x4)]) hx hb dX9_sharpest_86 rfl hl (by decide) rfl (fun ls hl => ?_)
        refine lv_iinc (v := (x4 + (1 : Int32))) (lv' := [(4, .int (x4 + (1 : Int32))), (3, .int s0), (0, .ref (gA G 213)), (1, .int x1), (2, .int x2)]) hx hb dX9_sharpest_87 hl (k := 4) rfl rfl (by decide) rfl (fun ls hl => ?_)
        refine lv_goto (tgt := 24) hx hb dX9_sharpest_90 (by decide) ?_
        exact ih24 x1 x2 s0 (x4 + (1 : Int32)) _ _ _ (lv_sub hl [2, 3, 4, 1, 0] rfl) hP hS hs hres
      have b_73 : ∀ (x1 : Int32) (x3 : Int32) (x4 : Int32) (x5 : Int32) (s0 : Int32) (H : Heap) (locs : List Loc) (ls : Array Slot), lv_has ls 6 [(0, .ref (gA G 213)), (1, .int x1), (3, .int x3), (4, .int x4), (5, .int x5)] → va_P (gD G) vwCl (gL G V) H → va_S (gF G) s.heap H locs → PX9_sharpest_73 (PX9_sharpest_24 n24) x1 x3 x4 x5 s0 V → res = BX9_sharpest_73 (BX9_sharpest_24 n24) x1 x3 x4 x5 s0 V → W p l e r_X9_sharpest s m ([.ref (gA G 213)] : List Value).toArray below meth c H locs 0 0 (MQ below (gQR G res V) ([.ref (gA G 213)] : List Value).toArray s 0 0 (gF G)) (F0 m 73 ls [.int s0]) := by
        intro x1 x3 x4 x5 s0 H locs ls hl hP hS hs hres
        have hs : ((x3 ≤ x5 → (PX9_sharpest_86 (PX9_sharpest_24 n24) x1 s0 x4 x3 V)) ∧ (¬ x3 ≤ x5 → (PX9_sharpest_86 (PX9_sharpest_24 n24) x1 s0 x4 x5 V))) := hs
        have hres : res = (if x3 ≤ x5 then (BX9_sharpest_86 (BX9_sharpest_24 n24) x1 s0 x4 x3 V) else (BX9_sharpest_86 (BX9_sharpest_24 n24) x1 s0 x4 x5 V)) := hres
        refine lv_istore_n (lv' := [(2, .int s0), (0, .ref (gA G 213)), (1, .int x1), (3, .int x3), (4, .int x4), (5, .int x5)]) hx hb dX9_sharpest_73 rfl hl (by decide) rfl (fun ls hl => ?_)
        refine lv_iload hx hb dX9_sharpest_74 (lv_at hl 5 rfl) ?_
        refine lv_iload_n hx hb dX9_sharpest_76 rfl (lv_at hl 3 rfl) ?_
        refine lv_icmp_ge (tgt := 85) hx hb dX9_sharpest_77 (by decide) (fun c_7 => ?_) (fun c_7 => ?_)
        · have hres := hres.trans (if_pos c_7)
          have hs := hs.1 c_7
          refine lv_iload_n hx hb dX9_sharpest_85 rfl (lv_at hl 3 rfl) ?_
          exact b_86 x1 s0 x4 x3 _ _ _ (lv_sub hl [1, 2, 0, 4] rfl) hP hS hs hres
        have hres := hres.trans (if_neg c_7)
        have hs := hs.2 c_7
        refine lv_iload hx hb dX9_sharpest_80 (lv_at hl 5 rfl) ?_
        refine lv_goto (tgt := 86) hx hb dX9_sharpest_82 (by decide) ?_
        exact b_86 x1 s0 x4 x5 _ _ _ (lv_sub hl [1, 2, 0, 4] rfl) hP hS hs hres
      have b_59 : ∀ (x1 : Int32) (x2 : Int32) (x3 : Int32) (x4 : Int32) (s0 : Int32) (H : Heap) (locs : List Loc) (ls : Array Slot), lv_has ls 6 [(0, .ref (gA G 213)), (1, .int x1), (2, .int x2), (3, .int x3), (4, .int x4)] → va_P (gD G) vwCl (gL G V) H → va_S (gF G) s.heap H locs → PX9_sharpest_59 (PX9_sharpest_24 n24) x1 x2 x3 x4 s0 V → res = BX9_sharpest_59 (BX9_sharpest_24 n24) x1 x2 x3 x4 s0 V → W p l e r_X9_sharpest s m ([.ref (gA G 213)] : List Value).toArray below meth c H locs 0 0 (MQ below (gQR G res V) ([.ref (gA G 213)] : List Value).toArray s 0 0 (gF G)) (F0 m 59 ls [.int s0]) := by
        intro x1 x2 x3 x4 s0 H locs ls hl hP hS hs hres
        have hs : ((x3 ≤ s0 → (PX9_sharpest_73 (PX9_sharpest_24 n24) x1 x3 x4 s0 x2 V)) ∧ (¬ x3 ≤ s0 → (PX9_sharpest_73 (PX9_sharpest_24 n24) x1 x3 x4 s0 x4 V))) := hs
        have hres : res = (if x3 ≤ s0 then (BX9_sharpest_73 (BX9_sharpest_24 n24) x1 x3 x4 s0 x2 V) else (BX9_sharpest_73 (BX9_sharpest_24 n24) x1 x3 x4 s0 x4 V)) := hres
        refine lv_istore (lv' := [(5, .int s0), (0, .ref (gA G 213)), (1, .int x1), (2, .int x2), (3, .int x3), (4, .int x4)]) hx hb dX9_sharpest_59 hl (by decide) rfl (fun ls hl => ?_)
        refine lv_iload hx hb dX9_sharpest_61 (lv_at hl 0 rfl) ?_
        refine lv_iload_n hx hb dX9_sharpest_63 rfl (lv_at hl 4 rfl) ?_
        refine lv_icmp_ge (tgt := 72) hx hb dX9_sharpest_64 (by decide) (fun c_6 => ?_) (fun c_6 => ?_)
        · have hres := hres.trans (if_pos c_6)
          have hs := hs.1 c_6
          refine lv_iload_n hx hb dX9_sharpest_72 rfl (lv_at hl 3 rfl) ?_
          exact b_73 x1 x3 x4 s0 x2 _ _ _ (lv_sub hl [1, 2, 4, 5, 0] rfl) hP hS hs hres
        have hres := hres.trans (if_neg c_6)
        have hs := hs.2 c_6
        refine lv_iload hx hb dX9_sharpest_67 (lv_at hl 5 rfl) ?_
        refine lv_goto (tgt := 73) hx hb dX9_sharpest_69 (by decide) ?_
        exact b_73 x1 x3 x4 s0 x4 _ _ _ (lv_sub hl [1, 2, 4, 5, 0] rfl) hP hS hs hres
      intro x1 x2 x3 x4 H locs ls hl hP hS hs hres
      have hs : ((¬ (26 : Int32) ≤ x4 → (((((V 214 ((6 : Int32)).toNatClampNeg) >>> (x4 &&& 31)) &&& (1 : Int32)) = (1 : Int32) → (PX9_sharpest_59 (PX9_sharpest_24 n24) x1 x2 x3 x4 (17 : Int32) V)) ∧ (¬ (((V 214 ((6 : Int32)).toNatClampNeg) >>> (x4 &&& 31)) &&& (1 : Int32)) = (1 : Int32) → (PX9_greatest x1 x4 V) ∧ (PX9_sharpest_59 (PX9_sharpest_24 n24) x1 x2 x3 x4 (MX9_greatest x1 x4 V) V))))) := hs
      have hres : res = (if (26 : Int32) ≤ x4 then (x2) else (if (((V 214 ((6 : Int32)).toNatClampNeg) >>> (x4 &&& 31)) &&& (1 : Int32)) = (1 : Int32) then (BX9_sharpest_59 (BX9_sharpest_24 n24) x1 x2 x3 x4 (17 : Int32) V) else (BX9_sharpest_59 (BX9_sharpest_24 n24) x1 x2 x3 x4 (MX9_greatest x1 x4 V) V))) := hres
      refine lv_iload hx hb dX9_sharpest_24 (lv_at hl 4 rfl) ?_
      refine lv_bipush (v := 26) hx hb dX9_sharpest_26 (by decide) ?_
      refine lv_icmp_ge (tgt := 93) hx hb dX9_sharpest_28 (by decide) (fun c_3 => ?_) (fun c_3 => ?_)
      · have hres := hres.trans (if_pos c_3)
        refine lv_iload_n hx hb dX9_sharpest_93 rfl (lv_at hl 2 rfl) ?_
        exact gh_iretR hx hb hr hlocks hP hS hT hres dX9_sharpest_94
      have hres := hres.trans (if_neg c_3)
      have hs := hs c_3
      refine lv_aload_n hx hb dX9_sharpest_31 rfl (lv_at hl 0 rfl) ?_
      refine gh_get (v := .ref (gA G 214)) (C := RX9) (T := TX9) (N := 11) hx hb hw inlX9 hown hT hP 213 (Nat.le_of_ble_eq_true rfl) kd213 rfl rfl 0 (by decide) (hw _ uw117) rfl dX9_sharpest_32 ?_
      refine lv_bipush (v := 6) hx hb dX9_sharpest_35 (by decide) ?_
      refine gh_iald hx hb hT hP 214 (Nat.le_of_ble_eq_true rfl) kd214 (gh_ci (by decide)) dX9_sharpest_37 ?_
      refine lv_iload hx hb dX9_sharpest_38 (lv_at hl 4 rfl) ?_
      refine lv_ishr hx hb dX9_sharpest_40 ?_
      refine lv_iconst (v := 1) hx hb dX9_sharpest_41 (by decide) ?_
      refine lv_iand hx hb dX9_sharpest_42 ?_
      refine lv_iconst (v := 1) hx hb dX9_sharpest_43 (by decide) ?_
      refine lv_icmp_ne (tgt := 52) hx hb dX9_sharpest_44 (by decide) (fun c_4 => ?_) (fun c_4 => ?_)
      · have hres := hres.trans (if_neg c_4)
        have hs := hs.2 c_4
        refine lv_aload_n hx hb dX9_sharpest_52 rfl (lv_at hl 0 rfl) ?_
        refine lv_iload_n hx hb dX9_sharpest_53 rfl (lv_at hl 1 rfl) ?_
        refine lv_iload hx hb dX9_sharpest_54 (lv_at hl 4 rfl) ?_
        obtain ⟨ho_5, hs⟩ := hs
        refine gh_kr (va_runV (As := [.int x1, .int x4]) (rest := []) ⟨hx, hb, hml, hown, hw⟩ (cc_X9_greatest l G V x1 x4 ho_5) (cwV 2 hw gv_RX9_113 rfl rfl rfl dd_X9_greatest ⟨Nat.le_of_ble_eq_true rfl, Nat.le_of_ble_eq_true rfl⟩) (gh_preV hT hP (Nat.le_of_ble_eq_true rfl) kd213 rfl rfl) rfl rfl hl.1 rfl (lv_room (Nat.le_of_ble_eq_true rfl)) dX9_sharpest_56 ⟨Nat.zero_le _, Nat.zero_le _⟩) hS (fun H locs hP hS => ?_)
        exact b_59 x1 x2 x3 x4 (MX9_greatest x1 x4 V) _ _ _ (lv_sub hl [0, 1, 2, 3, 4] rfl) hP hS hs hres
      have hres := hres.trans (if_pos c_4)
      have hs := hs.1 c_4
      refine lv_bipush (v := 17) hx hb dX9_sharpest_47 (by decide) ?_
      refine lv_goto (tgt := 59) hx hb dX9_sharpest_49 (by decide) ?_
      exact b_59 x1 x2 x3 x4 (17 : Int32) _ _ _ (lv_sub hl [0, 1, 2, 3, 4] rfl) hP hS hs hres
  refine lv_aload_n hx hb dX9_sharpest_0 rfl (lv_at hl 0 rfl) ?_
  refine gh_kr (va_runV (As := []) (rest := []) ⟨hx, hb, hml, hown, hw⟩ (cc_X9_runs l G V) (cwV 0 hw gv_RX9_44 rfl rfl rfl dd_X9_runs ⟨Nat.le_of_ble_eq_true rfl, Nat.le_of_ble_eq_true rfl⟩) (gh_preV hT hP (Nat.le_of_ble_eq_true rfl) kd213 rfl rfl) rfl rfl hl.1 rfl (lv_room (Nat.le_of_ble_eq_true rfl)) dX9_sharpest_1 ⟨Nat.zero_le _, Nat.zero_le _⟩) hS (fun H locs hP hS => ?_)
  refine lv_if_ne (tgt := 10) hx hb dX9_sharpest_4 (by decide) (fun c_1 => ?_) (fun c_1 => ?_)
  · have hres := hres.trans (if_neg c_1)
    have hs := hs c_1
    refine lv_aload_n hx hb dX9_sharpest_10 rfl (lv_at hl 0 rfl) ?_
    obtain ⟨ho_2, hs⟩ := hs
    refine gh_kr (va_runV (As := []) (rest := []) ⟨hx, hb, hml, hown, hw⟩ (cc_X9_fitting l G V ho_2) (cwV 0 hw gv_RX9_101 rfl rfl rfl dd_X9_fitting ⟨Nat.le_of_ble_eq_true rfl, Nat.le_of_ble_eq_true rfl⟩) (gh_preV hT hP (Nat.le_of_ble_eq_true rfl) kd213 rfl rfl) rfl rfl hl.1 rfl (lv_room (Nat.le_of_ble_eq_true rfl)) dX9_sharpest_11 ⟨Nat.zero_le _, Nat.zero_le _⟩) hS (fun H locs hP hS => ?_)
    refine lv_istore_n (lv' := [(1, .int (MX9_fitting V)), (0, .ref (gA G 213))]) hx hb dX9_sharpest_14 rfl hl (by decide) rfl (fun ls hl => ?_)
    refine lv_bipush (v := -4) hx hb dX9_sharpest_15 (by decide) ?_
    refine lv_istore_n (lv' := [(2, .int (-4 : Int32)), (1, .int (MX9_fitting V)), (0, .ref (gA G 213))]) hx hb dX9_sharpest_17 rfl hl (by decide) rfl (fun ls hl => ?_)
    refine lv_bipush (v := 17) hx hb dX9_sharpest_18 (by decide) ?_
    refine lv_istore_n (lv' := [(3, .int (17 : Int32)), (2, .int (-4 : Int32)), (1, .int (MX9_fitting V)), (0, .ref (gA G 213))]) hx hb dX9_sharpest_20 rfl hl (by decide) rfl (fun ls hl => ?_)
    refine lv_iconst (v := 0) hx hb dX9_sharpest_21 (by decide) ?_
    refine lv_istore (lv' := [(4, .int (0 : Int32)), (3, .int (17 : Int32)), (2, .int (-4 : Int32)), (1, .int (MX9_fitting V)), (0, .ref (gA G 213))]) hx hb dX9_sharpest_22 hl (by decide) rfl (fun ls hl => ?_)
    exact b_24 1000 (MX9_fitting V) (-4 : Int32) (17 : Int32) (0 : Int32) _ _ _ (lv_sub hl [4, 3, 2, 1, 0] rfl) hP hS hs hres
  have hres := hres.trans (if_pos c_1)
  refine lv_bipush (v := -2) hx hb dX9_sharpest_7 (by decide) ?_
  exact gh_iretR hx hb hr hlocks hP hS hT hres dX9_sharpest_9
theorem gv_RX9_71 : GoodIn wsL_law (wsV RX9 71 RX9 yX9_drawn wc_X9_drawn) := gh_gV uw352 uw353 uw354 uw5 uw355
theorem gv_RX9_74 : GoodIn wsL_law (wsV RX9 74 RX9 yX9_wordBy wc_X9_wordBy) := gh_gV uw359 uw360 uw361 uw5 uw362
def MX9_next   (V : gV) : Int32 := if (MX9_runs V) = 0 then (if (V 214 ((0 : Int32)).toNatClampNeg) = 0 then ((-2 : Int32)) else ((MX9_wordBy (MX9_drawn V) V))) else ((-2 : Int32))
def PX9_next   (V : gV) : Prop := (((MX9_runs V) = 0 → ((¬ (V 214 ((0 : Int32)).toNatClampNeg) = 0 → (PX9_wordBy (MX9_drawn V) V)))))
abbrev wc_X9_next : List Cond := Cond.code yX9_next cX9_next 1 (some .int) :: wsL_law
abbrev r_X9_next : Room := { frames := 3, cells := 0, slots := 0, locals := 67 }
theorem dd_X9_next : yX9_next.cls = RX9 ∧ yX9_next.cls ≠ "java/lang/invoke/MethodHandle" ∧ yX9_next.cls ≠ "java/lang/invoke/VarHandle" ∧ (parseMethodDescriptor yX9_next.desc).map (fun d => d.parameters.length) = some 0 := by decide +kernel
set_option maxHeartbeats 8000000 in
set_option maxRecDepth 100000 in
theorem cc_X9_next (l : Launch) (G : gG) (V : gV)    (hs : PX9_next V) : Met l yX9_next wc_X9_next r_X9_next (va_Pc [.ref (gA G 213)] (gW G V)) (gQR G (MX9_next V) V) 0 0 (gF G) := by
  refine Met.ofW (cc := cX9_next) (maxL := 1) (ret := (some .int)) (by decide) rfl ?_
  intro p e s m args below meth c s₁ B hml hv
  obtain ⟨rfl, hP, hT⟩ := hv
  have hx := B.exec
  have hb := B.bytes
  have hr := B.returns
  have hw := gh_hw (atoms_spec (ws := wc_X9_next) B.pre)
  have hown : s.vm.findClass RX9 = some m.cls := findClass_of_methodNamed B.named
  have hlocks := B.notSynchronized
  have hS : va_S (gF G) s.heap s.heap [] := va_S.rf
  have hl := lv_entry ([.ref (gA G 213)]) (n := 1) (Nat.le_of_ble_eq_true rfl)
  rw [lg_entry_eq]
  generalize (lg_sl ([.ref (gA G 213)]) ++ List.replicate (1 - (lg_sl ([.ref (gA G 213)])).length) Slot.unset).toArray = ls at hl ⊢
  have hl : lv_has ls 1 [(0, .ref (gA G 213))] := hl
  obtain ⟨res, hres⟩ : ∃ r, r = MX9_next V := ⟨_, rfl⟩
  rw [← hres]
  show W p l e r_X9_next s m ([.ref (gA G 213)] : List Value).toArray below meth c s.heap [] 0 0 (MQ below (gQR G res V) ([.ref (gA G 213)] : List Value).toArray s 0 0 (gF G)) (F0 m 0 ls [])
  have hs : (((MX9_runs V) = 0 → ((¬ (V 214 ((0 : Int32)).toNatClampNeg) = 0 → (PX9_wordBy (MX9_drawn V) V))))) := hs
  have hres : res = (if (MX9_runs V) = 0 then (if (V 214 ((0 : Int32)).toNatClampNeg) = 0 then ((-2 : Int32)) else ((MX9_wordBy (MX9_drawn V) V))) else ((-2 : Int32))) := hres
  refine lv_aload_n hx hb dX9_next_0 rfl (lv_at hl 0 rfl) ?_
  refine gh_kr (va_runV (As := []) (rest := []) ⟨hx, hb, hml, hown, hw⟩ (cc_X9_runs l G V) (cwV 0 hw gv_RX9_44 rfl rfl rfl dd_X9_runs ⟨Nat.le_of_ble_eq_true rfl, Nat.le_of_ble_eq_true rfl⟩) (gh_preV hT hP (Nat.le_of_ble_eq_true rfl) kd213 rfl rfl) rfl rfl hl.1 rfl (lv_room (Nat.le_of_ble_eq_true rfl)) dX9_next_1 ⟨Nat.zero_le _, Nat.zero_le _⟩) hS (fun H locs hP hS => ?_)
  refine lv_if_ne (tgt := 16) hx hb dX9_next_4 (by decide) (fun c_1 => ?_) (fun c_1 => ?_)
  · have hres := hres.trans (if_neg c_1)
    refine lv_bipush (v := -2) hx hb dX9_next_16 (by decide) ?_
    refine lv_goto (tgt := 29) hx hb dX9_next_18 (by decide) ?_
    exact gh_iretR hx hb hr hlocks hP hS hT hres dX9_next_29
  have hres := hres.trans (if_pos c_1)
  have hs := hs c_1
  refine lv_aload_n hx hb dX9_next_7 rfl (lv_at hl 0 rfl) ?_
  refine gh_get (v := .ref (gA G 214)) (C := RX9) (T := TX9) (N := 11) hx hb hw inlX9 hown hT hP 213 (Nat.le_of_ble_eq_true rfl) kd213 rfl rfl 0 (by decide) (hw _ uw117) rfl dX9_next_8 ?_
  refine lv_iconst (v := 0) hx hb dX9_next_11 (by decide) ?_
  refine gh_iald hx hb hT hP 214 (Nat.le_of_ble_eq_true rfl) kd214 (gh_ci (by decide)) dX9_next_12 ?_
  refine lv_if_ne (tgt := 21) hx hb dX9_next_13 (by decide) (fun c_2 => ?_) (fun c_2 => ?_)
  · have hres := hres.trans (if_neg c_2)
    have hs := hs c_2
    refine lv_aload_n hx hb dX9_next_21 rfl (lv_at hl 0 rfl) ?_
    refine lv_aload_n hx hb dX9_next_22 rfl (lv_at hl 0 rfl) ?_
    refine gh_kr (va_runV (As := []) (rest := [.ref (gA G 213)]) ⟨hx, hb, hml, hown, hw⟩ (cc_X9_drawn l G V) (cwV 0 hw gv_RX9_71 rfl rfl rfl dd_X9_drawn ⟨Nat.le_of_ble_eq_true rfl, Nat.le_of_ble_eq_true rfl⟩) (gh_preV hT hP (Nat.le_of_ble_eq_true rfl) kd213 rfl rfl) rfl rfl hl.1 rfl (lv_room (Nat.le_of_ble_eq_true rfl)) dX9_next_23 ⟨Nat.zero_le _, Nat.zero_le _⟩) hS (fun H locs hP hS => ?_)
    have ho_3 := hs
    refine gh_kr (va_runV (As := [.int (MX9_drawn V)]) (rest := []) ⟨hx, hb, hml, hown, hw⟩ (cc_X9_wordBy l G V (MX9_drawn V) ho_3) (cwV 1 hw gv_RX9_74 rfl rfl rfl dd_X9_wordBy ⟨Nat.le_of_ble_eq_true rfl, Nat.le_of_ble_eq_true rfl⟩) (gh_preV hT hP (Nat.le_of_ble_eq_true rfl) kd213 rfl rfl) rfl rfl hl.1 rfl (lv_room (Nat.le_of_ble_eq_true rfl)) dX9_next_26 ⟨Nat.zero_le _, Nat.zero_le _⟩) hS (fun H locs hP hS => ?_)
    exact gh_iretR hx hb hr hlocks hP hS hT hres dX9_next_29
  have hres := hres.trans (if_pos c_2)
  refine lv_bipush (v := -2) hx hb dX9_next_16 (by decide) ?_
  refine lv_goto (tgt := 29) hx hb dX9_next_18 (by decide) ?_
  exact gh_iretR hx hb hr hlocks hP hS hT hres dX9_next_29
theorem gv_RX9_126 : GoodIn wsL_law (va_wsS RX9 126 yX9_copies wc_X9_copies) := gh_gS uw713 uw714 uw5 uw715
def BX9_keep_16    (V : gV) : Int32 × gV := ((V 214 ((1 : Int32)).toNatClampNeg), V)
def BX9_keep_11    (V : gV) : Int32 × gV := BX9_keep_16 (gu V 213 3 (1 : Int32))
def MX9_keep   (V : gV) : Int32 × gV := BX9_keep_11 (MX9_copies 214 216 V)
def PX9_keep   (V : gV) : Prop := (PX9_copies 214 216 V)
abbrev wc_X9_keep : List Cond := Cond.code yX9_keep cX9_keep 1 (some .int) :: wsL_law
abbrev r_X9_keep : Room := { frames := 1, cells := 0, slots := 0, locals := 22 }
theorem dd_X9_keep : yX9_keep.cls = RX9 ∧ yX9_keep.cls ≠ "java/lang/invoke/MethodHandle" ∧ yX9_keep.cls ≠ "java/lang/invoke/VarHandle" ∧ (parseMethodDescriptor yX9_keep.desc).map (fun d => d.parameters.length) = some 0 := by decide +kernel
set_option maxHeartbeats 8000000 in
set_option maxRecDepth 100000 in
theorem cc_X9_keep (l : Launch) (G : gG) (V : gV)    (hs : PX9_keep V) : Met l yX9_keep wc_X9_keep r_X9_keep (va_Pc [.ref (gA G 213)] (gW G V)) (gQI G (MX9_keep V)) 0 0 (gF G) := by
  refine Met.ofW (cc := cX9_keep) (maxL := 1) (ret := (some .int)) (by decide) rfl ?_
  intro p e s m args below meth c s₁ B hml hv
  obtain ⟨rfl, hP, hT⟩ := hv
  have hx := B.exec
  have hb := B.bytes
  have hr := B.returns
  have hw := gh_hw (atoms_spec (ws := wc_X9_keep) B.pre)
  have hown : s.vm.findClass RX9 = some m.cls := findClass_of_methodNamed B.named
  have hlocks := B.notSynchronized
  have hS : va_S (gF G) s.heap s.heap [] := va_S.rf
  have hl := lv_entry ([.ref (gA G 213)]) (n := 1) (Nat.le_of_ble_eq_true rfl)
  rw [lg_entry_eq]
  generalize (lg_sl ([.ref (gA G 213)]) ++ List.replicate (1 - (lg_sl ([.ref (gA G 213)])).length) Slot.unset).toArray = ls at hl ⊢
  have hl : lv_has ls 1 [(0, .ref (gA G 213))] := hl
  obtain ⟨res, hres⟩ : ∃ r, r = MX9_keep V := ⟨_, rfl⟩
  rw [← hres]
  show W p l e r_X9_keep s m ([.ref (gA G 213)] : List Value).toArray below meth c s.heap [] 0 0 (MQ below (gQI G res) ([.ref (gA G 213)] : List Value).toArray s 0 0 (gF G)) (F0 m 0 ls [])
  have hs : (PX9_copies 214 216 V) := hs
  have hres : res = (BX9_keep_11 (MX9_copies 214 216 V)) := hres
  have b_16 : ∀  (V : gV) (H : Heap) (locs : List Loc) (ls : Array Slot), lv_has ls 1 [(0, .ref (gA G 213))] → va_P (gD G) vwCl (gL G V) H → va_S (gF G) s.heap H locs → res = BX9_keep_16   V → W p l e r_X9_keep s m ([.ref (gA G 213)] : List Value).toArray below meth c H locs 0 0 (MQ below (gQI G res) ([.ref (gA G 213)] : List Value).toArray s 0 0 (gF G)) (F0 m 16 ls []) := by
    intro  V H locs ls hl hP hS hres
    have hres : res = (((V 214 ((1 : Int32)).toNatClampNeg), V)) := hres
    refine lv_aload_n hx hb dX9_keep_16 rfl (lv_at hl 0 rfl) ?_
    refine gh_get (v := .ref (gA G 214)) (C := RX9) (T := TX9) (N := 11) hx hb hw inlX9 hown hT hP 213 (Nat.le_of_ble_eq_true rfl) kd213 rfl rfl 0 (by decide) (hw _ uw117) rfl dX9_keep_17 ?_
    refine lv_iconst (v := 1) hx hb dX9_keep_20 (by decide) ?_
    refine gh_iald hx hb hT hP 214 (Nat.le_of_ble_eq_true rfl) kd214 (gh_ci (by decide)) dX9_keep_21 ?_
    exact gh_iret hx hb hr hlocks hP hS hT hres dX9_keep_22
  have b_11 : ∀  (V : gV) (H : Heap) (locs : List Loc) (ls : Array Slot), lv_has ls 1 [(0, .ref (gA G 213))] → va_P (gD G) vwCl (gL G V) H → va_S (gF G) s.heap H locs → res = BX9_keep_11   V → W p l e r_X9_keep s m ([.ref (gA G 213)] : List Value).toArray below meth c H locs 0 0 (MQ below (gQI G res) ([.ref (gA G 213)] : List Value).toArray s 0 0 (gF G)) (F0 m 11 ls []) := by
    intro  V H locs ls hl hP hS hres
    have hres : res = (BX9_keep_16 (gu V 213 3 (1 : Int32))) := hres
    refine lv_aload_n hx hb dX9_keep_11 rfl (lv_at hl 0 rfl) ?_
    refine lv_iconst (v := 1) hx hb dX9_keep_12 (by decide) ?_
    refine gh_put (ty := .boolean) (x := (1 : Int32)) (C := RX9) (T := TX9) (N := 11) hx hb hw inlX9 tyX9_ok nmX9 hown hT hP hS 213 (Nat.le_of_ble_eq_true rfl) kd213 rfl rfl 3 (by decide) (hw _ uw607) rfl (by decide +kernel) rfl rfl (Nat.le_of_ble_eq_true rfl) rfl dX9_keep_13 (fun H locs hP hS => ?_)
    exact b_16 (gu V 213 3 (1 : Int32)) _ _ _ (lv_sub hl [0] rfl) hP hS hres
  refine lv_aload_n hx hb dX9_keep_0 rfl (lv_at hl 0 rfl) ?_
  refine gh_get (v := .ref (gA G 214)) (C := RX9) (T := TX9) (N := 11) hx hb hw inlX9 hown hT hP 213 (Nat.le_of_ble_eq_true rfl) kd213 rfl rfl 0 (by decide) (hw _ uw117) rfl dX9_keep_1 ?_
  refine lv_aload_n hx hb dX9_keep_4 rfl (lv_at hl 0 rfl) ?_
  refine gh_get (v := .ref (gA G 216)) (C := RX9) (T := TX9) (N := 11) hx hb hw inlX9 hown hT hP 213 (Nat.le_of_ble_eq_true rfl) kd213 rfl rfl 2 (by decide) (hw _ uw119) rfl dX9_keep_5 ?_
  have ho_1 := hs
  refine gh_kv (va_runS (As := [.ref (gA G 214), .ref (gA G 216)]) (rest := []) ⟨hx, hb, hml, hown, hw⟩ (cc_X9_copies l G V 214 gia214 216 gia216 ho_1) (va_cwS 2 hw gv_RX9_126 rfl rfl rfl dd_X9_copies.2 ⟨Nat.le_of_ble_eq_true rfl, Nat.le_of_ble_eq_true rfl⟩) (gh_pre hT hP) rfl rfl hl.1 rfl (lv_room (Nat.le_of_ble_eq_true rfl)) dX9_keep_8 ⟨Nat.zero_le _, Nat.zero_le _⟩) hS (fun H locs hP hS => ?_)
  exact b_11 (MX9_copies 214 216 V) _ _ _ (lv_sub hl [0] rfl) hP hS hres
def BX9_type_35    (V : gV) : Int32 × gV := (((gu V 213 6 ((V 213 6) + (1 : Int32))) 213 6), (gu V 213 6 ((V 213 6) + (1 : Int32))))
def MX9_type  (a1 : Int32) (V : gV) : Int32 × gV := if (MX9_in a1 (32 : Int32) (126 : Int32) V) = 0 then (((-1 : Int32), V)) else (if (V 213 6) = (120 : Int32) then (((-3 : Int32), V)) else (BX9_type_35 (gu V 217 ((V 213 6)).toNatClampNeg a1)))
def PX9_type  (a1 : Int32) (V : gV) : Prop := ((¬ (MX9_in a1 (32 : Int32) (126 : Int32) V) = 0 → ((¬ (V 213 6) = (120 : Int32) → (vp_in (V 213 6) 120)))))
abbrev wc_X9_type : List Cond := Cond.code yX9_type cX9_type 2 (some .int) :: wsL_law
abbrev r_X9_type : Room := { frames := 1, cells := 0, slots := 0, locals := 22 }
theorem dd_X9_type : yX9_type.cls = RX9 ∧ yX9_type.cls ≠ "java/lang/invoke/MethodHandle" ∧ yX9_type.cls ≠ "java/lang/invoke/VarHandle" ∧ (parseMethodDescriptor yX9_type.desc).map (fun d => d.parameters.length) = some 1 := by decide +kernel
set_option maxHeartbeats 8000000 in
set_option maxRecDepth 100000 in
theorem cc_X9_type (l : Launch) (G : gG) (V : gV)   (a1 : Int32) (hs : PX9_type a1 V) : Met l yX9_type wc_X9_type r_X9_type (va_Pc [.ref (gA G 213), .int a1] (gW G V)) (gQI G (MX9_type a1 V)) 0 0 (gF G) := by
  refine Met.ofW (cc := cX9_type) (maxL := 2) (ret := (some .int)) (by decide) rfl ?_
  intro p e s m args below meth c s₁ B hml hv
  obtain ⟨rfl, hP, hT⟩ := hv
  have hx := B.exec
  have hb := B.bytes
  have hr := B.returns
  have hw := gh_hw (atoms_spec (ws := wc_X9_type) B.pre)
  have hown : s.vm.findClass RX9 = some m.cls := findClass_of_methodNamed B.named
  have hlocks := B.notSynchronized
  have hS : va_S (gF G) s.heap s.heap [] := va_S.rf
  have hl := lv_entry ([.ref (gA G 213), .int a1]) (n := 2) (Nat.le_of_ble_eq_true rfl)
  rw [lg_entry_eq]
  generalize (lg_sl ([.ref (gA G 213), .int a1]) ++ List.replicate (2 - (lg_sl ([.ref (gA G 213), .int a1])).length) Slot.unset).toArray = ls at hl ⊢
  have hl : lv_has ls 2 [(0, .ref (gA G 213)), (1, .int a1)] := hl
  obtain ⟨res, hres⟩ : ∃ r, r = MX9_type a1 V := ⟨_, rfl⟩
  rw [← hres]
  show W p l e r_X9_type s m ([.ref (gA G 213), .int a1] : List Value).toArray below meth c s.heap [] 0 0 (MQ below (gQI G res) ([.ref (gA G 213), .int a1] : List Value).toArray s 0 0 (gF G)) (F0 m 0 ls [])
  have hs : ((¬ (MX9_in a1 (32 : Int32) (126 : Int32) V) = 0 → ((¬ (V 213 6) = (120 : Int32) → (vp_in (V 213 6) 120))))) := hs
  have hres : res = (if (MX9_in a1 (32 : Int32) (126 : Int32) V) = 0 then (((-1 : Int32), V)) else (if (V 213 6) = (120 : Int32) then (((-3 : Int32), V)) else (BX9_type_35 (gu V 217 ((V 213 6)).toNatClampNeg a1)))) := hres
  have b_35 : ∀  (V : gV) (H : Heap) (locs : List Loc) (ls : Array Slot), lv_has ls 2 [(0, .ref (gA G 213))] → va_P (gD G) vwCl (gL G V) H → va_S (gF G) s.heap H locs → res = BX9_type_35   V → W p l e r_X9_type s m ([.ref (gA G 213), .int a1] : List Value).toArray below meth c H locs 0 0 (MQ below (gQI G res) ([.ref (gA G 213), .int a1] : List Value).toArray s 0 0 (gF G)) (F0 m 35 ls []) := by
    intro  V H locs ls hl hP hS hres
    have hres : res = ((((gu V 213 6 ((V 213 6) + (1 : Int32))) 213 6), (gu V 213 6 ((V 213 6) + (1 : Int32))))) := hres
    refine lv_aload_n hx hb dX9_type_35 rfl (lv_at hl 0 rfl) ?_
    refine lv_dup hx hb dX9_type_36 rfl ?_
    refine gh_get (v := .int (V 213 6)) (C := RX9) (T := TX9) (N := 11) hx hb hw inlX9 hown hT hP 213 (Nat.le_of_ble_eq_true rfl) kd213 rfl rfl 6 (by decide) (hw _ uw606) rfl dX9_type_37 ?_
    refine lv_iconst (v := 1) hx hb dX9_type_40 (by decide) ?_
    refine lv_iadd hx hb dX9_type_41 ?_
    refine gh_put (ty := .int) (x := ((V 213 6) + (1 : Int32))) (C := RX9) (T := TX9) (N := 11) hx hb hw inlX9 tyX9_ok nmX9 hown hT hP hS 213 (Nat.le_of_ble_eq_true rfl) kd213 rfl rfl 6 (by decide) (hw _ uw606) rfl (by decide +kernel) rfl rfl (Nat.le_of_ble_eq_true rfl) rfl dX9_type_42 (fun H locs hP hS => ?_)
    refine lv_aload_n hx hb dX9_type_45 rfl (lv_at hl 0 rfl) ?_
    refine gh_get (v := .int ((gu V 213 6 ((V 213 6) + (1 : Int32))) 213 6)) (C := RX9) (T := TX9) (N := 11) hx hb hw inlX9 hown hT hP 213 (Nat.le_of_ble_eq_true rfl) kd213 rfl rfl 6 (by decide) (hw _ uw606) rfl dX9_type_46 ?_
    exact gh_iret hx hb hr hlocks hP hS hT hres dX9_type_49
  refine lv_iload_n hx hb dX9_type_0 rfl (lv_at hl 1 rfl) ?_
  refine lv_bipush (v := 32) hx hb dX9_type_1 (by decide) ?_
  refine lv_bipush (v := 126) hx hb dX9_type_3 (by decide) ?_
  refine gh_kr (va_runS (As := [.int a1, .int (32 : Int32), .int (126 : Int32)]) (rest := []) ⟨hx, hb, hml, hown, hw⟩ (cc_X9_in l G V a1 (32 : Int32) (126 : Int32)) (va_cwS 3 hw gv_RX9_40 rfl rfl rfl dd_X9_in.2 ⟨Nat.le_of_ble_eq_true rfl, Nat.le_of_ble_eq_true rfl⟩) (gh_pre hT hP) rfl rfl hl.1 rfl (lv_room (Nat.le_of_ble_eq_true rfl)) dX9_type_5 ⟨Nat.zero_le _, Nat.zero_le _⟩) hS (fun H locs hP hS => ?_)
  refine lv_if_ne (tgt := 13) hx hb dX9_type_8 (by decide) (fun c_1 => ?_) (fun c_1 => ?_)
  · have hres := hres.trans (if_neg c_1)
    have hs := hs c_1
    refine lv_aload_n hx hb dX9_type_13 rfl (lv_at hl 0 rfl) ?_
    refine gh_get (v := .int (V 213 6)) (C := RX9) (T := TX9) (N := 11) hx hb hw inlX9 hown hT hP 213 (Nat.le_of_ble_eq_true rfl) kd213 rfl rfl 6 (by decide) (hw _ uw606) rfl dX9_type_14 ?_
    refine lv_bipush (v := 120) hx hb dX9_type_17 (by decide) ?_
    refine lv_icmp_ne (tgt := 25) hx hb dX9_type_19 (by decide) (fun c_2 => ?_) (fun c_2 => ?_)
    · have hres := hres.trans (if_neg c_2)
      have hs := hs c_2
      refine lv_aload_n hx hb dX9_type_25 rfl (lv_at hl 0 rfl) ?_
      refine gh_get (v := .ref (gA G 217)) (C := RX9) (T := TX9) (N := 11) hx hb hw inlX9 hown hT hP 213 (Nat.le_of_ble_eq_true rfl) kd213 rfl rfl 5 (by decide) (hw _ uw120) rfl dX9_type_26 ?_
      refine lv_aload_n hx hb dX9_type_29 rfl (lv_at hl 0 rfl) ?_
      refine gh_get (v := .int (V 213 6)) (C := RX9) (T := TX9) (N := 11) hx hb hw inlX9 hown hT hP 213 (Nat.le_of_ble_eq_true rfl) kd213 rfl rfl 6 (by decide) (hw _ uw606) rfl dX9_type_30 ?_
      refine lv_iload_n hx hb dX9_type_33 rfl (lv_at hl 1 rfl) ?_
      have ho_3 := hs
      refine gh_iast hx hb hT hP hS 217 (Nat.le_of_ble_eq_true rfl) kd217 ho_3 dX9_type_34 (fun H locs hP hS => ?_)
      exact b_35 (gu V 217 ((V 213 6)).toNatClampNeg a1) _ _ _ (lv_sub hl [0] rfl) hP hS hres
    have hres := hres.trans (if_pos c_2)
    refine lv_bipush (v := -3) hx hb dX9_type_22 (by decide) ?_
    exact gh_iret hx hb hr hlocks hP hS hT hres dX9_type_24
  have hres := hres.trans (if_pos c_1)
  refine lv_iconst (v := -1) hx hb dX9_type_11 (by decide) ?_
  exact gh_iret hx hb hr hlocks hP hS hT hres dX9_type_12
def MX9_clearText   (V : gV) : Int32 × gV := ((V 213 6), (gu V 213 6 (0 : Int32)))
abbrev wc_X9_clearText : List Cond := Cond.code yX9_clearText cX9_clearText 2 (some .int) :: wsL_law
abbrev r_X9_clearText : Room := { frames := 0, cells := 0, slots := 0, locals := 0 }
theorem dd_X9_clearText : yX9_clearText.cls = RX9 ∧ yX9_clearText.cls ≠ "java/lang/invoke/MethodHandle" ∧ yX9_clearText.cls ≠ "java/lang/invoke/VarHandle" ∧ (parseMethodDescriptor yX9_clearText.desc).map (fun d => d.parameters.length) = some 0 := by decide +kernel
set_option maxHeartbeats 8000000 in
set_option maxRecDepth 100000 in
theorem cc_X9_clearText (l : Launch) (G : gG) (V : gV)     : Met l yX9_clearText wc_X9_clearText r_X9_clearText (va_Pc [.ref (gA G 213)] (gW G V)) (gQI G (MX9_clearText V)) 0 0 (gF G) := by
  refine Met.ofW (cc := cX9_clearText) (maxL := 2) (ret := (some .int)) (by decide) rfl ?_
  intro p e s m args below meth c s₁ B hml hv
  obtain ⟨rfl, hP, hT⟩ := hv
  have hx := B.exec
  have hb := B.bytes
  have hr := B.returns
  have hw := gh_hw (atoms_spec (ws := wc_X9_clearText) B.pre)
  have hown : s.vm.findClass RX9 = some m.cls := findClass_of_methodNamed B.named
  have hlocks := B.notSynchronized
  have hS : va_S (gF G) s.heap s.heap [] := va_S.rf
  have hl := lv_entry ([.ref (gA G 213)]) (n := 2) (Nat.le_of_ble_eq_true rfl)
  rw [lg_entry_eq]
  generalize (lg_sl ([.ref (gA G 213)]) ++ List.replicate (2 - (lg_sl ([.ref (gA G 213)])).length) Slot.unset).toArray = ls at hl ⊢
  have hl : lv_has ls 2 [(0, .ref (gA G 213))] := hl
  obtain ⟨res, hres⟩ : ∃ r, r = MX9_clearText V := ⟨_, rfl⟩
  rw [← hres]
  show W p l e r_X9_clearText s m ([.ref (gA G 213)] : List Value).toArray below meth c s.heap [] 0 0 (MQ below (gQI G res) ([.ref (gA G 213)] : List Value).toArray s 0 0 (gF G)) (F0 m 0 ls [])
  have hres : res = (((V 213 6), (gu V 213 6 (0 : Int32)))) := hres
  refine lv_aload_n hx hb dX9_clearText_0 rfl (lv_at hl 0 rfl) ?_
  refine gh_get (v := .int (V 213 6)) (C := RX9) (T := TX9) (N := 11) hx hb hw inlX9 hown hT hP 213 (Nat.le_of_ble_eq_true rfl) kd213 rfl rfl 6 (by decide) (hw _ uw606) rfl dX9_clearText_1 ?_
  refine lv_istore_n (lv' := [(1, .int (V 213 6)), (0, .ref (gA G 213))]) hx hb dX9_clearText_4 rfl hl (by decide) rfl (fun ls hl => ?_)
  refine lv_aload_n hx hb dX9_clearText_5 rfl (lv_at hl 1 rfl) ?_
  refine lv_iconst (v := 0) hx hb dX9_clearText_6 (by decide) ?_
  refine gh_put (ty := .int) (x := (0 : Int32)) (C := RX9) (T := TX9) (N := 11) hx hb hw inlX9 tyX9_ok nmX9 hown hT hP hS 213 (Nat.le_of_ble_eq_true rfl) kd213 rfl rfl 6 (by decide) (hw _ uw606) rfl (by decide +kernel) rfl rfl (Nat.le_of_ble_eq_true rfl) rfl dX9_clearText_7 (fun H locs hP hS => ?_)
  refine lv_iload_n hx hb dX9_clearText_10 rfl (lv_at hl 0 rfl) ?_
  exact gh_iret hx hb hr hlocks hP hS hT hres dX9_clearText_11
theorem gv_RX9_161 : GoodIn wsL_law (wsV RX9 161 RX9 yX9_isRight wc_X9_isRight) := gh_gV uw823 uw824 uw825 uw5 uw826
def BX9_fault_15   (x1 : Int32) (s0 : Int32) (V : gV) : Int32 × gV := if s0 = 0 then (if x1 = 0 then (((V 213 7), V)) else (((V 213 8), V))) else (((-4 : Int32), V))
def MX9_fault  (a1 : Int32) (V : gV) : Int32 × gV := if (MX9_in a1 (0 : Int32) (1 : Int32) V) = 0 then (((-1 : Int32), V)) else (BX9_fault_15 a1 ((MX9_isRight V).1) ((MX9_isRight V).2))
def PX9_fault  (a1 : Int32) (V : gV) : Prop := ((¬ (MX9_in a1 (0 : Int32) (1 : Int32) V) = 0 → (PX9_isRight V)))
abbrev wc_X9_fault : List Cond := Cond.code yX9_fault cX9_fault 2 (some .int) :: wsL_law
abbrev r_X9_fault : Room := { frames := 5, cells := 0, slots := 0, locals := 108 }
theorem dd_X9_fault : yX9_fault.cls = RX9 ∧ yX9_fault.cls ≠ "java/lang/invoke/MethodHandle" ∧ yX9_fault.cls ≠ "java/lang/invoke/VarHandle" ∧ (parseMethodDescriptor yX9_fault.desc).map (fun d => d.parameters.length) = some 1 := by decide +kernel
set_option maxHeartbeats 8000000 in
set_option maxRecDepth 100000 in
theorem cc_X9_fault (l : Launch) (G : gG) (V : gV)   (a1 : Int32) (hs : PX9_fault a1 V) : Met l yX9_fault wc_X9_fault r_X9_fault (va_Pc [.ref (gA G 213), .int a1] (gW G V)) (gQI G (MX9_fault a1 V)) 0 0 (gF G) := by
  refine Met.ofW (cc := cX9_fault) (maxL := 2) (ret := (some .int)) (by decide) rfl ?_
  intro p e s m args below meth c s₁ B hml hv
  obtain ⟨rfl, hP, hT⟩ := hv
  have hx := B.exec
  have hb := B.bytes
  have hr := B.returns
  have hw := gh_hw (atoms_spec (ws := wc_X9_fault) B.pre)
  have hown : s.vm.findClass RX9 = some m.cls := findClass_of_methodNamed B.named
  have hlocks := B.notSynchronized
  have hS : va_S (gF G) s.heap s.heap [] := va_S.rf
  have hl := lv_entry ([.ref (gA G 213), .int a1]) (n := 2) (Nat.le_of_ble_eq_true rfl)
  rw [lg_entry_eq]
  generalize (lg_sl ([.ref (gA G 213), .int a1]) ++ List.replicate (2 - (lg_sl ([.ref (gA G 213), .int a1])).length) Slot.unset).toArray = ls at hl ⊢
  have hl : lv_has ls 2 [(0, .ref (gA G 213)), (1, .int a1)] := hl
  obtain ⟨res, hres⟩ : ∃ r, r = MX9_fault a1 V := ⟨_, rfl⟩
  rw [← hres]
  show W p l e r_X9_fault s m ([.ref (gA G 213), .int a1] : List Value).toArray below meth c s.heap [] 0 0 (MQ below (gQI G res) ([.ref (gA G 213), .int a1] : List Value).toArray s 0 0 (gF G)) (F0 m 0 ls [])
  have hs : ((¬ (MX9_in a1 (0 : Int32) (1 : Int32) V) = 0 → (PX9_isRight V))) := hs
  have hres : res = (if (MX9_in a1 (0 : Int32) (1 : Int32) V) = 0 then (((-1 : Int32), V)) else (BX9_fault_15 a1 ((MX9_isRight V).1) ((MX9_isRight V).2))) := hres
  have b_15 : ∀ (x1 : Int32) (s0 : Int32) (V : gV) (H : Heap) (locs : List Loc) (ls : Array Slot), lv_has ls 2 [(0, .ref (gA G 213)), (1, .int x1)] → va_P (gD G) vwCl (gL G V) H → va_S (gF G) s.heap H locs → res = BX9_fault_15  x1 s0 V → W p l e r_X9_fault s m ([.ref (gA G 213), .int a1] : List Value).toArray below meth c H locs 0 0 (MQ below (gQI G res) ([.ref (gA G 213), .int a1] : List Value).toArray s 0 0 (gF G)) (F0 m 15 ls [.int s0]) := by
    intro x1 s0 V H locs ls hl hP hS hres
    have hres : res = (if s0 = 0 then (if x1 = 0 then (((V 213 7), V)) else (((V 213 8), V))) else (((-4 : Int32), V))) := hres
    refine lv_if_eq (tgt := 23) hx hb dX9_fault_15 (by decide) (fun c_3 => ?_) (fun c_3 => ?_)
    · have hres := hres.trans (if_pos c_3)
      refine lv_iload_n hx hb dX9_fault_23 rfl (lv_at hl 1 rfl) ?_
      refine lv_if_ne (tgt := 34) hx hb dX9_fault_24 (by decide) (fun c_4 => ?_) (fun c_4 => ?_)
      · have hres := hres.trans (if_neg c_4)
        refine lv_aload_n hx hb dX9_fault_34 rfl (lv_at hl 0 rfl) ?_
        refine gh_get (v := .int (V 213 8)) (C := RX9) (T := TX9) (N := 11) hx hb hw inlX9 hown hT hP 213 (Nat.le_of_ble_eq_true rfl) kd213 rfl rfl 8 (by decide) (hw _ uw822) rfl dX9_fault_35 ?_
        exact gh_iret hx hb hr hlocks hP hS hT hres dX9_fault_38
      have hres := hres.trans (if_pos c_4)
      refine lv_aload_n hx hb dX9_fault_27 rfl (lv_at hl 0 rfl) ?_
      refine gh_get (v := .int (V 213 7)) (C := RX9) (T := TX9) (N := 11) hx hb hw inlX9 hown hT hP 213 (Nat.le_of_ble_eq_true rfl) kd213 rfl rfl 7 (by decide) (hw _ uw821) rfl dX9_fault_28 ?_
      refine lv_goto (tgt := 38) hx hb dX9_fault_31 (by decide) ?_
      exact gh_iret hx hb hr hlocks hP hS hT hres dX9_fault_38
    have hres := hres.trans (if_neg c_3)
    refine lv_bipush (v := -4) hx hb dX9_fault_18 (by decide) ?_
    refine lv_goto (tgt := 38) hx hb dX9_fault_20 (by decide) ?_
    exact gh_iret hx hb hr hlocks hP hS hT hres dX9_fault_38
  refine lv_iload_n hx hb dX9_fault_0 rfl (lv_at hl 1 rfl) ?_
  refine lv_iconst (v := 0) hx hb dX9_fault_1 (by decide) ?_
  refine lv_iconst (v := 1) hx hb dX9_fault_2 (by decide) ?_
  refine gh_kr (va_runS (As := [.int a1, .int (0 : Int32), .int (1 : Int32)]) (rest := []) ⟨hx, hb, hml, hown, hw⟩ (cc_X9_in l G V a1 (0 : Int32) (1 : Int32)) (va_cwS 3 hw gv_RX9_40 rfl rfl rfl dd_X9_in.2 ⟨Nat.le_of_ble_eq_true rfl, Nat.le_of_ble_eq_true rfl⟩) (gh_pre hT hP) rfl rfl hl.1 rfl (lv_room (Nat.le_of_ble_eq_true rfl)) dX9_fault_3 ⟨Nat.zero_le _, Nat.zero_le _⟩) hS (fun H locs hP hS => ?_)
  refine lv_if_ne (tgt := 11) hx hb dX9_fault_6 (by decide) (fun c_1 => ?_) (fun c_1 => ?_)
  · have hres := hres.trans (if_neg c_1)
    have hs := hs c_1
    refine lv_aload_n hx hb dX9_fault_11 rfl (lv_at hl 0 rfl) ?_
    have ho_2 := hs
    refine gh_ki (va_runV (As := []) (rest := []) ⟨hx, hb, hml, hown, hw⟩ (cc_X9_isRight l G V ho_2) (cwV 0 hw gv_RX9_161 rfl rfl rfl dd_X9_isRight ⟨Nat.le_of_ble_eq_true rfl, Nat.le_of_ble_eq_true rfl⟩) (gh_preV hT hP (Nat.le_of_ble_eq_true rfl) kd213 rfl rfl) rfl rfl hl.1 rfl (lv_room (Nat.le_of_ble_eq_true rfl)) dX9_fault_12 ⟨Nat.zero_le _, Nat.zero_le _⟩) hS (fun H locs hP hS => ?_)
    exact b_15 a1 ((MX9_isRight V).1) ((MX9_isRight V).2) _ _ _ (lv_sub hl [0, 1] rfl) hP hS hres
  have hres := hres.trans (if_pos c_1)
  refine lv_iconst (v := -1) hx hb dX9_fault_9 (by decide) ?_
  exact gh_iret hx hb hr hlocks hP hS hT hres dX9_fault_10
