theorem gi1 : gX5 1 := by unfold gX5 gX7 gX0 gX3 gX2 gX4; decide +kernel
theorem gi2 : gX7 2 := by unfold gX7 gX4; decide +kernel
theorem gi3 : gX4 3 := by unfold gX4; decide +kernel
theorem gi5 : gX4 5 := by unfold gX4; decide +kernel
theorem gi7 : gX4 7 := by unfold gX4; decide +kernel
theorem gi9 : gX4 9 := by unfold gX4; decide +kernel
theorem gi11 : gX0 11 := by unfold gX0 gX4; decide +kernel
theorem gi12 : gX4 12 := by unfold gX4; decide +kernel
theorem gi14 : gX4 14 := by unfold gX4; decide +kernel
theorem gi16 : gX4 16 := by unfold gX4; decide +kernel
theorem gi18 : gX4 18 := by unfold gX4; decide +kernel
theorem gi20 : gX4 20 := by unfold gX4; decide +kernel
theorem gi22 : gX4 22 := by unfold gX4; decide +kernel
theorem gi24 : gX3 24 := by unfold gX3; decide +kernel
theorem gi25 : gX2 25 := by unfold gX2 gX4; decide +kernel
theorem gi26 : gX4 26 := by unfold gX4; decide +kernel
theorem gi28 : gX4 28 := by unfold gX4; decide +kernel
theorem gi30 : gX4 30 := by unfold gX4; decide +kernel
theorem gi32 : gX4 32 := by unfold gX4; decide +kernel
theorem gi34 : gX5 34 := by unfold gX5 gX7 gX0 gX3 gX2 gX4; decide +kernel
theorem gi35 : gX7 35 := by unfold gX7 gX4; decide +kernel
theorem gi36 : gX4 36 := by unfold gX4; decide +kernel
theorem gi38 : gX4 38 := by unfold gX4; decide +kernel
theorem gi40 : gX4 40 := by unfold gX4; decide +kernel
theorem gi42 : gX4 42 := by unfold gX4; decide +kernel
theorem gi44 : gX0 44 := by unfold gX0 gX4; decide +kernel
theorem gi45 : gX4 45 := by unfold gX4; decide +kernel
theorem gi47 : gX4 47 := by unfold gX4; decide +kernel
theorem gi49 : gX4 49 := by unfold gX4; decide +kernel
theorem gi51 : gX4 51 := by unfold gX4; decide +kernel
theorem gi53 : gX4 53 := by unfold gX4; decide +kernel
theorem gi55 : gX4 55 := by unfold gX4; decide +kernel
theorem gi57 : gX3 57 := by unfold gX3; decide +kernel
theorem gi58 : gX2 58 := by unfold gX2 gX4; decide +kernel
theorem gi59 : gX4 59 := by unfold gX4; decide +kernel
theorem gi61 : gX4 61 := by unfold gX4; decide +kernel
theorem gi63 : gX4 63 := by unfold gX4; decide +kernel
theorem gi65 : gX4 65 := by unfold gX4; decide +kernel
theorem gi69 : gX5 69 := by unfold gX5 gX7 gX0 gX3 gX2 gX4; decide +kernel
theorem gi70 : gX7 70 := by unfold gX7 gX4; decide +kernel
theorem gi71 : gX4 71 := by unfold gX4; decide +kernel
theorem gi73 : gX4 73 := by unfold gX4; decide +kernel
theorem gi75 : gX4 75 := by unfold gX4; decide +kernel
theorem gi77 : gX4 77 := by unfold gX4; decide +kernel
theorem gi79 : gX0 79 := by unfold gX0 gX4; decide +kernel
theorem gi80 : gX4 80 := by unfold gX4; decide +kernel
theorem gi82 : gX4 82 := by unfold gX4; decide +kernel
theorem gi84 : gX4 84 := by unfold gX4; decide +kernel
theorem gi86 : gX4 86 := by unfold gX4; decide +kernel
theorem gi88 : gX4 88 := by unfold gX4; decide +kernel
theorem gi90 : gX4 90 := by unfold gX4; decide +kernel
theorem gi92 : gX3 92 := by unfold gX3; decide +kernel
theorem gi93 : gX2 93 := by unfold gX2 gX4; decide +kernel
theorem gi94 : gX4 94 := by unfold gX4; decide +kernel
theorem gi96 : gX4 96 := by unfold gX4; decide +kernel
theorem gi98 : gX4 98 := by unfold gX4; decide +kernel
theorem gi100 : gX4 100 := by unfold gX4; decide +kernel
theorem gi102 : gX5 102 := by unfold gX5 gX7 gX0 gX3 gX2 gX4; decide +kernel
theorem gi103 : gX7 103 := by unfold gX7 gX4; decide +kernel
theorem gi104 : gX4 104 := by unfold gX4; decide +kernel
theorem gi106 : gX4 106 := by unfold gX4; decide +kernel
theorem gi108 : gX4 108 := by unfold gX4; decide +kernel
theorem gi110 : gX4 110 := by unfold gX4; decide +kernel
theorem gi112 : gX0 112 := by unfold gX0 gX4; decide +kernel
theorem gi113 : gX4 113 := by unfold gX4; decide +kernel
theorem gi115 : gX4 115 := by unfold gX4; decide +kernel
theorem gi117 : gX4 117 := by unfold gX4; decide +kernel
theorem gi119 : gX4 119 := by unfold gX4; decide +kernel
theorem gi121 : gX4 121 := by unfold gX4; decide +kernel
theorem gi123 : gX4 123 := by unfold gX4; decide +kernel
theorem gi125 : gX3 125 := by unfold gX3; decide +kernel
theorem gi126 : gX2 126 := by unfold gX2 gX4; decide +kernel
theorem gi127 : gX4 127 := by unfold gX4; decide +kernel
theorem gi129 : gX4 129 := by unfold gX4; decide +kernel
theorem gi131 : gX4 131 := by unfold gX4; decide +kernel
theorem gi133 : gX4 133 := by unfold gX4; decide +kernel
theorem gi135 : gX5 135 := by unfold gX5 gX7 gX0 gX3 gX2 gX4; decide +kernel
theorem gi136 : gX7 136 := by unfold gX7 gX4; decide +kernel
theorem gi137 : gX4 137 := by unfold gX4; decide +kernel
theorem gi139 : gX4 139 := by unfold gX4; decide +kernel
theorem gi141 : gX4 141 := by unfold gX4; decide +kernel
theorem gi143 : gX4 143 := by unfold gX4; decide +kernel
theorem gi145 : gX0 145 := by unfold gX0 gX4; decide +kernel
theorem gi146 : gX4 146 := by unfold gX4; decide +kernel
theorem gi148 : gX4 148 := by unfold gX4; decide +kernel
theorem gi150 : gX4 150 := by unfold gX4; decide +kernel
theorem gi152 : gX4 152 := by unfold gX4; decide +kernel
theorem gi154 : gX4 154 := by unfold gX4; decide +kernel
theorem gi156 : gX4 156 := by unfold gX4; decide +kernel
theorem gi158 : gX3 158 := by unfold gX3; decide +kernel
theorem gi159 : gX2 159 := by unfold gX2 gX4; decide +kernel
theorem gi160 : gX4 160 := by unfold gX4; decide +kernel
theorem gi162 : gX4 162 := by unfold gX4; decide +kernel
theorem gi164 : gX4 164 := by unfold gX4; decide +kernel
theorem gi166 : gX4 166 := by unfold gX4; decide +kernel
theorem gi168 : gX5 168 := by unfold gX5 gX7 gX0 gX3 gX2 gX4; decide +kernel
theorem gi169 : gX7 169 := by unfold gX7 gX4; decide +kernel
theorem gi170 : gX4 170 := by unfold gX4; decide +kernel
theorem gi172 : gX4 172 := by unfold gX4; decide +kernel
theorem gi174 : gX4 174 := by unfold gX4; decide +kernel
theorem gi176 : gX4 176 := by unfold gX4; decide +kernel
theorem gi178 : gX0 178 := by unfold gX0 gX4; decide +kernel
theorem gi179 : gX4 179 := by unfold gX4; decide +kernel
theorem gi181 : gX4 181 := by unfold gX4; decide +kernel
theorem gi183 : gX4 183 := by unfold gX4; decide +kernel
theorem gi185 : gX4 185 := by unfold gX4; decide +kernel
theorem gi187 : gX4 187 := by unfold gX4; decide +kernel
theorem gi189 : gX4 189 := by unfold gX4; decide +kernel
theorem gi191 : gX3 191 := by unfold gX3; decide +kernel
theorem gi192 : gX2 192 := by unfold gX2 gX4; decide +kernel
theorem gi193 : gX4 193 := by unfold gX4; decide +kernel
theorem gi195 : gX4 195 := by unfold gX4; decide +kernel
theorem gi197 : gX4 197 := by unfold gX4; decide +kernel
theorem gi199 : gX4 199 := by unfold gX4; decide +kernel
theorem gi202 : gX7 202 := by unfold gX7 gX4; decide +kernel
theorem gi203 : gX4 203 := by unfold gX4; decide +kernel
theorem gi205 : gX4 205 := by unfold gX4; decide +kernel
theorem gi207 : gX4 207 := by unfold gX4; decide +kernel
theorem gi209 : gX4 209 := by unfold gX4; decide +kernel
theorem gi211 : gX4 211 := by unfold gX4; decide +kernel
def MX7_has  (a1 : Int32) (V : gV) : Int32 := if a1 < 0 then ((0 : Int32)) else (if (V 2 0) ≤ a1 then ((0 : Int32)) else ((1 : Int32)))
abbrev wc_X7_has : List Cond := Cond.code yX7_has cX7_has 2 (some .boolean) :: wsL_law
abbrev r_X7_has : Room := { frames := 0, cells := 0, slots := 0, locals := 0 }
theorem dd_X7_has : yX7_has.cls = RX7 ∧ yX7_has.cls ≠ "java/lang/invoke/MethodHandle" ∧ yX7_has.cls ≠ "java/lang/invoke/VarHandle" ∧ (parseMethodDescriptor yX7_has.desc).map (fun d => d.parameters.length) = some 1 := by decide +kernel
set_option maxHeartbeats 8000000 in
set_option maxRecDepth 100000 in
theorem cc_X7_has (l : Launch) (G : gG) (V : gV)   (a1 : Int32)  : Met l yX7_has wc_X7_has r_X7_has (va_Pc [.ref (gA G 2), .int a1] (gW G V)) (gQR G (MX7_has a1 V) V) 0 0 (gF G) := by
  refine Met.ofW (cc := cX7_has) (maxL := 2) (ret := (some .boolean)) (by decide) rfl ?_
  intro p e s m args below meth c s₁ B hml hv
  obtain ⟨rfl, hP, hT⟩ := hv
  have hx := B.exec
  have hb := B.bytes
  have hr := B.returns
  have hw := gh_hw (atoms_spec (ws := wc_X7_has) B.pre)
  have hown : s.vm.findClass RX7 = some m.cls := findClass_of_methodNamed B.named
  have hlocks := B.notSynchronized
  have hS : va_S (gF G) s.heap s.heap [] := va_S.rf
  have hl := lv_entry ([.ref (gA G 2), .int a1]) (n := 2) (Nat.le_of_ble_eq_true rfl)
  rw [lg_entry_eq]
  generalize (lg_sl ([.ref (gA G 2), .int a1]) ++ List.replicate (2 - (lg_sl ([.ref (gA G 2), .int a1])).length) Slot.unset).toArray = ls at hl ⊢
  have hl : lv_has ls 2 [(0, .ref (gA G 2)), (1, .int a1)] := hl
  obtain ⟨res, hres⟩ : ∃ r, r = MX7_has a1 V := ⟨_, rfl⟩
  rw [← hres]
  show W p l e r_X7_has s m ([.ref (gA G 2), .int a1] : List Value).toArray below meth c s.heap [] 0 0 (MQ below (gQR G res V) ([.ref (gA G 2), .int a1] : List Value).toArray s 0 0 (gF G)) (F0 m 0 ls [])
  have hres : res = (if a1 < 0 then ((0 : Int32)) else (if (V 2 0) ≤ a1 then ((0 : Int32)) else ((1 : Int32)))) := hres
  refine lv_iload_n hx hb dX7_has_0 rfl (lv_at hl 1 rfl) ?_
  refine lv_if_lt (tgt := 16) hx hb dX7_has_1 (by decide) (fun c_1 => ?_) (fun c_1 => ?_)
  · have hres := hres.trans (if_pos c_1)
    refine lv_iconst (v := 0) hx hb dX7_has_16 (by decide) ?_
    exact gh_zretR hx hb hr rfl hlocks hP hS hT hres dX7_has_17
  have hres := hres.trans (if_neg c_1)
  refine lv_iload_n hx hb dX7_has_4 rfl (lv_at hl 1 rfl) ?_
  refine lv_aload_n hx hb dX7_has_5 rfl (lv_at hl 0 rfl) ?_
  refine gh_get (v := .int (V 2 0)) (C := RX7) (T := TX7) (N := 5) hx hb hw inlX7 hown hT hP 2 (Nat.le_of_ble_eq_true rfl) kd2 rfl rfl 0 (by decide) (hw _ uw134) rfl dX7_has_6 ?_
  refine lv_icmp_ge (tgt := 16) hx hb dX7_has_9 (by decide) (fun c_2 => ?_) (fun c_2 => ?_)
  · have hres := hres.trans (if_pos c_2)
    refine lv_iconst (v := 0) hx hb dX7_has_16 (by decide) ?_
    exact gh_zretR hx hb hr rfl hlocks hP hS hT hres dX7_has_17
  have hres := hres.trans (if_neg c_2)
  refine lv_iconst (v := 1) hx hb dX7_has_12 (by decide) ?_
  refine lv_goto (tgt := 17) hx hb dX7_has_13 (by decide) ?_
  exact gh_zretR hx hb hr rfl hlocks hP hS hT hres dX7_has_17
theorem gz_X7_has  (a1 : Int32) (V : gV) : gZ (MX7_has a1 V) := by
  unfold MX7_has
  repeat (any_goals split)
  all_goals first | exact Or.inl rfl | exact Or.inr rfl
theorem gv_RX7_37 : GoodIn wsL_law (wsV RX7 37 RX4 yX4_at wc_X4_at) := gh_gV uw337 uw190 uw191 uw55 uw192
def MX7_letterAt (k : Nat) (a1 : Int32) (a2 : Int32) (V : gV) : Int32 := (MX4_at (k + 7) ((a1 * (8 : Int32)) + a2) V)
abbrev wc_X7_letterAt : List Cond := Cond.code yX7_letterAt cX7_letterAt 3 (some .int) :: wsL_law
abbrev r_X7_letterAt : Room := { frames := 1, cells := 0, slots := 0, locals := 21 }
theorem dd_X7_letterAt : yX7_letterAt.cls = RX7 ∧ yX7_letterAt.cls ≠ "java/lang/invoke/MethodHandle" ∧ yX7_letterAt.cls ≠ "java/lang/invoke/VarHandle" ∧ (parseMethodDescriptor yX7_letterAt.desc).map (fun d => d.parameters.length) = some 2 := by decide +kernel
set_option maxHeartbeats 8000000 in
set_option maxRecDepth 100000 in
theorem cc_X7_letterAt (l : Launch) (G : gG) (V : gV) (k : Nat) (hk : gX7 k)  (a1 : Int32) (a2 : Int32)  : Met l yX7_letterAt wc_X7_letterAt r_X7_letterAt (va_Pc [.ref (gA G k), .int a1, .int a2] (gW G V)) (gQR G (MX7_letterAt k a1 a2 V) V) 0 0 (gF G) := by
  refine Met.ofW (cc := cX7_letterAt) (maxL := 3) (ret := (some .int)) (by decide) rfl ?_
  intro p e s m args below meth c s₁ B hml hv
  obtain ⟨rfl, hP, hT⟩ := hv
  have hx := B.exec
  have hb := B.bytes
  have hr := B.returns
  have hw := gh_hw (atoms_spec (ws := wc_X7_letterAt) B.pre)
  have hown : s.vm.findClass RX7 = some m.cls := findClass_of_methodNamed B.named
  have hlocks := B.notSynchronized
  have hS : va_S (gF G) s.heap s.heap [] := va_S.rf
  have hl := lv_entry ([.ref (gA G k), .int a1, .int a2]) (n := 3) (Nat.le_of_ble_eq_true rfl)
  rw [lg_entry_eq]
  generalize (lg_sl ([.ref (gA G k), .int a1, .int a2]) ++ List.replicate (3 - (lg_sl ([.ref (gA G k), .int a1, .int a2])).length) Slot.unset).toArray = ls at hl ⊢
  have hl : lv_has ls 3 [(0, .ref (gA G k)), (1, .int a1), (2, .int a2)] := hl
  obtain ⟨res, hres⟩ : ∃ r, r = MX7_letterAt k a1 a2 V := ⟨_, rfl⟩
  rw [← hres]
  show W p l e r_X7_letterAt s m ([.ref (gA G k), .int a1, .int a2] : List Value).toArray below meth c s.heap [] 0 0 (MQ below (gQR G res V) ([.ref (gA G k), .int a1, .int a2] : List Value).toArray s 0 0 (gF G)) (F0 m 0 ls [])
  have hres : res = ((MX4_at (k + 7) ((a1 * (8 : Int32)) + a2) V)) := hres
  refine lv_aload_n hx hb dX7_letterAt_0 rfl (lv_at hl 0 rfl) ?_
  refine gh_get (v := .ref (gA G (k + 7))) (C := RX7) (T := TX7) (N := 5) hx hb hw inlX7 hown hT hP k (Nat.lt_of_le_of_lt (Nat.le_add_right _ 8) (hk).1) (hk).2.1 rfl rfl 4 (by decide) (hw _ uw59) rfl dX7_letterAt_1 ?_
  refine lv_iload_n hx hb dX7_letterAt_4 rfl (lv_at hl 1 rfl) ?_
  refine lv_bipush (v := 8) hx hb dX7_letterAt_5 (by decide) ?_
  refine lv_imul hx hb dX7_letterAt_7 ?_
  refine lv_iload_n hx hb dX7_letterAt_8 rfl (lv_at hl 2 rfl) ?_
  refine lv_iadd hx hb dX7_letterAt_9 ?_
  refine gh_kr (va_runV (As := [.int ((a1 * (8 : Int32)) + a2)]) (rest := []) ⟨hx, hb, hml, hown, hw⟩ (cc_X4_at l G V (k + 7) (hk).2.2.2.2.2 ((a1 * (8 : Int32)) + a2)) (cwV 1 hw gv_RX7_37 rfl rfl rfl dd_X4_at ⟨Nat.le_of_ble_eq_true rfl, Nat.le_of_ble_eq_true rfl⟩) (gh_preV hT hP (Nat.lt_of_succ_lt ((hk).2.2.2.2.2).1) ((hk).2.2.2.2.2).2.1 rfl rfl) rfl rfl hl.1 rfl (lv_room (Nat.le_of_ble_eq_true rfl)) dX7_letterAt_10 ⟨Nat.zero_le _, Nat.zero_le _⟩) hS (fun H locs hP hS => ?_)
  exact gh_iretR hx hb hr hlocks hP hS hT hres dX7_letterAt_13
theorem gv_RX7_45 : GoodIn wsL_law (wsV RX7 45 RX7 yX7_letterAt wc_X7_letterAt) := gh_gV uw392 uw393 uw394 uw31 uw395
def BX7_letterSet_14   : Nat → Int32 → Int32 → Int32 → Int32 → gV → Int32
  | 0, _, _, _, _, _ => 0
  | n + 1, x1, x2, x3, x4, V => if x3 ≤ x4 then (x2) else ((BX7_letterSet_14 n) x1 (x2 ||| ((1 : Int32) <<< ((MX7_letterAt 2 x1 x4 V) &&& 31))) x3 (x4 + (1 : Int32)) V)
def PX7_letterSet_14   : Nat → Int32 → Int32 → Int32 → Int32 → gV → Prop
  | 0, _, _, _, _, _ => False
  | n + 1, x1, x2, x3, x4, V => ((¬ x3 ≤ x4 → ((PX7_letterSet_14 n) x1 (x2 ||| ((1 : Int32) <<< ((MX7_letterAt 2 x1 x4 V) &&& 31))) x3 (x4 + (1 : Int32)) V)))
def MX7_letterSet  (a1 : Int32) (V : gV) : Int32 := BX7_letterSet_14 1000 a1 (0 : Int32) (MX4_at 3 a1 V) (0 : Int32) V
def PX7_letterSet  (a1 : Int32) (V : gV) : Prop := (PX7_letterSet_14 1000 a1 (0 : Int32) (MX4_at 3 a1 V) (0 : Int32) V)
abbrev wc_X7_letterSet : List Cond := Cond.code yX7_letterSet cX7_letterSet 5 (some .int) :: wsL_law
abbrev r_X7_letterSet : Room := { frames := 2, cells := 0, slots := 0, locals := 43 }
theorem dd_X7_letterSet : yX7_letterSet.cls = RX7 ∧ yX7_letterSet.cls ≠ "java/lang/invoke/MethodHandle" ∧ yX7_letterSet.cls ≠ "java/lang/invoke/VarHandle" ∧ (parseMethodDescriptor yX7_letterSet.desc).map (fun d => d.parameters.length) = some 1 := by decide +kernel
set_option maxHeartbeats 8000000 in
set_option maxRecDepth 100000 in
theorem cc_X7_letterSet (l : Launch) (G : gG) (V : gV)   (a1 : Int32) (hs : PX7_letterSet a1 V) : Met l yX7_letterSet wc_X7_letterSet r_X7_letterSet (va_Pc [.ref (gA G 2), .int a1] (gW G V)) (gQR G (MX7_letterSet a1 V) V) 0 0 (gF G) := by
  refine Met.ofW (cc := cX7_letterSet) (maxL := 5) (ret := (some .int)) (by decide) rfl ?_
  intro p e s m args below meth c s₁ B hml hv
  obtain ⟨rfl, hP, hT⟩ := hv
  have hx := B.exec
  have hb := B.bytes
  have hr := B.returns
  have hw := gh_hw (atoms_spec (ws := wc_X7_letterSet) B.pre)
  have hown : s.vm.findClass RX7 = some m.cls := findClass_of_methodNamed B.named
  have hlocks := B.notSynchronized
  have hS : va_S (gF G) s.heap s.heap [] := va_S.rf
  have hl := lv_entry ([.ref (gA G 2), .int a1]) (n := 5) (Nat.le_of_ble_eq_true rfl)
  rw [lg_entry_eq]
  generalize (lg_sl ([.ref (gA G 2), .int a1]) ++ List.replicate (5 - (lg_sl ([.ref (gA G 2), .int a1])).length) Slot.unset).toArray = ls at hl ⊢
  have hl : lv_has ls 5 [(0, .ref (gA G 2)), (1, .int a1)] := hl
  obtain ⟨res, hres⟩ : ∃ r, r = MX7_letterSet a1 V := ⟨_, rfl⟩
  rw [← hres]
  show W p l e r_X7_letterSet s m ([.ref (gA G 2), .int a1] : List Value).toArray below meth c s.heap [] 0 0 (MQ below (gQR G res V) ([.ref (gA G 2), .int a1] : List Value).toArray s 0 0 (gF G)) (F0 m 0 ls [])
  have hs : (PX7_letterSet_14 1000 a1 (0 : Int32) (MX4_at 3 a1 V) (0 : Int32) V) := hs
  have hres : res = (BX7_letterSet_14 1000 a1 (0 : Int32) (MX4_at 3 a1 V) (0 : Int32) V) := hres
  have b_14 : ∀ (n : Nat) (x1 : Int32) (x2 : Int32) (x3 : Int32) (x4 : Int32) (H : Heap) (locs : List Loc) (ls : Array Slot), lv_has ls 5 [(0, .ref (gA G 2)), (1, .int x1), (2, .int x2), (3, .int x3), (4, .int x4)] → va_P (gD G) vwCl (gL G V) H → va_S (gF G) s.heap H locs → PX7_letterSet_14  n x1 x2 x3 x4 V → res = BX7_letterSet_14  n x1 x2 x3 x4 V → W p l e r_X7_letterSet s m ([.ref (gA G 2), .int a1] : List Value).toArray below meth c H locs 0 0 (MQ below (gQR G res V) ([.ref (gA G 2), .int a1] : List Value).toArray s 0 0 (gF G)) (F0 m 14 ls []) := by
    intro n
    induction n with
    | zero =>
      intro x1 x2 x3 x4 H locs ls hl hP hS hs hres
      exact (show False from hs).elim
    | succ n14 ih14 =>
      intro x1 x2 x3 x4 H locs ls hl hP hS hs hres
      have hs : ((¬ x3 ≤ x4 → ((PX7_letterSet_14 n14) x1 (x2 ||| ((1 : Int32) <<< ((MX7_letterAt 2 x1 x4 V) &&& 31))) x3 (x4 + (1 : Int32)) V))) := hs
      have hres : res = (if x3 ≤ x4 then (x2) else ((BX7_letterSet_14 n14) x1 (x2 ||| ((1 : Int32) <<< ((MX7_letterAt 2 x1 x4 V) &&& 31))) x3 (x4 + (1 : Int32)) V)) := hres
      refine lv_iload hx hb dX7_letterSet_14 (lv_at hl 4 rfl) ?_
      refine lv_iload_n hx hb dX7_letterSet_16 rfl (lv_at hl 3 rfl) ?_
      refine lv_icmp_ge (tgt := 38) hx hb dX7_letterSet_17 (by decide) (fun c_1 => ?_) (fun c_1 => ?_)
      · have hres := hres.trans (if_pos c_1)
        refine lv_iload_n hx hb dX7_letterSet_38 rfl (lv_at hl 2 rfl) ?_
        exact gh_iretR hx hb hr hlocks hP hS hT hres dX7_letterSet_39
      have hres := hres.trans (if_neg c_1)
      have hs := hs c_1
      refine lv_iload_n hx hb dX7_letterSet_20 rfl (lv_at hl 2 rfl) ?_
      refine lv_iconst (v := 1) hx hb dX7_letterSet_21 (by decide) ?_
      refine lv_aload_n hx hb dX7_letterSet_22 rfl (lv_at hl 0 rfl) ?_
      refine lv_iload_n hx hb dX7_letterSet_23 rfl (lv_at hl 1 rfl) ?_
      refine lv_iload hx hb dX7_letterSet_24 (lv_at hl 4 rfl) ?_
      refine gh_kr (va_runV (As := [.int x1, .int x4]) (rest := [.int (1 : Int32), .int x2]) ⟨hx, hb, hml, hown, hw⟩ (cc_X7_letterAt l G V 2 gi2 x1 x4) (cwV 2 hw gv_RX7_45 rfl rfl rfl dd_X7_letterAt ⟨Nat.le_of_ble_eq_true rfl, Nat.le_of_ble_eq_true rfl⟩) (gh_preV hT hP (Nat.le_of_ble_eq_true rfl) kd2 rfl rfl) rfl rfl hl.1 rfl (lv_room (Nat.le_of_ble_eq_true rfl)) dX7_letterSet_26 ⟨Nat.zero_le _, Nat.zero_le _⟩) hS (fun H locs hP hS => ?_)
      refine lv_ishl hx hb dX7_letterSet_29 ?_
      refine lv_ior hx hb dX7_letterSet_30 ?_
      refine lv_istore_n (lv' := [(2, .int (x2 ||| ((1 : Int32) <<< ((MX7_letterAt 2 x1 x4 V) &&& 31)))), (0, .ref (gA G 2)), (1, .int x1), (3, .int x3), (4, .int x4)]) hx hb dX7_letterSet_31 rfl hl (by decide) rfl (fun ls hl => ?_)
      refine lv_iinc (v := (x4 + (1 : Int32))) (lv' := [(4, .int (x4 + (1 : Int32))), (2, .int (x2 ||| ((1 : Int32) <<< ((MX7_letterAt 2 x1 x4 V) &&& 31)))), (0, .ref (gA G 2)), (1, .int x1), (3, .int x3)]) hx hb dX7_letterSet_32 hl (k := 4) rfl rfl (by decide) rfl (fun ls hl => ?_)
      refine lv_goto (tgt := 14) hx hb dX7_letterSet_35 (by decide) ?_
      exact ih14 x1 (x2 ||| ((1 : Int32) <<< ((MX7_letterAt 2 x1 x4 V) &&& 31))) x3 (x4 + (1 : Int32)) _ _ _ (lv_sub hl [2, 3, 1, 4, 0] rfl) hP hS hs hres
  refine lv_iconst (v := 0) hx hb dX7_letterSet_0 (by decide) ?_
  refine lv_istore_n (lv' := [(2, .int (0 : Int32)), (0, .ref (gA G 2)), (1, .int a1)]) hx hb dX7_letterSet_1 rfl hl (by decide) rfl (fun ls hl => ?_)
  refine lv_aload_n hx hb dX7_letterSet_2 rfl (lv_at hl 1 rfl) ?_
  refine gh_get (v := .ref (gA G 3)) (C := RX7) (T := TX7) (N := 5) hx hb hw inlX7 hown hT hP 2 (Nat.le_of_ble_eq_true rfl) kd2 rfl rfl 1 (by decide) (hw _ uw56) rfl dX7_letterSet_3 ?_
  refine lv_iload_n hx hb dX7_letterSet_6 rfl (lv_at hl 2 rfl) ?_
  refine gh_kr (va_runV (As := [.int a1]) (rest := []) ⟨hx, hb, hml, hown, hw⟩ (cc_X4_at l G V 3 gi3 a1) (cwV 1 hw gv_RX7_37 rfl rfl rfl dd_X4_at ⟨Nat.le_of_ble_eq_true rfl, Nat.le_of_ble_eq_true rfl⟩) (gh_preV hT hP (Nat.le_of_ble_eq_true rfl) kd3 rfl rfl) rfl rfl hl.1 rfl (lv_room (Nat.le_of_ble_eq_true rfl)) dX7_letterSet_7 ⟨Nat.zero_le _, Nat.zero_le _⟩) hS (fun H locs hP hS => ?_)
  refine lv_istore_n (lv' := [(3, .int (MX4_at 3 a1 V)), (2, .int (0 : Int32)), (0, .ref (gA G 2)), (1, .int a1)]) hx hb dX7_letterSet_10 rfl hl (by decide) rfl (fun ls hl => ?_)
  refine lv_iconst (v := 0) hx hb dX7_letterSet_11 (by decide) ?_
  refine lv_istore (lv' := [(4, .int (0 : Int32)), (3, .int (MX4_at 3 a1 V)), (2, .int (0 : Int32)), (0, .ref (gA G 2)), (1, .int a1)]) hx hb dX7_letterSet_12 hl (by decide) rfl (fun ls hl => ?_)
  exact b_14 1000 a1 (0 : Int32) (MX4_at 3 a1 V) (0 : Int32) _ _ _ (lv_sub hl [3, 4, 2, 1, 0] rfl) hP hS hs hres
def BX7_placesOf_40  (K15 : Int32 → Int32 → Int32 → Int32 → Int32 → gV → Int32) (x1 : Int32) (x2 : Int32) (x3 : Int32) (x4 : Int32) (x5 : Int32) (V : gV) : Int32 := K15 x1 x2 x3 x4 (x5 + (1 : Int32)) V
def PX7_placesOf_40  (KP15 : Int32 → Int32 → Int32 → Int32 → Int32 → gV → Prop) (x1 : Int32) (x2 : Int32) (x3 : Int32) (x4 : Int32) (x5 : Int32) (V : gV) : Prop := (KP15 x1 x2 x3 x4 (x5 + (1 : Int32)) V)
def BX7_placesOf_15   : Nat → Int32 → Int32 → Int32 → Int32 → Int32 → gV → Int32
  | 0, _, _, _, _, _, _ => 0
  | n + 1, x1, x2, x3, x4, x5, V => if x4 ≤ x5 then (x3) else (if (MX7_letterAt 2 x1 x5 V) = x2 then (BX7_placesOf_40 (BX7_placesOf_15 n) x1 x2 (x3 ||| ((1 : Int32) <<< (x5 &&& 31))) x4 x5 V) else (BX7_placesOf_40 (BX7_placesOf_15 n) x1 x2 x3 x4 x5 V))
def PX7_placesOf_15   : Nat → Int32 → Int32 → Int32 → Int32 → Int32 → gV → Prop
  | 0, _, _, _, _, _, _ => False
  | n + 1, x1, x2, x3, x4, x5, V => ((¬ x4 ≤ x5 → (((MX7_letterAt 2 x1 x5 V) = x2 → (PX7_placesOf_40 (PX7_placesOf_15 n) x1 x2 (x3 ||| ((1 : Int32) <<< (x5 &&& 31))) x4 x5 V)) ∧ (¬ (MX7_letterAt 2 x1 x5 V) = x2 → (PX7_placesOf_40 (PX7_placesOf_15 n) x1 x2 x3 x4 x5 V)))))
def MX7_placesOf  (a1 : Int32) (a2 : Int32) (V : gV) : Int32 := BX7_placesOf_15 1000 a1 a2 (0 : Int32) (MX4_at 3 a1 V) (0 : Int32) V
def PX7_placesOf  (a1 : Int32) (a2 : Int32) (V : gV) : Prop := (PX7_placesOf_15 1000 a1 a2 (0 : Int32) (MX4_at 3 a1 V) (0 : Int32) V)
abbrev wc_X7_placesOf : List Cond := Cond.code yX7_placesOf cX7_placesOf 6 (some .int) :: wsL_law
abbrev r_X7_placesOf : Room := { frames := 2, cells := 0, slots := 0, locals := 43 }
theorem dd_X7_placesOf : yX7_placesOf.cls = RX7 ∧ yX7_placesOf.cls ≠ "java/lang/invoke/MethodHandle" ∧ yX7_placesOf.cls ≠ "java/lang/invoke/VarHandle" ∧ (parseMethodDescriptor yX7_placesOf.desc).map (fun d => d.parameters.length) = some 2 := by decide +kernel
set_option maxHeartbeats 8000000 in
set_option maxRecDepth 100000 in
theorem cc_X7_placesOf (l : Launch) (G : gG) (V : gV)   (a1 : Int32) (a2 : Int32) (hs : PX7_placesOf a1 a2 V) : Met l yX7_placesOf wc_X7_placesOf r_X7_placesOf (va_Pc [.ref (gA G 2), .int a1, .int a2] (gW G V)) (gQR G (MX7_placesOf a1 a2 V) V) 0 0 (gF G) := by
  refine Met.ofW (cc := cX7_placesOf) (maxL := 6) (ret := (some .int)) (by decide) rfl ?_
  intro p e s m args below meth c s₁ B hml hv
  obtain ⟨rfl, hP, hT⟩ := hv
  have hx := B.exec
  have hb := B.bytes
  have hr := B.returns
  have hw := gh_hw (atoms_spec (ws := wc_X7_placesOf) B.pre)
  have hown : s.vm.findClass RX7 = some m.cls := findClass_of_methodNamed B.named
  have hlocks := B.notSynchronized
  have hS : va_S (gF G) s.heap s.heap [] := va_S.rf
  have hl := lv_entry ([.ref (gA G 2), .int a1, .int a2]) (n := 6) (Nat.le_of_ble_eq_true rfl)
  rw [lg_entry_eq]
  generalize (lg_sl ([.ref (gA G 2), .int a1, .int a2]) ++ List.replicate (6 - (lg_sl ([.ref (gA G 2), .int a1, .int a2])).length) Slot.unset).toArray = ls at hl ⊢
  have hl : lv_has ls 6 [(0, .ref (gA G 2)), (1, .int a1), (2, .int a2)] := hl
  obtain ⟨res, hres⟩ : ∃ r, r = MX7_placesOf a1 a2 V := ⟨_, rfl⟩
  rw [← hres]
  show W p l e r_X7_placesOf s m ([.ref (gA G 2), .int a1, .int a2] : List Value).toArray below meth c s.heap [] 0 0 (MQ below (gQR G res V) ([.ref (gA G 2), .int a1, .int a2] : List Value).toArray s 0 0 (gF G)) (F0 m 0 ls [])
  have hs : (PX7_placesOf_15 1000 a1 a2 (0 : Int32) (MX4_at 3 a1 V) (0 : Int32) V) := hs
  have hres : res = (BX7_placesOf_15 1000 a1 a2 (0 : Int32) (MX4_at 3 a1 V) (0 : Int32) V) := hres
  have b_15 : ∀ (n : Nat) (x1 : Int32) (x2 : Int32) (x3 : Int32) (x4 : Int32) (x5 : Int32) (H : Heap) (locs : List Loc) (ls : Array Slot), lv_has ls 6 [(0, .ref (gA G 2)), (1, .int x1), (2, .int x2), (3, .int x3), (4, .int x4), (5, .int x5)] → va_P (gD G) vwCl (gL G V) H → va_S (gF G) s.heap H locs → PX7_placesOf_15  n x1 x2 x3 x4 x5 V → res = BX7_placesOf_15  n x1 x2 x3 x4 x5 V → W p l e r_X7_placesOf s m ([.ref (gA G 2), .int a1, .int a2] : List Value).toArray below meth c H locs 0 0 (MQ below (gQR G res V) ([.ref (gA G 2), .int a1, .int a2] : List Value).toArray s 0 0 (gF G)) (F0 m 15 ls []) := by
    intro n
    induction n with
    | zero =>
      intro x1 x2 x3 x4 x5 H locs ls hl hP hS hs hres
      exact (show False from hs).elim
    | succ n15 ih15 =>
      have b_40 : ∀ (x1 : Int32) (x2 : Int32) (x3 : Int32) (x4 : Int32) (x5 : Int32) (H : Heap) (locs : List Loc) (ls : Array Slot), lv_has ls 6 [(0, .ref (gA G 2)), (1, .int x1), (2, .int x2), (3, .int x3), (4, .int x4), (5, .int x5)] → va_P (gD G) vwCl (gL G V) H → va_S (gF G) s.heap H locs → PX7_placesOf_40 (PX7_placesOf_15 n15) x1 x2 x3 x4 x5 V → res = BX7_placesOf_40 (BX7_placesOf_15 n15) x1 x2 x3 x4 x5 V → W p l e r_X7_placesOf s m ([.ref (gA G 2), .int a1, .int a2] : List Value).toArray below meth c H locs 0 0 (MQ below (gQR G res V) ([.ref (gA G 2), .int a1, .int a2] : List Value).toArray s 0 0 (gF G)) (F0 m 40 ls []) := by
        intro x1 x2 x3 x4 x5 H locs ls hl hP hS hs hres
        have hs : ((PX7_placesOf_15 n15) x1 x2 x3 x4 (x5 + (1 : Int32)) V) := hs
        have hres : res = ((BX7_placesOf_15 n15) x1 x2 x3 x4 (x5 + (1 : Int32)) V) := hres
        refine lv_iinc (v := (x5 + (1 : Int32))) (lv' := [(5, .int (x5 + (1 : Int32))), (0, .ref (gA G 2)), (1, .int x1), (2, .int x2), (3, .int x3), (4, .int x4)]) hx hb dX7_placesOf_40 hl (k := 5) rfl rfl (by decide) rfl (fun ls hl => ?_)
        refine lv_goto (tgt := 15) hx hb dX7_placesOf_43 (by decide) ?_
        exact ih15 x1 x2 x3 x4 (x5 + (1 : Int32)) _ _ _ (lv_sub hl [1, 2, 3, 4, 5, 0] rfl) hP hS hs hres
      intro x1 x2 x3 x4 x5 H locs ls hl hP hS hs hres
      have hs : ((¬ x4 ≤ x5 → (((MX7_letterAt 2 x1 x5 V) = x2 → (PX7_placesOf_40 (PX7_placesOf_15 n15) x1 x2 (x3 ||| ((1 : Int32) <<< (x5 &&& 31))) x4 x5 V)) ∧ (¬ (MX7_letterAt 2 x1 x5 V) = x2 → (PX7_placesOf_40 (PX7_placesOf_15 n15) x1 x2 x3 x4 x5 V))))) := hs
      have hres : res = (if x4 ≤ x5 then (x3) else (if (MX7_letterAt 2 x1 x5 V) = x2 then (BX7_placesOf_40 (BX7_placesOf_15 n15) x1 x2 (x3 ||| ((1 : Int32) <<< (x5 &&& 31))) x4 x5 V) else (BX7_placesOf_40 (BX7_placesOf_15 n15) x1 x2 x3 x4 x5 V))) := hres
      refine lv_iload hx hb dX7_placesOf_15 (lv_at hl 5 rfl) ?_
      refine lv_iload hx hb dX7_placesOf_17 (lv_at hl 4 rfl) ?_
      refine lv_icmp_ge (tgt := 46) hx hb dX7_placesOf_19 (by decide) (fun c_1 => ?_) (fun c_1 => ?_)
      · have hres := hres.trans (if_pos c_1)
        refine lv_iload_n hx hb dX7_placesOf_46 rfl (lv_at hl 3 rfl) ?_
        exact gh_iretR hx hb hr hlocks hP hS hT hres dX7_placesOf_47
      have hres := hres.trans (if_neg c_1)
      have hs := hs c_1
      refine lv_aload_n hx hb dX7_placesOf_22 rfl (lv_at hl 0 rfl) ?_
      refine lv_iload_n hx hb dX7_placesOf_23 rfl (lv_at hl 1 rfl) ?_
      refine lv_iload hx hb dX7_placesOf_24 (lv_at hl 5 rfl) ?_
      refine gh_kr (va_runV (As := [.int x1, .int x5]) (rest := []) ⟨hx, hb, hml, hown, hw⟩ (cc_X7_letterAt l G V 2 gi2 x1 x5) (cwV 2 hw gv_RX7_45 rfl rfl rfl dd_X7_letterAt ⟨Nat.le_of_ble_eq_true rfl, Nat.le_of_ble_eq_true rfl⟩) (gh_preV hT hP (Nat.le_of_ble_eq_true rfl) kd2 rfl rfl) rfl rfl hl.1 rfl (lv_room (Nat.le_of_ble_eq_true rfl)) dX7_placesOf_26 ⟨Nat.zero_le _, Nat.zero_le _⟩) hS (fun H locs hP hS => ?_)
      refine lv_iload_n hx hb dX7_placesOf_29 rfl (lv_at hl 2 rfl) ?_
      refine lv_icmp_ne (tgt := 40) hx hb dX7_placesOf_30 (by decide) (fun c_2 => ?_) (fun c_2 => ?_)
      · have hres := hres.trans (if_neg c_2)
        have hs := hs.2 c_2
        exact b_40 x1 x2 x3 x4 x5 _ _ _ (lv_sub hl [0, 1, 2, 3, 4, 5] rfl) hP hS hs hres
      have hres := hres.trans (if_pos c_2)
      have hs := hs.1 c_2
      refine lv_iload_n hx hb dX7_placesOf_33 rfl (lv_at hl 3 rfl) ?_
      refine lv_iconst (v := 1) hx hb dX7_placesOf_34 (by decide) ?_
      refine lv_iload hx hb dX7_placesOf_35 (lv_at hl 5 rfl) ?_
      refine lv_ishl hx hb dX7_placesOf_37 ?_
      refine lv_ior hx hb dX7_placesOf_38 ?_
      refine lv_istore_n (lv' := [(3, .int (x3 ||| ((1 : Int32) <<< (x5 &&& 31)))), (0, .ref (gA G 2)), (1, .int x1), (2, .int x2), (4, .int x4), (5, .int x5)]) hx hb dX7_placesOf_39 rfl hl (by decide) rfl (fun ls hl => ?_)
      exact b_40 x1 x2 (x3 ||| ((1 : Int32) <<< (x5 &&& 31))) x4 x5 _ _ _ (lv_sub hl [1, 2, 3, 0, 4, 5] rfl) hP hS hs hres
  refine lv_iconst (v := 0) hx hb dX7_placesOf_0 (by decide) ?_
  refine lv_istore_n (lv' := [(3, .int (0 : Int32)), (0, .ref (gA G 2)), (1, .int a1), (2, .int a2)]) hx hb dX7_placesOf_1 rfl hl (by decide) rfl (fun ls hl => ?_)
  refine lv_aload_n hx hb dX7_placesOf_2 rfl (lv_at hl 1 rfl) ?_
  refine gh_get (v := .ref (gA G 3)) (C := RX7) (T := TX7) (N := 5) hx hb hw inlX7 hown hT hP 2 (Nat.le_of_ble_eq_true rfl) kd2 rfl rfl 1 (by decide) (hw _ uw56) rfl dX7_placesOf_3 ?_
  refine lv_iload_n hx hb dX7_placesOf_6 rfl (lv_at hl 2 rfl) ?_
  refine gh_kr (va_runV (As := [.int a1]) (rest := []) ⟨hx, hb, hml, hown, hw⟩ (cc_X4_at l G V 3 gi3 a1) (cwV 1 hw gv_RX7_37 rfl rfl rfl dd_X4_at ⟨Nat.le_of_ble_eq_true rfl, Nat.le_of_ble_eq_true rfl⟩) (gh_preV hT hP (Nat.le_of_ble_eq_true rfl) kd3 rfl rfl) rfl rfl hl.1 rfl (lv_room (Nat.le_of_ble_eq_true rfl)) dX7_placesOf_7 ⟨Nat.zero_le _, Nat.zero_le _⟩) hS (fun H locs hP hS => ?_)
  refine lv_istore (lv' := [(4, .int (MX4_at 3 a1 V)), (3, .int (0 : Int32)), (0, .ref (gA G 2)), (1, .int a1), (2, .int a2)]) hx hb dX7_placesOf_10 hl (by decide) rfl (fun ls hl => ?_)
  refine lv_iconst (v := 0) hx hb dX7_placesOf_12 (by decide) ?_
  refine lv_istore (lv' := [(5, .int (0 : Int32)), (4, .int (MX4_at 3 a1 V)), (3, .int (0 : Int32)), (0, .ref (gA G 2)), (1, .int a1), (2, .int a2)]) hx hb dX7_placesOf_13 hl (by decide) rfl (fun ls hl => ?_)
  exact b_15 1000 a1 a2 (0 : Int32) (MX4_at 3 a1 V) (0 : Int32) _ _ _ (lv_sub hl [3, 4, 5, 2, 1, 0] rfl) hP hS hs hres
def BX7_areSame_26   : Nat → Int32 → Int32 → Int32 → Int32 → gV → Int32
  | 0, _, _, _, _, _ => 0
  | n + 1, x1, x2, x3, x4, V => if x3 ≤ x4 then ((1 : Int32)) else (if (MX7_letterAt 202 x1 x4 V) = (MX7_letterAt 202 x2 x4 V) then ((BX7_areSame_26 n) x1 x2 x3 (x4 + (1 : Int32)) V) else ((0 : Int32)))
def PX7_areSame_26   : Nat → Int32 → Int32 → Int32 → Int32 → gV → Prop
  | 0, _, _, _, _, _ => False
  | n + 1, x1, x2, x3, x4, V => ((¬ x3 ≤ x4 → (((MX7_letterAt 202 x1 x4 V) = (MX7_letterAt 202 x2 x4 V) → ((PX7_areSame_26 n) x1 x2 x3 (x4 + (1 : Int32)) V)))))
def MX7_areSame  (a1 : Int32) (a2 : Int32) (V : gV) : Int32 := if (MX4_at 203 a2 V) = (MX4_at 203 a1 V) then (BX7_areSame_26 1000 a1 a2 (MX4_at 203 a1 V) (0 : Int32) V) else ((0 : Int32))
def PX7_areSame  (a1 : Int32) (a2 : Int32) (V : gV) : Prop := (((MX4_at 203 a2 V) = (MX4_at 203 a1 V) → (PX7_areSame_26 1000 a1 a2 (MX4_at 203 a1 V) (0 : Int32) V)))
abbrev wc_X7_areSame : List Cond := Cond.code yX7_areSame cX7_areSame 5 (some .boolean) :: wsL_law
abbrev r_X7_areSame : Room := { frames := 2, cells := 0, slots := 0, locals := 43 }
theorem dd_X7_areSame : yX7_areSame.cls = RX7 ∧ yX7_areSame.cls ≠ "java/lang/invoke/MethodHandle" ∧ yX7_areSame.cls ≠ "java/lang/invoke/VarHandle" ∧ (parseMethodDescriptor yX7_areSame.desc).map (fun d => d.parameters.length) = some 2 := by decide +kernel
set_option maxHeartbeats 8000000 in
set_option maxRecDepth 100000 in
theorem cc_X7_areSame (l : Launch) (G : gG) (V : gV)   (a1 : Int32) (a2 : Int32) (hs : PX7_areSame a1 a2 V) : Met l yX7_areSame wc_X7_areSame r_X7_areSame (va_Pc [.ref (gA G 202), .int a1, .int a2] (gW G V)) (gQR G (MX7_areSame a1 a2 V) V) 0 0 (gF G) := by
  refine Met.ofW (cc := cX7_areSame) (maxL := 5) (ret := (some .boolean)) (by decide) rfl ?_
  intro p e s m args below meth c s₁ B hml hv
  obtain ⟨rfl, hP, hT⟩ := hv
  have hx := B.exec
  have hb := B.bytes
  have hr := B.returns
  have hw := gh_hw (atoms_spec (ws := wc_X7_areSame) B.pre)
  have hown : s.vm.findClass RX7 = some m.cls := findClass_of_methodNamed B.named
  have hlocks := B.notSynchronized
  have hS : va_S (gF G) s.heap s.heap [] := va_S.rf
  have hl := lv_entry ([.ref (gA G 202), .int a1, .int a2]) (n := 5) (Nat.le_of_ble_eq_true rfl)
  rw [lg_entry_eq]
  generalize (lg_sl ([.ref (gA G 202), .int a1, .int a2]) ++ List.replicate (5 - (lg_sl ([.ref (gA G 202), .int a1, .int a2])).length) Slot.unset).toArray = ls at hl ⊢
  have hl : lv_has ls 5 [(0, .ref (gA G 202)), (1, .int a1), (2, .int a2)] := hl
  obtain ⟨res, hres⟩ : ∃ r, r = MX7_areSame a1 a2 V := ⟨_, rfl⟩
  rw [← hres]
  show W p l e r_X7_areSame s m ([.ref (gA G 202), .int a1, .int a2] : List Value).toArray below meth c s.heap [] 0 0 (MQ below (gQR G res V) ([.ref (gA G 202), .int a1, .int a2] : List Value).toArray s 0 0 (gF G)) (F0 m 0 ls [])
  have hs : (((MX4_at 203 a2 V) = (MX4_at 203 a1 V) → (PX7_areSame_26 1000 a1 a2 (MX4_at 203 a1 V) (0 : Int32) V))) := hs
  have hres : res = (if (MX4_at 203 a2 V) = (MX4_at 203 a1 V) then (BX7_areSame_26 1000 a1 a2 (MX4_at 203 a1 V) (0 : Int32) V) else ((0 : Int32))) := hres
  have b_26 : ∀ (n : Nat) (x1 : Int32) (x2 : Int32) (x3 : Int32) (x4 : Int32) (H : Heap) (locs : List Loc) (ls : Array Slot), lv_has ls 5 [(0, .ref (gA G 202)), (1, .int x1), (2, .int x2), (3, .int x3), (4, .int x4)] → va_P (gD G) vwCl (gL G V) H → va_S (gF G) s.heap H locs → PX7_areSame_26  n x1 x2 x3 x4 V → res = BX7_areSame_26  n x1 x2 x3 x4 V → W p l e r_X7_areSame s m ([.ref (gA G 202), .int a1, .int a2] : List Value).toArray below meth c H locs 0 0 (MQ below (gQR G res V) ([.ref (gA G 202), .int a1, .int a2] : List Value).toArray s 0 0 (gF G)) (F0 m 26 ls []) := by
    intro n
    induction n with
    | zero =>
      intro x1 x2 x3 x4 H locs ls hl hP hS hs hres
      exact (show False from hs).elim
    | succ n26 ih26 =>
      intro x1 x2 x3 x4 H locs ls hl hP hS hs hres
      have hs : ((¬ x3 ≤ x4 → (((MX7_letterAt 202 x1 x4 V) = (MX7_letterAt 202 x2 x4 V) → ((PX7_areSame_26 n26) x1 x2 x3 (x4 + (1 : Int32)) V))))) := hs
      have hres : res = (if x3 ≤ x4 then ((1 : Int32)) else (if (MX7_letterAt 202 x1 x4 V) = (MX7_letterAt 202 x2 x4 V) then ((BX7_areSame_26 n26) x1 x2 x3 (x4 + (1 : Int32)) V) else ((0 : Int32)))) := hres
      refine lv_iload hx hb dX7_areSame_26 (lv_at hl 4 rfl) ?_
      refine lv_iload_n hx hb dX7_areSame_28 rfl (lv_at hl 3 rfl) ?_
      refine lv_icmp_ge (tgt := 57) hx hb dX7_areSame_29 (by decide) (fun c_2 => ?_) (fun c_2 => ?_)
      · have hres := hres.trans (if_pos c_2)
        refine lv_iconst (v := 1) hx hb dX7_areSame_57 (by decide) ?_
        exact gh_zretR hx hb hr rfl hlocks hP hS hT hres dX7_areSame_58
      have hres := hres.trans (if_neg c_2)
      have hs := hs c_2
      refine lv_aload_n hx hb dX7_areSame_32 rfl (lv_at hl 0 rfl) ?_
      refine lv_iload_n hx hb dX7_areSame_33 rfl (lv_at hl 1 rfl) ?_
      refine lv_iload hx hb dX7_areSame_34 (lv_at hl 4 rfl) ?_
      refine gh_kr (va_runV (As := [.int x1, .int x4]) (rest := []) ⟨hx, hb, hml, hown, hw⟩ (cc_X7_letterAt l G V 202 gi202 x1 x4) (cwV 2 hw gv_RX7_45 rfl rfl rfl dd_X7_letterAt ⟨Nat.le_of_ble_eq_true rfl, Nat.le_of_ble_eq_true rfl⟩) (gh_preV hT hP (Nat.le_of_ble_eq_true rfl) kd202 rfl rfl) rfl rfl hl.1 rfl (lv_room (Nat.le_of_ble_eq_true rfl)) dX7_areSame_36 ⟨Nat.zero_le _, Nat.zero_le _⟩) hS (fun H locs hP hS => ?_)
      refine lv_aload_n hx hb dX7_areSame_39 rfl (lv_at hl 0 rfl) ?_
      refine lv_iload_n hx hb dX7_areSame_40 rfl (lv_at hl 2 rfl) ?_
      refine lv_iload hx hb dX7_areSame_41 (lv_at hl 4 rfl) ?_
      refine gh_kr (va_runV (As := [.int x2, .int x4]) (rest := [.int (MX7_letterAt 202 x1 x4 V)]) ⟨hx, hb, hml, hown, hw⟩ (cc_X7_letterAt l G V 202 gi202 x2 x4) (cwV 2 hw gv_RX7_45 rfl rfl rfl dd_X7_letterAt ⟨Nat.le_of_ble_eq_true rfl, Nat.le_of_ble_eq_true rfl⟩) (gh_preV hT hP (Nat.le_of_ble_eq_true rfl) kd202 rfl rfl) rfl rfl hl.1 rfl (lv_room (Nat.le_of_ble_eq_true rfl)) dX7_areSame_43 ⟨Nat.zero_le _, Nat.zero_le _⟩) hS (fun H locs hP hS => ?_)
      refine lv_icmp_eq (tgt := 51) hx hb dX7_areSame_46 (by decide) (fun c_3 => ?_) (fun c_3 => ?_)
      · have hres := hres.trans (if_pos c_3)
        have hs := hs c_3
        refine lv_iinc (v := (x4 + (1 : Int32))) (lv' := [(4, .int (x4 + (1 : Int32))), (0, .ref (gA G 202)), (1, .int x1), (2, .int x2), (3, .int x3)]) hx hb dX7_areSame_51 hl (k := 4) rfl rfl (by decide) rfl (fun ls hl => ?_)
        refine lv_goto (tgt := 26) hx hb dX7_areSame_54 (by decide) ?_
        exact ih26 x1 x2 x3 (x4 + (1 : Int32)) _ _ _ (lv_sub hl [1, 2, 3, 4, 0] rfl) hP hS hs hres
      have hres := hres.trans (if_neg c_3)
      refine lv_iconst (v := 0) hx hb dX7_areSame_49 (by decide) ?_
      exact gh_zretR hx hb hr rfl hlocks hP hS hT hres dX7_areSame_50
  refine lv_aload_n hx hb dX7_areSame_0 rfl (lv_at hl 0 rfl) ?_
  refine gh_get (v := .ref (gA G 203)) (C := RX7) (T := TX7) (N := 5) hx hb hw inlX7 hown hT hP 202 (Nat.le_of_ble_eq_true rfl) kd202 rfl rfl 1 (by decide) (hw _ uw56) rfl dX7_areSame_1 ?_
  refine lv_iload_n hx hb dX7_areSame_4 rfl (lv_at hl 1 rfl) ?_
  refine gh_kr (va_runV (As := [.int a1]) (rest := []) ⟨hx, hb, hml, hown, hw⟩ (cc_X4_at l G V 203 gi203 a1) (cwV 1 hw gv_RX7_37 rfl rfl rfl dd_X4_at ⟨Nat.le_of_ble_eq_true rfl, Nat.le_of_ble_eq_true rfl⟩) (gh_preV hT hP (Nat.le_of_ble_eq_true rfl) kd203 rfl rfl) rfl rfl hl.1 rfl (lv_room (Nat.le_of_ble_eq_true rfl)) dX7_areSame_5 ⟨Nat.zero_le _, Nat.zero_le _⟩) hS (fun H locs hP hS => ?_)
  refine lv_istore_n (lv' := [(3, .int (MX4_at 203 a1 V)), (0, .ref (gA G 202)), (1, .int a1), (2, .int a2)]) hx hb dX7_areSame_8 rfl hl (by decide) rfl (fun ls hl => ?_)
  refine lv_aload_n hx hb dX7_areSame_9 rfl (lv_at hl 1 rfl) ?_
  refine gh_get (v := .ref (gA G 203)) (C := RX7) (T := TX7) (N := 5) hx hb hw inlX7 hown hT hP 202 (Nat.le_of_ble_eq_true rfl) kd202 rfl rfl 1 (by decide) (hw _ uw56) rfl dX7_areSame_10 ?_
  refine lv_iload_n hx hb dX7_areSame_13 rfl (lv_at hl 3 rfl) ?_
  refine gh_kr (va_runV (As := [.int a2]) (rest := []) ⟨hx, hb, hml, hown, hw⟩ (cc_X4_at l G V 203 gi203 a2) (cwV 1 hw gv_RX7_37 rfl rfl rfl dd_X4_at ⟨Nat.le_of_ble_eq_true rfl, Nat.le_of_ble_eq_true rfl⟩) (gh_preV hT hP (Nat.le_of_ble_eq_true rfl) kd203 rfl rfl) rfl rfl hl.1 rfl (lv_room (Nat.le_of_ble_eq_true rfl)) dX7_areSame_14 ⟨Nat.zero_le _, Nat.zero_le _⟩) hS (fun H locs hP hS => ?_)
  refine lv_iload_n hx hb dX7_areSame_17 rfl (lv_at hl 0 rfl) ?_
  refine lv_icmp_eq (tgt := 23) hx hb dX7_areSame_18 (by decide) (fun c_1 => ?_) (fun c_1 => ?_)
  · have hres := hres.trans (if_pos c_1)
    have hs := hs c_1
    refine lv_iconst (v := 0) hx hb dX7_areSame_23 (by decide) ?_
    refine lv_istore (lv' := [(4, .int (0 : Int32)), (3, .int (MX4_at 203 a1 V)), (0, .ref (gA G 202)), (1, .int a1), (2, .int a2)]) hx hb dX7_areSame_24 hl (by decide) rfl (fun ls hl => ?_)
    exact b_26 1000 a1 a2 (MX4_at 203 a1 V) (0 : Int32) _ _ _ (lv_sub hl [2, 3, 4, 1, 0] rfl) hP hS hs hres
  have hres := hres.trans (if_neg c_1)
  refine lv_iconst (v := 0) hx hb dX7_areSame_21 (by decide) ?_
  exact gh_zretR hx hb hr rfl hlocks hP hS hT hres dX7_areSame_22
theorem gv_RX7_41 : GoodIn wsL_law (wsV RX7 41 RX4 yX4_put wc_X4_put) := gh_gV uw794 uw194 uw195 uw55 uw196
def MX7_putLetter  (a1 : Int32) (a2 : Int32) (a3 : Int32) (V : gV) : gV := (MX4_put 209 ((a1 * (8 : Int32)) + a2) a3 V)
abbrev wc_X7_putLetter : List Cond := Cond.code yX7_putLetter cX7_putLetter 4 none :: wsL_law
abbrev r_X7_putLetter : Room := { frames := 1, cells := 0, slots := 0, locals := 22 }
theorem dd_X7_putLetter : yX7_putLetter.cls = RX7 ∧ yX7_putLetter.cls ≠ "java/lang/invoke/MethodHandle" ∧ yX7_putLetter.cls ≠ "java/lang/invoke/VarHandle" ∧ (parseMethodDescriptor yX7_putLetter.desc).map (fun d => d.parameters.length) = some 3 := by decide +kernel
set_option maxHeartbeats 8000000 in
set_option maxRecDepth 100000 in
theorem cc_X7_putLetter (l : Launch) (G : gG) (V : gV)   (a1 : Int32) (a2 : Int32) (a3 : Int32)  : Met l yX7_putLetter wc_X7_putLetter r_X7_putLetter (va_Pc [.ref (gA G 202), .int a1, .int a2, .int a3] (gW G V)) (gQV G (MX7_putLetter a1 a2 a3 V)) 0 0 (gF G) := by
  refine Met.ofW (cc := cX7_putLetter) (maxL := 4) (ret := none) (by decide) rfl ?_
  intro p e s m args below meth c s₁ B hml hv
  obtain ⟨rfl, hP, hT⟩ := hv
  have hx := B.exec
  have hb := B.bytes
  have hr := B.returns
  have hw := gh_hw (atoms_spec (ws := wc_X7_putLetter) B.pre)
  have hown : s.vm.findClass RX7 = some m.cls := findClass_of_methodNamed B.named
  have hlocks := B.notSynchronized
  have hS : va_S (gF G) s.heap s.heap [] := va_S.rf
  have hl := lv_entry ([.ref (gA G 202), .int a1, .int a2, .int a3]) (n := 4) (Nat.le_of_ble_eq_true rfl)
  rw [lg_entry_eq]
  generalize (lg_sl ([.ref (gA G 202), .int a1, .int a2, .int a3]) ++ List.replicate (4 - (lg_sl ([.ref (gA G 202), .int a1, .int a2, .int a3])).length) Slot.unset).toArray = ls at hl ⊢
  have hl : lv_has ls 4 [(0, .ref (gA G 202)), (1, .int a1), (2, .int a2), (3, .int a3)] := hl
  obtain ⟨res, hres⟩ : ∃ r, r = MX7_putLetter a1 a2 a3 V := ⟨_, rfl⟩
  rw [← hres]
  show W p l e r_X7_putLetter s m ([.ref (gA G 202), .int a1, .int a2, .int a3] : List Value).toArray below meth c s.heap [] 0 0 (MQ below (gQV G res) ([.ref (gA G 202), .int a1, .int a2, .int a3] : List Value).toArray s 0 0 (gF G)) (F0 m 0 ls [])
  have hres : res = ((MX4_put 209 ((a1 * (8 : Int32)) + a2) a3 V)) := hres
  refine lv_aload_n hx hb dX7_putLetter_0 rfl (lv_at hl 0 rfl) ?_
  refine gh_get (v := .ref (gA G 209)) (C := RX7) (T := TX7) (N := 5) hx hb hw inlX7 hown hT hP 202 (Nat.le_of_ble_eq_true rfl) kd202 rfl rfl 4 (by decide) (hw _ uw59) rfl dX7_putLetter_1 ?_
  refine lv_iload_n hx hb dX7_putLetter_4 rfl (lv_at hl 1 rfl) ?_
  refine lv_bipush (v := 8) hx hb dX7_putLetter_5 (by decide) ?_
  refine lv_imul hx hb dX7_putLetter_7 ?_
  refine lv_iload_n hx hb dX7_putLetter_8 rfl (lv_at hl 2 rfl) ?_
  refine lv_iadd hx hb dX7_putLetter_9 ?_
  refine lv_iload_n hx hb dX7_putLetter_10 rfl (lv_at hl 3 rfl) ?_
  refine gh_kv (va_runV (As := [.int ((a1 * (8 : Int32)) + a2), .int a3]) (rest := []) ⟨hx, hb, hml, hown, hw⟩ (cc_X4_put l G V 209 gi209 ((a1 * (8 : Int32)) + a2) a3) (cwV 2 hw gv_RX7_41 rfl rfl rfl dd_X4_put ⟨Nat.le_of_ble_eq_true rfl, Nat.le_of_ble_eq_true rfl⟩) (gh_preV hT hP (Nat.le_of_ble_eq_true rfl) kd209 rfl rfl) rfl rfl hl.1 rfl (lv_room (Nat.le_of_ble_eq_true rfl)) dX7_putLetter_11 ⟨Nat.zero_le _, Nat.zero_le _⟩) hS (fun H locs hP hS => ?_)
  exact gh_vret hx hb hr hlocks hP hS hT hres dX7_putLetter_14
def BX7_weightOf_31  (K4 : Int32 → Int32 → Int32 → gV → Int32) (x1 : Int32) (x2 : Int32) (x3 : Int32) (V : gV) : Int32 := K4 x1 x2 (x3 + (1 : Int32)) V
def PX7_weightOf_31  (KP4 : Int32 → Int32 → Int32 → gV → Prop) (x1 : Int32) (x2 : Int32) (x3 : Int32) (V : gV) : Prop := (KP4 x1 x2 (x3 + (1 : Int32)) V)
def BX7_weightOf_4   : Nat → Int32 → Int32 → Int32 → gV → Int32
  | 0, _, _, _, _ => 0
  | n + 1, x1, x2, x3, V => if (V 2 0) ≤ x3 then (x2) else (if (MX8_holds x1 x3 V) = 0 then (BX7_weightOf_31 (BX7_weightOf_4 n) x1 x2 x3 V) else (BX7_weightOf_31 (BX7_weightOf_4 n) x1 (x2 + (MX4_at 5 x3 V)) x3 V))
def PX7_weightOf_4   : Nat → Int32 → Int32 → Int32 → gV → Prop
  | 0, _, _, _, _ => False
  | n + 1, x1, x2, x3, V => ((¬ (V 2 0) ≤ x3 → (((MX8_holds x1 x3 V) = 0 → (PX7_weightOf_31 (PX7_weightOf_4 n) x1 x2 x3 V)) ∧ (¬ (MX8_holds x1 x3 V) = 0 → (PX7_weightOf_31 (PX7_weightOf_4 n) x1 (x2 + (MX4_at 5 x3 V)) x3 V)))))
def MX7_weightOf  (a1 : Int32) (V : gV) : Int32 := BX7_weightOf_4 1000 a1 (0 : Int32) (0 : Int32) V
def PX7_weightOf  (a1 : Int32) (V : gV) : Prop := (PX7_weightOf_4 1000 a1 (0 : Int32) (0 : Int32) V)
abbrev wc_X7_weightOf : List Cond := Cond.code yX7_weightOf cX7_weightOf 4 (some .int) :: wsL_law
abbrev r_X7_weightOf : Room := { frames := 1, cells := 0, slots := 0, locals := 21 }
theorem dd_X7_weightOf : yX7_weightOf.cls = RX7 ∧ yX7_weightOf.cls ≠ "java/lang/invoke/MethodHandle" ∧ yX7_weightOf.cls ≠ "java/lang/invoke/VarHandle" ∧ (parseMethodDescriptor yX7_weightOf.desc).map (fun d => d.parameters.length) = some 1 := by decide +kernel
set_option maxHeartbeats 8000000 in
set_option maxRecDepth 100000 in
theorem cc_X7_weightOf (l : Launch) (G : gG) (V : gV)   (a1 : Int32) (hs : PX7_weightOf a1 V) : Met l yX7_weightOf wc_X7_weightOf r_X7_weightOf (va_Pc [.ref (gA G 2), .int a1] (gW G V)) (gQR G (MX7_weightOf a1 V) V) 0 0 (gF G) := by
  refine Met.ofW (cc := cX7_weightOf) (maxL := 4) (ret := (some .int)) (by decide) rfl ?_
  intro p e s m args below meth c s₁ B hml hv
  obtain ⟨rfl, hP, hT⟩ := hv
  have hx := B.exec
  have hb := B.bytes
  have hr := B.returns
  have hw := gh_hw (atoms_spec (ws := wc_X7_weightOf) B.pre)
  have hown : s.vm.findClass RX7 = some m.cls := findClass_of_methodNamed B.named
  have hlocks := B.notSynchronized
  have hS : va_S (gF G) s.heap s.heap [] := va_S.rf
  have hl := lv_entry ([.ref (gA G 2), .int a1]) (n := 4) (Nat.le_of_ble_eq_true rfl)
  rw [lg_entry_eq]
  generalize (lg_sl ([.ref (gA G 2), .int a1]) ++ List.replicate (4 - (lg_sl ([.ref (gA G 2), .int a1])).length) Slot.unset).toArray = ls at hl ⊢
  have hl : lv_has ls 4 [(0, .ref (gA G 2)), (1, .int a1)] := hl
  obtain ⟨res, hres⟩ : ∃ r, r = MX7_weightOf a1 V := ⟨_, rfl⟩
  rw [← hres]
  show W p l e r_X7_weightOf s m ([.ref (gA G 2), .int a1] : List Value).toArray below meth c s.heap [] 0 0 (MQ below (gQR G res V) ([.ref (gA G 2), .int a1] : List Value).toArray s 0 0 (gF G)) (F0 m 0 ls [])
  have hs : (PX7_weightOf_4 1000 a1 (0 : Int32) (0 : Int32) V) := hs
  have hres : res = (BX7_weightOf_4 1000 a1 (0 : Int32) (0 : Int32) V) := hres
  have b_4 : ∀ (n : Nat) (x1 : Int32) (x2 : Int32) (x3 : Int32) (H : Heap) (locs : List Loc) (ls : Array Slot), lv_has ls 4 [(0, .ref (gA G 2)), (1, .int x1), (2, .int x2), (3, .int x3)] → va_P (gD G) vwCl (gL G V) H → va_S (gF G) s.heap H locs → PX7_weightOf_4  n x1 x2 x3 V → res = BX7_weightOf_4  n x1 x2 x3 V → W p l e r_X7_weightOf s m ([.ref (gA G 2), .int a1] : List Value).toArray below meth c H locs 0 0 (MQ below (gQR G res V) ([.ref (gA G 2), .int a1] : List Value).toArray s 0 0 (gF G)) (F0 m 4 ls []) := by
    intro n
    induction n with
    | zero =>
      intro x1 x2 x3 H locs ls hl hP hS hs hres
      exact (show False from hs).elim
    | succ n4 ih4 =>
      have b_31 : ∀ (x1 : Int32) (x2 : Int32) (x3 : Int32) (H : Heap) (locs : List Loc) (ls : Array Slot), lv_has ls 4 [(0, .ref (gA G 2)), (1, .int x1), (2, .int x2), (3, .int x3)] → va_P (gD G) vwCl (gL G V) H → va_S (gF G) s.heap H locs → PX7_weightOf_31 (PX7_weightOf_4 n4) x1 x2 x3 V → res = BX7_weightOf_31 (BX7_weightOf_4 n4) x1 x2 x3 V → W p l e r_X7_weightOf s m ([.ref (gA G 2), .int a1] : List Value).toArray below meth c H locs 0 0 (MQ below (gQR G res V) ([.ref (gA G 2), .int a1] : List Value).toArray s 0 0 (gF G)) (F0 m 31 ls []) := by
        intro x1 x2 x3 H locs ls hl hP hS hs hres
        have hs : ((PX7_weightOf_4 n4) x1 x2 (x3 + (1 : Int32)) V) := hs
        have hres : res = ((BX7_weightOf_4 n4) x1 x2 (x3 + (1 : Int32)) V) := hres
        refine lv_iinc (v := (x3 + (1 : Int32))) (lv' := [(3, .int (x3 + (1 : Int32))), (0, .ref (gA G 2)), (1, .int x1), (2, .int x2)]) hx hb dX7_weightOf_31 hl (k := 3) rfl rfl (by decide) rfl (fun ls hl => ?_)
        refine lv_goto (tgt := 4) hx hb dX7_weightOf_34 (by decide) ?_
        exact ih4 x1 x2 (x3 + (1 : Int32)) _ _ _ (lv_sub hl [1, 2, 3, 0] rfl) hP hS hs hres
      intro x1 x2 x3 H locs ls hl hP hS hs hres
      have hs : ((¬ (V 2 0) ≤ x3 → (((MX8_holds x1 x3 V) = 0 → (PX7_weightOf_31 (PX7_weightOf_4 n4) x1 x2 x3 V)) ∧ (¬ (MX8_holds x1 x3 V) = 0 → (PX7_weightOf_31 (PX7_weightOf_4 n4) x1 (x2 + (MX4_at 5 x3 V)) x3 V))))) := hs
      have hres : res = (if (V 2 0) ≤ x3 then (x2) else (if (MX8_holds x1 x3 V) = 0 then (BX7_weightOf_31 (BX7_weightOf_4 n4) x1 x2 x3 V) else (BX7_weightOf_31 (BX7_weightOf_4 n4) x1 (x2 + (MX4_at 5 x3 V)) x3 V))) := hres
      refine lv_iload_n hx hb dX7_weightOf_4 rfl (lv_at hl 3 rfl) ?_
      refine lv_aload_n hx hb dX7_weightOf_5 rfl (lv_at hl 0 rfl) ?_
      refine gh_get (v := .int (V 2 0)) (C := RX7) (T := TX7) (N := 5) hx hb hw inlX7 hown hT hP 2 (Nat.le_of_ble_eq_true rfl) kd2 rfl rfl 0 (by decide) (hw _ uw134) rfl dX7_weightOf_6 ?_
      refine lv_icmp_ge (tgt := 37) hx hb dX7_weightOf_9 (by decide) (fun c_1 => ?_) (fun c_1 => ?_)
      · have hres := hres.trans (if_pos c_1)
        refine lv_iload_n hx hb dX7_weightOf_37 rfl (lv_at hl 2 rfl) ?_
        exact gh_iretR hx hb hr hlocks hP hS hT hres dX7_weightOf_38
      have hres := hres.trans (if_neg c_1)
      have hs := hs c_1
      refine lv_iload_n hx hb dX7_weightOf_12 rfl (lv_at hl 1 rfl) ?_
      refine lv_iload_n hx hb dX7_weightOf_13 rfl (lv_at hl 3 rfl) ?_
      refine gh_kr (va_runSN (As := [.int x1, .int x3]) (rest := []) ⟨hx, hb, hml, hown, hw⟩ (cc_X8_holds l G V x1 x3) ⟨va_cnB 2 hw (gh_g1 uw336) rfl rfl rfl hT.2.2.2.1 (hw _ uw2) dd_X8_holds.2 ⟨Nat.le_of_ble_eq_true rfl, Nat.le_of_ble_eq_true rfl⟩, hw _ uw335, trivial⟩ (gh_pre hT hP) rfl rfl hl.1 rfl (lv_room (Nat.le_of_ble_eq_true rfl)) dX7_weightOf_14 ⟨Nat.zero_le _, Nat.zero_le _⟩) hS (fun H locs hP hS => ?_)
      refine lv_if_eq (tgt := 31) hx hb dX7_weightOf_17 (by decide) (fun c_2 => ?_) (fun c_2 => ?_)
      · have hres := hres.trans (if_pos c_2)
        have hs := hs.1 c_2
        exact b_31 x1 x2 x3 _ _ _ (lv_sub hl [0, 1, 2, 3] rfl) hP hS hs hres
      have hres := hres.trans (if_neg c_2)
      have hs := hs.2 c_2
      refine lv_iload_n hx hb dX7_weightOf_20 rfl (lv_at hl 2 rfl) ?_
      refine lv_aload_n hx hb dX7_weightOf_21 rfl (lv_at hl 0 rfl) ?_
      refine gh_get (v := .ref (gA G 5)) (C := RX7) (T := TX7) (N := 5) hx hb hw inlX7 hown hT hP 2 (Nat.le_of_ble_eq_true rfl) kd2 rfl rfl 2 (by decide) (hw _ uw57) rfl dX7_weightOf_22 ?_
      refine lv_iload_n hx hb dX7_weightOf_25 rfl (lv_at hl 3 rfl) ?_
      refine gh_kr (va_runV (As := [.int x3]) (rest := [.int x2]) ⟨hx, hb, hml, hown, hw⟩ (cc_X4_at l G V 5 gi5 x3) (cwV 1 hw gv_RX7_37 rfl rfl rfl dd_X4_at ⟨Nat.le_of_ble_eq_true rfl, Nat.le_of_ble_eq_true rfl⟩) (gh_preV hT hP (Nat.le_of_ble_eq_true rfl) kd5 rfl rfl) rfl rfl hl.1 rfl (lv_room (Nat.le_of_ble_eq_true rfl)) dX7_weightOf_26 ⟨Nat.zero_le _, Nat.zero_le _⟩) hS (fun H locs hP hS => ?_)
      refine lv_iadd hx hb dX7_weightOf_29 ?_
      refine lv_istore_n (lv' := [(2, .int (x2 + (MX4_at 5 x3 V))), (0, .ref (gA G 2)), (1, .int x1), (3, .int x3)]) hx hb dX7_weightOf_30 rfl hl (by decide) rfl (fun ls hl => ?_)
      exact b_31 x1 (x2 + (MX4_at 5 x3 V)) x3 _ _ _ (lv_sub hl [1, 2, 0, 3] rfl) hP hS hs hres
  refine lv_iconst (v := 0) hx hb dX7_weightOf_0 (by decide) ?_
  refine lv_istore_n (lv' := [(2, .int (0 : Int32)), (0, .ref (gA G 2)), (1, .int a1)]) hx hb dX7_weightOf_1 rfl hl (by decide) rfl (fun ls hl => ?_)
  refine lv_iconst (v := 0) hx hb dX7_weightOf_2 (by decide) ?_
  refine lv_istore_n (lv' := [(3, .int (0 : Int32)), (2, .int (0 : Int32)), (0, .ref (gA G 2)), (1, .int a1)]) hx hb dX7_weightOf_3 rfl hl (by decide) rfl (fun ls hl => ?_)
  exact b_4 1000 a1 (0 : Int32) (0 : Int32) _ _ _ (lv_sub hl [2, 3, 1, 0] rfl) hP hS hs hres
theorem gv_RX7_53 : GoodIn wsL_law (wsV RX7 53 RX7 yX7_weightOf wc_X7_weightOf) := gh_gV uw331 uw332 uw333 uw31 uw334
def MX7_weightSum   (V : gV) : Int32 := (MX7_weightOf (-1 : Int32) V)
def PX7_weightSum   (V : gV) : Prop := (PX7_weightOf (-1 : Int32) V)
abbrev wc_X7_weightSum : List Cond := Cond.code yX7_weightSum cX7_weightSum 1 (some .int) :: wsL_law
abbrev r_X7_weightSum : Room := { frames := 2, cells := 0, slots := 0, locals := 44 }
theorem dd_X7_weightSum : yX7_weightSum.cls = RX7 ∧ yX7_weightSum.cls ≠ "java/lang/invoke/MethodHandle" ∧ yX7_weightSum.cls ≠ "java/lang/invoke/VarHandle" ∧ (parseMethodDescriptor yX7_weightSum.desc).map (fun d => d.parameters.length) = some 0 := by decide +kernel
set_option maxHeartbeats 8000000 in
set_option maxRecDepth 100000 in
theorem cc_X7_weightSum (l : Launch) (G : gG) (V : gV)    (hs : PX7_weightSum V) : Met l yX7_weightSum wc_X7_weightSum r_X7_weightSum (va_Pc [.ref (gA G 2)] (gW G V)) (gQR G (MX7_weightSum V) V) 0 0 (gF G) := by
  refine Met.ofW (cc := cX7_weightSum) (maxL := 1) (ret := (some .int)) (by decide) rfl ?_
  intro p e s m args below meth c s₁ B hml hv
  obtain ⟨rfl, hP, hT⟩ := hv
  have hx := B.exec
  have hb := B.bytes
  have hr := B.returns
  have hw := gh_hw (atoms_spec (ws := wc_X7_weightSum) B.pre)
  have hown : s.vm.findClass RX7 = some m.cls := findClass_of_methodNamed B.named
  have hlocks := B.notSynchronized
  have hS : va_S (gF G) s.heap s.heap [] := va_S.rf
  have hl := lv_entry ([.ref (gA G 2)]) (n := 1) (Nat.le_of_ble_eq_true rfl)
  rw [lg_entry_eq]
  generalize (lg_sl ([.ref (gA G 2)]) ++ List.replicate (1 - (lg_sl ([.ref (gA G 2)])).length) Slot.unset).toArray = ls at hl ⊢
  have hl : lv_has ls 1 [(0, .ref (gA G 2))] := hl
  obtain ⟨res, hres⟩ : ∃ r, r = MX7_weightSum V := ⟨_, rfl⟩
  rw [← hres]
  show W p l e r_X7_weightSum s m ([.ref (gA G 2)] : List Value).toArray below meth c s.heap [] 0 0 (MQ below (gQR G res V) ([.ref (gA G 2)] : List Value).toArray s 0 0 (gF G)) (F0 m 0 ls [])
  have hs : (PX7_weightOf (-1 : Int32) V) := hs
  have hres : res = ((MX7_weightOf (-1 : Int32) V)) := hres
  refine lv_aload_n hx hb dX7_weightSum_0 rfl (lv_at hl 0 rfl) ?_
  refine lv_iconst (v := -1) hx hb dX7_weightSum_1 (by decide) ?_
  have ho_1 := hs
  refine gh_kr (va_runV (As := [.int (-1 : Int32)]) (rest := []) ⟨hx, hb, hml, hown, hw⟩ (cc_X7_weightOf l G V (-1 : Int32) ho_1) (cwV 1 hw gv_RX7_53 rfl rfl rfl dd_X7_weightOf ⟨Nat.le_of_ble_eq_true rfl, Nat.le_of_ble_eq_true rfl⟩) (gh_preV hT hP (Nat.le_of_ble_eq_true rfl) kd2 rfl rfl) rfl rfl hl.1 rfl (lv_room (Nat.le_of_ble_eq_true rfl)) dX7_weightSum_2 ⟨Nat.zero_le _, Nat.zero_le _⟩) hS (fun H locs hP hS => ?_)
  exact gh_iretR hx hb hr hlocks hP hS hT hres dX7_weightSum_5
theorem gv_RX7_56 : GoodIn wsL_law (wsV RX7 56 RX7 yX7_weightSum wc_X7_weightSum) := gh_gV uw327 uw328 uw329 uw31 uw330
def BX7_drawnBy_26   : Nat → Int32 → Int32 → Int32 → gV → Int32
  | 0, _, _, _, _ => 0
  | n + 1, x3, x4, x5, V => if (V 2 0) ≤ x5 then ((0 : Int32)) else (if (x4 + (MX4_at 5 x5 V)) ≤ x3 then ((BX7_drawnBy_26 n) x3 (x4 + (MX4_at 5 x5 V)) (x5 + (1 : Int32)) V) else (x5))
def PX7_drawnBy_26   : Nat → Int32 → Int32 → Int32 → gV → Prop
  | 0, _, _, _, _ => False
  | n + 1, x3, x4, x5, V => ((¬ (V 2 0) ≤ x5 → (((x4 + (MX4_at 5 x5 V)) ≤ x3 → ((PX7_drawnBy_26 n) x3 (x4 + (MX4_at 5 x5 V)) (x5 + (1 : Int32)) V)))))
def BX7_drawnBy_19   (s0 : Int32) (V : gV) : Int32 := BX7_drawnBy_26 1000 s0 (0 : Int32) (0 : Int32) V
def PX7_drawnBy_19   (s0 : Int32) (V : gV) : Prop := (PX7_drawnBy_26 1000 s0 (0 : Int32) (0 : Int32) V)
def MX7_drawnBy  (a1 : Int32) (V : gV) : Int32 := if (MX7_weightSum V) ≤ 0 then (BX7_drawnBy_19 (0 : Int32) V) else (BX7_drawnBy_19 ((a1 / (65536 : Int32)) - (a1 / (65536 : Int32)) / (MX7_weightSum V) * (MX7_weightSum V)) V)
def PX7_drawnBy  (a1 : Int32) (V : gV) : Prop := (PX7_weightSum V) ∧ (((MX7_weightSum V) ≤ 0 → (PX7_drawnBy_19 (0 : Int32) V)) ∧ (¬ (MX7_weightSum V) ≤ 0 → (¬ (MX7_weightSum V) = 0) ∧ (PX7_drawnBy_19 ((a1 / (65536 : Int32)) - (a1 / (65536 : Int32)) / (MX7_weightSum V) * (MX7_weightSum V)) V)))
abbrev wc_X7_drawnBy : List Cond := Cond.code yX7_drawnBy cX7_drawnBy 6 (some .int) :: wsL_law
abbrev r_X7_drawnBy : Room := { frames := 3, cells := 0, slots := 0, locals := 64 }
theorem dd_X7_drawnBy : yX7_drawnBy.cls = RX7 ∧ yX7_drawnBy.cls ≠ "java/lang/invoke/MethodHandle" ∧ yX7_drawnBy.cls ≠ "java/lang/invoke/VarHandle" ∧ (parseMethodDescriptor yX7_drawnBy.desc).map (fun d => d.parameters.length) = some 1 := by decide +kernel
set_option maxHeartbeats 8000000 in
set_option maxRecDepth 100000 in
theorem cc_X7_drawnBy (l : Launch) (G : gG) (V : gV)   (a1 : Int32) (hs : PX7_drawnBy a1 V) : Met l yX7_drawnBy wc_X7_drawnBy r_X7_drawnBy (va_Pc [.ref (gA G 2), .int a1] (gW G V)) (gQR G (MX7_drawnBy a1 V) V) 0 0 (gF G) := by
  refine Met.ofW (cc := cX7_drawnBy) (maxL := 6) (ret := (some .int)) (by decide) rfl ?_
  intro p e s m args below meth c s₁ B hml hv
  obtain ⟨rfl, hP, hT⟩ := hv
  have hx := B.exec
  have hb := B.bytes
  have hr := B.returns
  have hw := gh_hw (atoms_spec (ws := wc_X7_drawnBy) B.pre)
  have hown : s.vm.findClass RX7 = some m.cls := findClass_of_methodNamed B.named
  have hlocks := B.notSynchronized
  have hS : va_S (gF G) s.heap s.heap [] := va_S.rf
  have hl := lv_entry ([.ref (gA G 2), .int a1]) (n := 6) (Nat.le_of_ble_eq_true rfl)
  rw [lg_entry_eq]
  generalize (lg_sl ([.ref (gA G 2), .int a1]) ++ List.replicate (6 - (lg_sl ([.ref (gA G 2), .int a1])).length) Slot.unset).toArray = ls at hl ⊢
  have hl : lv_has ls 6 [(0, .ref (gA G 2)), (1, .int a1)] := hl
  obtain ⟨res, hres⟩ : ∃ r, r = MX7_drawnBy a1 V := ⟨_, rfl⟩
  rw [← hres]
  show W p l e r_X7_drawnBy s m ([.ref (gA G 2), .int a1] : List Value).toArray below meth c s.heap [] 0 0 (MQ below (gQR G res V) ([.ref (gA G 2), .int a1] : List Value).toArray s 0 0 (gF G)) (F0 m 0 ls [])
  have hs : (PX7_weightSum V) ∧ (((MX7_weightSum V) ≤ 0 → (PX7_drawnBy_19 (0 : Int32) V)) ∧ (¬ (MX7_weightSum V) ≤ 0 → (¬ (MX7_weightSum V) = 0) ∧ (PX7_drawnBy_19 ((a1 / (65536 : Int32)) - (a1 / (65536 : Int32)) / (MX7_weightSum V) * (MX7_weightSum V)) V))) := hs
  have hres : res = (if (MX7_weightSum V) ≤ 0 then (BX7_drawnBy_19 (0 : Int32) V) else (BX7_drawnBy_19 ((a1 / (65536 : Int32)) - (a1 / (65536 : Int32)) / (MX7_weightSum V) * (MX7_weightSum V)) V)) := hres
  have b_26 : ∀ (n : Nat) (x3 : Int32) (x4 : Int32) (x5 : Int32) (H : Heap) (locs : List Loc) (ls : Array Slot), lv_has ls 6 [(0, .ref (gA G 2)), (3, .int x3), (4, .int x4), (5, .int x5)] → va_P (gD G) vwCl (gL G V) H → va_S (gF G) s.heap H locs → PX7_drawnBy_26  n x3 x4 x5 V → res = BX7_drawnBy_26  n x3 x4 x5 V → W p l e r_X7_drawnBy s m ([.ref (gA G 2), .int a1] : List Value).toArray below meth c H locs 0 0 (MQ below (gQR G res V) ([.ref (gA G 2), .int a1] : List Value).toArray s 0 0 (gF G)) (F0 m 26 ls []) := by
    intro n
    induction n with
    | zero =>
      intro x3 x4 x5 H locs ls hl hP hS hs hres
      exact (show False from hs).elim
    | succ n26 ih26 =>
      intro x3 x4 x5 H locs ls hl hP hS hs hres
      have hs : ((¬ (V 2 0) ≤ x5 → (((x4 + (MX4_at 5 x5 V)) ≤ x3 → ((PX7_drawnBy_26 n26) x3 (x4 + (MX4_at 5 x5 V)) (x5 + (1 : Int32)) V))))) := hs
      have hres : res = (if (V 2 0) ≤ x5 then ((0 : Int32)) else (if (x4 + (MX4_at 5 x5 V)) ≤ x3 then ((BX7_drawnBy_26 n26) x3 (x4 + (MX4_at 5 x5 V)) (x5 + (1 : Int32)) V) else (x5))) := hres
      refine lv_iload hx hb dX7_drawnBy_26 (lv_at hl 3 rfl) ?_
      refine lv_aload_n hx hb dX7_drawnBy_28 rfl (lv_at hl 0 rfl) ?_
      refine gh_get (v := .int (V 2 0)) (C := RX7) (T := TX7) (N := 5) hx hb hw inlX7 hown hT hP 2 (Nat.le_of_ble_eq_true rfl) kd2 rfl rfl 0 (by decide) (hw _ uw134) rfl dX7_drawnBy_29 ?_
      refine lv_icmp_ge (tgt := 64) hx hb dX7_drawnBy_32 (by decide) (fun c_3 => ?_) (fun c_3 => ?_)
      · have hres := hres.trans (if_pos c_3)
        refine lv_iconst (v := 0) hx hb dX7_drawnBy_64 (by decide) ?_
        exact gh_iretR hx hb hr hlocks hP hS hT hres dX7_drawnBy_65
      have hres := hres.trans (if_neg c_3)
      have hs := hs c_3
      refine lv_iload hx hb dX7_drawnBy_35 (lv_at hl 2 rfl) ?_
      refine lv_aload_n hx hb dX7_drawnBy_37 rfl (lv_at hl 0 rfl) ?_
      refine gh_get (v := .ref (gA G 5)) (C := RX7) (T := TX7) (N := 5) hx hb hw inlX7 hown hT hP 2 (Nat.le_of_ble_eq_true rfl) kd2 rfl rfl 2 (by decide) (hw _ uw57) rfl dX7_drawnBy_38 ?_
      refine lv_iload hx hb dX7_drawnBy_41 (lv_at hl 3 rfl) ?_
      refine gh_kr (va_runV (As := [.int x5]) (rest := [.int x4]) ⟨hx, hb, hml, hown, hw⟩ (cc_X4_at l G V 5 gi5 x5) (cwV 1 hw gv_RX7_37 rfl rfl rfl dd_X4_at ⟨Nat.le_of_ble_eq_true rfl, Nat.le_of_ble_eq_true rfl⟩) (gh_preV hT hP (Nat.le_of_ble_eq_true rfl) kd5 rfl rfl) rfl rfl hl.1 rfl (lv_room (Nat.le_of_ble_eq_true rfl)) dX7_drawnBy_43 ⟨Nat.zero_le _, Nat.zero_le _⟩) hS (fun H locs hP hS => ?_)
      refine lv_iadd hx hb dX7_drawnBy_46 ?_
      refine lv_istore (lv' := [(4, .int (x4 + (MX4_at 5 x5 V))), (0, .ref (gA G 2)), (3, .int x3), (5, .int x5)]) hx hb dX7_drawnBy_47 hl (by decide) rfl (fun ls hl => ?_)
      refine lv_iload hx hb dX7_drawnBy_49 (lv_at hl 0 rfl) ?_
      refine lv_iload_n hx hb dX7_drawnBy_51 rfl (lv_at hl 2 rfl) ?_
      refine lv_icmp_le (tgt := 58) hx hb dX7_drawnBy_52 (by decide) (fun c_4 => ?_) (fun c_4 => ?_)
      · have hres := hres.trans (if_pos c_4)
        have hs := hs c_4
        refine lv_iinc (v := (x5 + (1 : Int32))) (lv' := [(5, .int (x5 + (1 : Int32))), (4, .int (x4 + (MX4_at 5 x5 V))), (0, .ref (gA G 2)), (3, .int x3)]) hx hb dX7_drawnBy_58 hl (k := 3) rfl rfl (by decide) rfl (fun ls hl => ?_)
        refine lv_goto (tgt := 26) hx hb dX7_drawnBy_61 (by decide) ?_
        exact ih26 x3 (x4 + (MX4_at 5 x5 V)) (x5 + (1 : Int32)) _ _ _ (lv_sub hl [2, 3, 1, 0] rfl) hP hS hs hres
      have hres := hres.trans (if_neg c_4)
      refine lv_iload hx hb dX7_drawnBy_55 (lv_at hl 3 rfl) ?_
      exact gh_iretR hx hb hr hlocks hP hS hT hres dX7_drawnBy_57
  have b_19 : ∀ (s0 : Int32) (H : Heap) (locs : List Loc) (ls : Array Slot), lv_has ls 6 [(0, .ref (gA G 2))] → va_P (gD G) vwCl (gL G V) H → va_S (gF G) s.heap H locs → PX7_drawnBy_19  s0 V → res = BX7_drawnBy_19  s0 V → W p l e r_X7_drawnBy s m ([.ref (gA G 2), .int a1] : List Value).toArray below meth c H locs 0 0 (MQ below (gQR G res V) ([.ref (gA G 2), .int a1] : List Value).toArray s 0 0 (gF G)) (F0 m 19 ls [.int s0]) := by
    intro s0 H locs ls hl hP hS hs hres
    have hs : (PX7_drawnBy_26 1000 s0 (0 : Int32) (0 : Int32) V) := hs
    have hres : res = (BX7_drawnBy_26 1000 s0 (0 : Int32) (0 : Int32) V) := hres
    refine lv_istore_n (lv' := [(3, .int s0), (0, .ref (gA G 2))]) hx hb dX7_drawnBy_19 rfl hl (by decide) rfl (fun ls hl => ?_)
    refine lv_iconst (v := 0) hx hb dX7_drawnBy_20 (by decide) ?_
    refine lv_istore (lv' := [(4, .int (0 : Int32)), (3, .int s0), (0, .ref (gA G 2))]) hx hb dX7_drawnBy_21 hl (by decide) rfl (fun ls hl => ?_)
    refine lv_iconst (v := 0) hx hb dX7_drawnBy_23 (by decide) ?_
    refine lv_istore (lv' := [(5, .int (0 : Int32)), (4, .int (0 : Int32)), (3, .int s0), (0, .ref (gA G 2))]) hx hb dX7_drawnBy_24 hl (by decide) rfl (fun ls hl => ?_)
    exact b_26 1000 s0 (0 : Int32) (0 : Int32) _ _ _ (lv_sub hl [3, 2, 1, 0] rfl) hP hS hs hres
  refine lv_aload_n hx hb dX7_drawnBy_0 rfl (lv_at hl 0 rfl) ?_
  obtain ⟨ho_1, hs⟩ := hs
  refine gh_kr (va_runV (As := []) (rest := []) ⟨hx, hb, hml, hown, hw⟩ (cc_X7_weightSum l G V ho_1) (cwV 0 hw gv_RX7_56 rfl rfl rfl dd_X7_weightSum ⟨Nat.le_of_ble_eq_true rfl, Nat.le_of_ble_eq_true rfl⟩) (gh_preV hT hP (Nat.le_of_ble_eq_true rfl) kd2 rfl rfl) rfl rfl hl.1 rfl (lv_room (Nat.le_of_ble_eq_true rfl)) dX7_drawnBy_1 ⟨Nat.zero_le _, Nat.zero_le _⟩) hS (fun H locs hP hS => ?_)
  refine lv_istore_n (lv' := [(2, .int (MX7_weightSum V)), (0, .ref (gA G 2)), (1, .int a1)]) hx hb dX7_drawnBy_4 rfl hl (by decide) rfl (fun ls hl => ?_)
  refine lv_iload_n hx hb dX7_drawnBy_5 rfl (lv_at hl 0 rfl) ?_
  refine lv_if_le (tgt := 18) hx hb dX7_drawnBy_6 (by decide) (fun c_2 => ?_) (fun c_2 => ?_)
  · have hres := hres.trans (if_pos c_2)
    have hs := hs.1 c_2
    refine lv_iconst (v := 0) hx hb dX7_drawnBy_18 (by decide) ?_
    exact b_19 (0 : Int32) _ _ _ (lv_sub hl [1] rfl) hP hS hs hres
  have hres := hres.trans (if_neg c_2)
  have hs := hs.2 c_2
  refine lv_iload_n hx hb dX7_drawnBy_9 rfl (lv_at hl 2 rfl) ?_
  refine lv_ldc hx hb hown (hw _ uw326) dX7_drawnBy_10 ?_
  refine lv_idiv hx hb dX7_drawnBy_12 (by decide) ?_
  refine lv_iload_n hx hb dX7_drawnBy_13 rfl (lv_at hl 0 rfl) ?_
  obtain ⟨ho_5, hs⟩ := hs
  refine lv_irem hx hb dX7_drawnBy_14 ho_5 ?_
  refine lv_goto (tgt := 19) hx hb dX7_drawnBy_15 (by decide) ?_
  exact b_19 ((a1 / (65536 : Int32)) - (a1 / (65536 : Int32)) / (MX7_weightSum V) * (MX7_weightSum V)) _ _ _ (lv_sub hl [1] rfl) hP hS hs hres
def BX7_looksLike_91  (K28 : Int32 → Int32 → Int32 → Int32 → Int32 → gV → Int32) (x1 : Int32) (x2 : Int32) (x3 : Int32) (x4 : Int32) (x5 : Int32) (s0 : Int32) (V : gV) : Int32 := if s0 = 0 then ((0 : Int32)) else (K28 x1 x2 x3 x4 (x5 + (1 : Int32)) V)
def PX7_looksLike_91  (KP28 : Int32 → Int32 → Int32 → Int32 → Int32 → gV → Prop) (x1 : Int32) (x2 : Int32) (x3 : Int32) (x4 : Int32) (x5 : Int32) (s0 : Int32) (V : gV) : Prop := ((¬ s0 = 0 → (KP28 x1 x2 x3 x4 (x5 + (1 : Int32)) V)))
def BX7_looksLike_28   : Nat → Int32 → Int32 → Int32 → Int32 → Int32 → gV → Int32
  | 0, _, _, _, _, _, _ => 0
  | n + 1, x1, x2, x3, x4, x5, V => if x4 ≤ x5 then ((1 : Int32)) else (if (MX8_holds x3 (MX7_letterAt 2 x2 x5 V) V) = 0 then (if (MX8_holds x3 (MX7_letterAt 2 x1 x5 V) V) = 0 then (BX7_looksLike_91 (BX7_looksLike_28 n) x1 x2 x3 x4 x5 (1 : Int32) V) else (BX7_looksLike_91 (BX7_looksLike_28 n) x1 x2 x3 x4 x5 (0 : Int32) V)) else (if (MX7_letterAt 2 x1 x5 V) = (MX7_letterAt 2 x2 x5 V) then (BX7_looksLike_91 (BX7_looksLike_28 n) x1 x2 x3 x4 x5 (1 : Int32) V) else (BX7_looksLike_91 (BX7_looksLike_28 n) x1 x2 x3 x4 x5 (0 : Int32) V)))
def PX7_looksLike_28   : Nat → Int32 → Int32 → Int32 → Int32 → Int32 → gV → Prop
  | 0, _, _, _, _, _, _ => False
  | n + 1, x1, x2, x3, x4, x5, V => ((¬ x4 ≤ x5 → (((MX8_holds x3 (MX7_letterAt 2 x2 x5 V) V) = 0 → (((MX8_holds x3 (MX7_letterAt 2 x1 x5 V) V) = 0 → (PX7_looksLike_91 (PX7_looksLike_28 n) x1 x2 x3 x4 x5 (1 : Int32) V)) ∧ (¬ (MX8_holds x3 (MX7_letterAt 2 x1 x5 V) V) = 0 → (PX7_looksLike_91 (PX7_looksLike_28 n) x1 x2 x3 x4 x5 (0 : Int32) V)))) ∧ (¬ (MX8_holds x3 (MX7_letterAt 2 x2 x5 V) V) = 0 → (((MX7_letterAt 2 x1 x5 V) = (MX7_letterAt 2 x2 x5 V) → (PX7_looksLike_91 (PX7_looksLike_28 n) x1 x2 x3 x4 x5 (1 : Int32) V)) ∧ (¬ (MX7_letterAt 2 x1 x5 V) = (MX7_letterAt 2 x2 x5 V) → (PX7_looksLike_91 (PX7_looksLike_28 n) x1 x2 x3 x4 x5 (0 : Int32) V)))))))
def MX7_looksLike  (a1 : Int32) (a2 : Int32) (a3 : Int32) (V : gV) : Int32 := if (MX4_at 3 a1 V) = (MX4_at 3 a2 V) then (BX7_looksLike_28 1000 a1 a2 a3 (MX4_at 3 a2 V) (0 : Int32) V) else ((0 : Int32))
def PX7_looksLike  (a1 : Int32) (a2 : Int32) (a3 : Int32) (V : gV) : Prop := (((MX4_at 3 a1 V) = (MX4_at 3 a2 V) → (PX7_looksLike_28 1000 a1 a2 a3 (MX4_at 3 a2 V) (0 : Int32) V)))
abbrev wc_X7_looksLike : List Cond := Cond.code yX7_looksLike cX7_looksLike 9 (some .boolean) :: wsL_law
abbrev r_X7_looksLike : Room := { frames := 2, cells := 0, slots := 0, locals := 43 }
theorem dd_X7_looksLike : yX7_looksLike.cls = RX7 ∧ yX7_looksLike.cls ≠ "java/lang/invoke/MethodHandle" ∧ yX7_looksLike.cls ≠ "java/lang/invoke/VarHandle" ∧ (parseMethodDescriptor yX7_looksLike.desc).map (fun d => d.parameters.length) = some 3 := by decide +kernel
set_option maxHeartbeats 8000000 in
set_option maxRecDepth 100000 in
theorem cc_X7_looksLike (l : Launch) (G : gG) (V : gV)   (a1 : Int32) (a2 : Int32) (a3 : Int32) (hs : PX7_looksLike a1 a2 a3 V) : Met l yX7_looksLike wc_X7_looksLike r_X7_looksLike (va_Pc [.ref (gA G 2), .int a1, .int a2, .int a3] (gW G V)) (gQR G (MX7_looksLike a1 a2 a3 V) V) 0 0 (gF G) := by
  refine Met.ofW (cc := cX7_looksLike) (maxL := 9) (ret := (some .boolean)) (by decide) rfl ?_
  intro p e s m args below meth c s₁ B hml hv
  obtain ⟨rfl, hP, hT⟩ := hv
  have hx := B.exec
  have hb := B.bytes
  have hr := B.returns
  have hw := gh_hw (atoms_spec (ws := wc_X7_looksLike) B.pre)
  have hown : s.vm.findClass RX7 = some m.cls := findClass_of_methodNamed B.named
  have hlocks := B.notSynchronized
  have hS : va_S (gF G) s.heap s.heap [] := va_S.rf
  have hl := lv_entry ([.ref (gA G 2), .int a1, .int a2, .int a3]) (n := 9) (Nat.le_of_ble_eq_true rfl)
  rw [lg_entry_eq]
  generalize (lg_sl ([.ref (gA G 2), .int a1, .int a2, .int a3]) ++ List.replicate (9 - (lg_sl ([.ref (gA G 2), .int a1, .int a2, .int a3])).length) Slot.unset).toArray = ls at hl ⊢
  have hl : lv_has ls 9 [(0, .ref (gA G 2)), (1, .int a1), (2, .int a2), (3, .int a3)] := hl
  obtain ⟨res, hres⟩ : ∃ r, r = MX7_looksLike a1 a2 a3 V := ⟨_, rfl⟩
  rw [← hres]
  show W p l e r_X7_looksLike s m ([.ref (gA G 2), .int a1, .int a2, .int a3] : List Value).toArray below meth c s.heap [] 0 0 (MQ below (gQR G res V) ([.ref (gA G 2), .int a1, .int a2, .int a3] : List Value).toArray s 0 0 (gF G)) (F0 m 0 ls [])
  have hs : (((MX4_at 3 a1 V) = (MX4_at 3 a2 V) → (PX7_looksLike_28 1000 a1 a2 a3 (MX4_at 3 a2 V) (0 : Int32) V))) := hs
  have hres : res = (if (MX4_at 3 a1 V) = (MX4_at 3 a2 V) then (BX7_looksLike_28 1000 a1 a2 a3 (MX4_at 3 a2 V) (0 : Int32) V) else ((0 : Int32))) := hres
  have b_28 : ∀ (n : Nat) (x1 : Int32) (x2 : Int32) (x3 : Int32) (x4 : Int32) (x5 : Int32) (H : Heap) (locs : List Loc) (ls : Array Slot), lv_has ls 9 [(0, .ref (gA G 2)), (1, .int x1), (2, .int x2), (3, .int x3), (4, .int x4), (5, .int x5)] → va_P (gD G) vwCl (gL G V) H → va_S (gF G) s.heap H locs → PX7_looksLike_28  n x1 x2 x3 x4 x5 V → res = BX7_looksLike_28  n x1 x2 x3 x4 x5 V → W p l e r_X7_looksLike s m ([.ref (gA G 2), .int a1, .int a2, .int a3] : List Value).toArray below meth c H locs 0 0 (MQ below (gQR G res V) ([.ref (gA G 2), .int a1, .int a2, .int a3] : List Value).toArray s 0 0 (gF G)) (F0 m 28 ls []) := by
    intro n
    induction n with
    | zero =>
      intro x1 x2 x3 x4 x5 H locs ls hl hP hS hs hres
      exact (show False from hs).elim
    | succ n28 ih28 =>
      have b_91 : ∀ (x1 : Int32) (x2 : Int32) (x3 : Int32) (x4 : Int32) (x5 : Int32) (s0 : Int32) (H : Heap) (locs : List Loc) (ls : Array Slot), lv_has ls 9 [(0, .ref (gA G 2)), (1, .int x1), (2, .int x2), (3, .int x3), (4, .int x4), (5, .int x5)] → va_P (gD G) vwCl (gL G V) H → va_S (gF G) s.heap H locs → PX7_looksLike_91 (PX7_looksLike_28 n28) x1 x2 x3 x4 x5 s0 V → res = BX7_looksLike_91 (BX7_looksLike_28 n28) x1 x2 x3 x4 x5 s0 V → W p l e r_X7_looksLike s m ([.ref (gA G 2), .int a1, .int a2, .int a3] : List Value).toArray below meth c H locs 0 0 (MQ below (gQR G res V) ([.ref (gA G 2), .int a1, .int a2, .int a3] : List Value).toArray s 0 0 (gF G)) (F0 m 91 ls [.int s0]) := by
        intro x1 x2 x3 x4 x5 s0 H locs ls hl hP hS hs hres
        have hs : ((¬ s0 = 0 → ((PX7_looksLike_28 n28) x1 x2 x3 x4 (x5 + (1 : Int32)) V))) := hs
        have hres : res = (if s0 = 0 then ((0 : Int32)) else ((BX7_looksLike_28 n28) x1 x2 x3 x4 (x5 + (1 : Int32)) V)) := hres
        refine lv_istore (lv' := [(8, .int s0), (0, .ref (gA G 2)), (1, .int x1), (2, .int x2), (3, .int x3), (4, .int x4), (5, .int x5)]) hx hb dX7_looksLike_91 hl (by decide) rfl (fun ls hl => ?_)
        refine lv_iload hx hb dX7_looksLike_93 (lv_at hl 0 rfl) ?_
        refine lv_if_ne (tgt := 100) hx hb dX7_looksLike_95 (by decide) (fun c_5 => ?_) (fun c_5 => ?_)
        · have hres := hres.trans (if_neg c_5)
          have hs := hs c_5
          refine lv_iinc (v := (x5 + (1 : Int32))) (lv' := [(5, .int (x5 + (1 : Int32))), (8, .int s0), (0, .ref (gA G 2)), (1, .int x1), (2, .int x2), (3, .int x3), (4, .int x4)]) hx hb dX7_looksLike_100 hl (k := 6) rfl rfl (by decide) rfl (fun ls hl => ?_)
          refine lv_goto (tgt := 28) hx hb dX7_looksLike_103 (by decide) ?_
          exact ih28 x1 x2 x3 x4 (x5 + (1 : Int32)) _ _ _ (lv_sub hl [2, 3, 4, 5, 6, 0] rfl) hP hS hs hres
        have hres := hres.trans (if_pos c_5)
        refine lv_iconst (v := 0) hx hb dX7_looksLike_98 (by decide) ?_
        exact gh_zretR hx hb hr rfl hlocks hP hS hT hres dX7_looksLike_99
      intro x1 x2 x3 x4 x5 H locs ls hl hP hS hs hres
      have hs : ((¬ x4 ≤ x5 → (((MX8_holds x3 (MX7_letterAt 2 x2 x5 V) V) = 0 → (((MX8_holds x3 (MX7_letterAt 2 x1 x5 V) V) = 0 → (PX7_looksLike_91 (PX7_looksLike_28 n28) x1 x2 x3 x4 x5 (1 : Int32) V)) ∧ (¬ (MX8_holds x3 (MX7_letterAt 2 x1 x5 V) V) = 0 → (PX7_looksLike_91 (PX7_looksLike_28 n28) x1 x2 x3 x4 x5 (0 : Int32) V)))) ∧ (¬ (MX8_holds x3 (MX7_letterAt 2 x2 x5 V) V) = 0 → (((MX7_letterAt 2 x1 x5 V) = (MX7_letterAt 2 x2 x5 V) → (PX7_looksLike_91 (PX7_looksLike_28 n28) x1 x2 x3 x4 x5 (1 : Int32) V)) ∧ (¬ (MX7_letterAt 2 x1 x5 V) = (MX7_letterAt 2 x2 x5 V) → (PX7_looksLike_91 (PX7_looksLike_28 n28) x1 x2 x3 x4 x5 (0 : Int32) V))))))) := hs
      have hres : res = (if x4 ≤ x5 then ((1 : Int32)) else (if (MX8_holds x3 (MX7_letterAt 2 x2 x5 V) V) = 0 then (if (MX8_holds x3 (MX7_letterAt 2 x1 x5 V) V) = 0 then (BX7_looksLike_91 (BX7_looksLike_28 n28) x1 x2 x3 x4 x5 (1 : Int32) V) else (BX7_looksLike_91 (BX7_looksLike_28 n28) x1 x2 x3 x4 x5 (0 : Int32) V)) else (if (MX7_letterAt 2 x1 x5 V) = (MX7_letterAt 2 x2 x5 V) then (BX7_looksLike_91 (BX7_looksLike_28 n28) x1 x2 x3 x4 x5 (1 : Int32) V) else (BX7_looksLike_91 (BX7_looksLike_28 n28) x1 x2 x3 x4 x5 (0 : Int32) V)))) := hres
      refine lv_iload hx hb dX7_looksLike_28 (lv_at hl 5 rfl) ?_
      refine lv_iload hx hb dX7_looksLike_30 (lv_at hl 4 rfl) ?_
      refine lv_icmp_ge (tgt := 106) hx hb dX7_looksLike_32 (by decide) (fun c_2 => ?_) (fun c_2 => ?_)
      · have hres := hres.trans (if_pos c_2)
        refine lv_iconst (v := 1) hx hb dX7_looksLike_106 (by decide) ?_
        exact gh_zretR hx hb hr rfl hlocks hP hS hT hres dX7_looksLike_107
      have hres := hres.trans (if_neg c_2)
      have hs := hs c_2
      refine lv_aload_n hx hb dX7_looksLike_35 rfl (lv_at hl 0 rfl) ?_
      refine lv_iload_n hx hb dX7_looksLike_36 rfl (lv_at hl 2 rfl) ?_
      refine lv_iload hx hb dX7_looksLike_37 (lv_at hl 5 rfl) ?_
      refine gh_kr (va_runV (As := [.int x2, .int x5]) (rest := []) ⟨hx, hb, hml, hown, hw⟩ (cc_X7_letterAt l G V 2 gi2 x2 x5) (cwV 2 hw gv_RX7_45 rfl rfl rfl dd_X7_letterAt ⟨Nat.le_of_ble_eq_true rfl, Nat.le_of_ble_eq_true rfl⟩) (gh_preV hT hP (Nat.le_of_ble_eq_true rfl) kd2 rfl rfl) rfl rfl hl.1 rfl (lv_room (Nat.le_of_ble_eq_true rfl)) dX7_looksLike_39 ⟨Nat.zero_le _, Nat.zero_le _⟩) hS (fun H locs hP hS => ?_)
      refine lv_istore (lv' := [(6, .int (MX7_letterAt 2 x2 x5 V)), (0, .ref (gA G 2)), (1, .int x1), (2, .int x2), (3, .int x3), (4, .int x4), (5, .int x5)]) hx hb dX7_looksLike_42 hl (by decide) rfl (fun ls hl => ?_)
      refine lv_aload_n hx hb dX7_looksLike_44 rfl (lv_at hl 1 rfl) ?_
      refine lv_iload_n hx hb dX7_looksLike_45 rfl (lv_at hl 2 rfl) ?_
      refine lv_iload hx hb dX7_looksLike_46 (lv_at hl 6 rfl) ?_
      refine gh_kr (va_runV (As := [.int x1, .int x5]) (rest := []) ⟨hx, hb, hml, hown, hw⟩ (cc_X7_letterAt l G V 2 gi2 x1 x5) (cwV 2 hw gv_RX7_45 rfl rfl rfl dd_X7_letterAt ⟨Nat.le_of_ble_eq_true rfl, Nat.le_of_ble_eq_true rfl⟩) (gh_preV hT hP (Nat.le_of_ble_eq_true rfl) kd2 rfl rfl) rfl rfl hl.1 rfl (lv_room (Nat.le_of_ble_eq_true rfl)) dX7_looksLike_48 ⟨Nat.zero_le _, Nat.zero_le _⟩) hS (fun H locs hP hS => ?_)
      refine lv_istore (lv' := [(7, .int (MX7_letterAt 2 x1 x5 V)), (6, .int (MX7_letterAt 2 x2 x5 V)), (0, .ref (gA G 2)), (1, .int x1), (2, .int x2), (3, .int x3), (4, .int x4), (5, .int x5)]) hx hb dX7_looksLike_51 hl (by decide) rfl (fun ls hl => ?_)
      refine lv_iload_n hx hb dX7_looksLike_53 rfl (lv_at hl 5 rfl) ?_
      refine lv_iload hx hb dX7_looksLike_54 (lv_at hl 1 rfl) ?_
      refine gh_kr (va_runSN (As := [.int x3, .int (MX7_letterAt 2 x2 x5 V)]) (rest := []) ⟨hx, hb, hml, hown, hw⟩ (cc_X8_holds l G V x3 (MX7_letterAt 2 x2 x5 V)) ⟨va_cnB 2 hw (gh_g1 uw336) rfl rfl rfl hT.2.2.2.1 (hw _ uw2) dd_X8_holds.2 ⟨Nat.le_of_ble_eq_true rfl, Nat.le_of_ble_eq_true rfl⟩, hw _ uw335, trivial⟩ (gh_pre hT hP) rfl rfl hl.1 rfl (lv_room (Nat.le_of_ble_eq_true rfl)) dX7_looksLike_56 ⟨Nat.zero_le _, Nat.zero_le _⟩) hS (fun H locs hP hS => ?_)
      refine lv_if_eq (tgt := 77) hx hb dX7_looksLike_59 (by decide) (fun c_3 => ?_) (fun c_3 => ?_)
      · have hres := hres.trans (if_pos c_3)
        have hs := hs.1 c_3
        refine lv_iload_n hx hb dX7_looksLike_77 rfl (lv_at hl 5 rfl) ?_
        refine lv_iload hx hb dX7_looksLike_78 (lv_at hl 0 rfl) ?_
        refine gh_kr (va_runSN (As := [.int x3, .int (MX7_letterAt 2 x1 x5 V)]) (rest := []) ⟨hx, hb, hml, hown, hw⟩ (cc_X8_holds l G V x3 (MX7_letterAt 2 x1 x5 V)) ⟨va_cnB 2 hw (gh_g1 uw336) rfl rfl rfl hT.2.2.2.1 (hw _ uw2) dd_X8_holds.2 ⟨Nat.le_of_ble_eq_true rfl, Nat.le_of_ble_eq_true rfl⟩, hw _ uw335, trivial⟩ (gh_pre hT hP) rfl rfl hl.1 rfl (lv_room (Nat.le_of_ble_eq_true rfl)) dX7_looksLike_80 ⟨Nat.zero_le _, Nat.zero_le _⟩) hS (fun H locs hP hS => ?_)
        refine lv_if_ne (tgt := 90) hx hb dX7_looksLike_83 (by decide) (fun c_4 => ?_) (fun c_4 => ?_)
        · have hres := hres.trans (if_neg c_4)
          have hs := hs.2 c_4
          refine lv_iconst (v := 0) hx hb dX7_looksLike_90 (by decide) ?_
          exact b_91 x1 x2 x3 x4 x5 (0 : Int32) _ _ _ (lv_sub hl [2, 3, 4, 5, 6, 7] rfl) hP hS hs hres
        have hres := hres.trans (if_pos c_4)
        have hs := hs.1 c_4
        refine lv_iconst (v := 1) hx hb dX7_looksLike_86 (by decide) ?_
        refine lv_goto (tgt := 91) hx hb dX7_looksLike_87 (by decide) ?_
        exact b_91 x1 x2 x3 x4 x5 (1 : Int32) _ _ _ (lv_sub hl [2, 3, 4, 5, 6, 7] rfl) hP hS hs hres
      have hres := hres.trans (if_neg c_3)
      have hs := hs.2 c_3
      refine lv_iload hx hb dX7_looksLike_62 (lv_at hl 0 rfl) ?_
      refine lv_iload hx hb dX7_looksLike_64 (lv_at hl 1 rfl) ?_
      refine lv_icmp_ne (tgt := 73) hx hb dX7_looksLike_66 (by decide) (fun c_6 => ?_) (fun c_6 => ?_)
      · have hres := hres.trans (if_neg c_6)
        have hs := hs.2 c_6
        refine lv_iconst (v := 0) hx hb dX7_looksLike_73 (by decide) ?_
        refine lv_goto (tgt := 91) hx hb dX7_looksLike_74 (by decide) ?_
        exact b_91 x1 x2 x3 x4 x5 (0 : Int32) _ _ _ (lv_sub hl [2, 3, 4, 5, 6, 7] rfl) hP hS hs hres
      have hres := hres.trans (if_pos c_6)
      have hs := hs.1 c_6
      refine lv_iconst (v := 1) hx hb dX7_looksLike_69 (by decide) ?_
      refine lv_goto (tgt := 91) hx hb dX7_looksLike_70 (by decide) ?_
      exact b_91 x1 x2 x3 x4 x5 (1 : Int32) _ _ _ (lv_sub hl [2, 3, 4, 5, 6, 7] rfl) hP hS hs hres
  refine lv_aload_n hx hb dX7_looksLike_0 rfl (lv_at hl 0 rfl) ?_
  refine gh_get (v := .ref (gA G 3)) (C := RX7) (T := TX7) (N := 5) hx hb hw inlX7 hown hT hP 2 (Nat.le_of_ble_eq_true rfl) kd2 rfl rfl 1 (by decide) (hw _ uw56) rfl dX7_looksLike_1 ?_
  refine lv_iload_n hx hb dX7_looksLike_4 rfl (lv_at hl 2 rfl) ?_
  refine gh_kr (va_runV (As := [.int a2]) (rest := []) ⟨hx, hb, hml, hown, hw⟩ (cc_X4_at l G V 3 gi3 a2) (cwV 1 hw gv_RX7_37 rfl rfl rfl dd_X4_at ⟨Nat.le_of_ble_eq_true rfl, Nat.le_of_ble_eq_true rfl⟩) (gh_preV hT hP (Nat.le_of_ble_eq_true rfl) kd3 rfl rfl) rfl rfl hl.1 rfl (lv_room (Nat.le_of_ble_eq_true rfl)) dX7_looksLike_5 ⟨Nat.zero_le _, Nat.zero_le _⟩) hS (fun H locs hP hS => ?_)
  refine lv_istore (lv' := [(4, .int (MX4_at 3 a2 V)), (0, .ref (gA G 2)), (1, .int a1), (2, .int a2), (3, .int a3)]) hx hb dX7_looksLike_8 hl (by decide) rfl (fun ls hl => ?_)
  refine lv_aload_n hx hb dX7_looksLike_10 rfl (lv_at hl 1 rfl) ?_
  refine gh_get (v := .ref (gA G 3)) (C := RX7) (T := TX7) (N := 5) hx hb hw inlX7 hown hT hP 2 (Nat.le_of_ble_eq_true rfl) kd2 rfl rfl 1 (by decide) (hw _ uw56) rfl dX7_looksLike_11 ?_
  refine lv_iload_n hx hb dX7_looksLike_14 rfl (lv_at hl 2 rfl) ?_
  refine gh_kr (va_runV (As := [.int a1]) (rest := []) ⟨hx, hb, hml, hown, hw⟩ (cc_X4_at l G V 3 gi3 a1) (cwV 1 hw gv_RX7_37 rfl rfl rfl dd_X4_at ⟨Nat.le_of_ble_eq_true rfl, Nat.le_of_ble_eq_true rfl⟩) (gh_preV hT hP (Nat.le_of_ble_eq_true rfl) kd3 rfl rfl) rfl rfl hl.1 rfl (lv_room (Nat.le_of_ble_eq_true rfl)) dX7_looksLike_15 ⟨Nat.zero_le _, Nat.zero_le _⟩) hS (fun H locs hP hS => ?_)
  refine lv_iload hx hb dX7_looksLike_18 (lv_at hl 0 rfl) ?_
  refine lv_icmp_eq (tgt := 25) hx hb dX7_looksLike_20 (by decide) (fun c_1 => ?_) (fun c_1 => ?_)
  · have hres := hres.trans (if_pos c_1)
    have hs := hs c_1
    refine lv_iconst (v := 0) hx hb dX7_looksLike_25 (by decide) ?_
    refine lv_istore (lv' := [(5, .int (0 : Int32)), (4, .int (MX4_at 3 a2 V)), (0, .ref (gA G 2)), (1, .int a1), (2, .int a2), (3, .int a3)]) hx hb dX7_looksLike_26 hl (by decide) rfl (fun ls hl => ?_)
    exact b_28 1000 a1 a2 a3 (MX4_at 3 a2 V) (0 : Int32) _ _ _ (lv_sub hl [2, 3, 4, 5, 1, 0] rfl) hP hS hs hres
  have hres := hres.trans (if_neg c_1)
  refine lv_iconst (v := 0) hx hb dX7_looksLike_23 (by decide) ?_
  exact gh_zretR hx hb hr rfl hlocks hP hS hT hres dX7_looksLike_24
theorem gv_RX7_61 : GoodIn wsL_law (wsV RX7 61 RX7 yX7_looksLike wc_X7_looksLike) := gh_gV uw520 uw521 uw522 uw31 uw523
def BX7_fitting_32  (K5 : Int32 → Int32 → Int32 → Int32 → gV → Int32) (x1 : Int32) (x2 : Int32) (x3 : Int32) (x4 : Int32) (V : gV) : Int32 := K5 x1 x2 x3 (x4 + (1 : Int32)) V
def PX7_fitting_32  (KP5 : Int32 → Int32 → Int32 → Int32 → gV → Prop) (x1 : Int32) (x2 : Int32) (x3 : Int32) (x4 : Int32) (V : gV) : Prop := (KP5 x1 x2 x3 (x4 + (1 : Int32)) V)
def BX7_fitting_5   : Nat → Int32 → Int32 → Int32 → Int32 → gV → Int32
  | 0, _, _, _, _, _ => 0
  | n + 1, x1, x2, x3, x4, V => if (V 2 0) ≤ x4 then (x3) else (if (MX7_looksLike x4 x1 x2 V) = 0 then (BX7_fitting_32 (BX7_fitting_5 n) x1 x2 x3 x4 V) else (BX7_fitting_32 (BX7_fitting_5 n) x1 x2 (x3 ||| ((1 : Int32) <<< (x4 &&& 31))) x4 V))
def PX7_fitting_5   : Nat → Int32 → Int32 → Int32 → Int32 → gV → Prop
  | 0, _, _, _, _, _ => False
  | n + 1, x1, x2, x3, x4, V => ((¬ (V 2 0) ≤ x4 → (PX7_looksLike x4 x1 x2 V) ∧ (((MX7_looksLike x4 x1 x2 V) = 0 → (PX7_fitting_32 (PX7_fitting_5 n) x1 x2 x3 x4 V)) ∧ (¬ (MX7_looksLike x4 x1 x2 V) = 0 → (PX7_fitting_32 (PX7_fitting_5 n) x1 x2 (x3 ||| ((1 : Int32) <<< (x4 &&& 31))) x4 V)))))
def MX7_fitting  (a1 : Int32) (a2 : Int32) (V : gV) : Int32 := BX7_fitting_5 1000 a1 a2 (0 : Int32) (0 : Int32) V
def PX7_fitting  (a1 : Int32) (a2 : Int32) (V : gV) : Prop := (PX7_fitting_5 1000 a1 a2 (0 : Int32) (0 : Int32) V)
abbrev wc_X7_fitting : List Cond := Cond.code yX7_fitting cX7_fitting 5 (some .int) :: wsL_law
abbrev r_X7_fitting : Room := { frames := 3, cells := 0, slots := 0, locals := 71 }
theorem dd_X7_fitting : yX7_fitting.cls = RX7 ∧ yX7_fitting.cls ≠ "java/lang/invoke/MethodHandle" ∧ yX7_fitting.cls ≠ "java/lang/invoke/VarHandle" ∧ (parseMethodDescriptor yX7_fitting.desc).map (fun d => d.parameters.length) = some 2 := by decide +kernel
set_option maxHeartbeats 8000000 in
set_option maxRecDepth 100000 in
theorem cc_X7_fitting (l : Launch) (G : gG) (V : gV)   (a1 : Int32) (a2 : Int32) (hs : PX7_fitting a1 a2 V) : Met l yX7_fitting wc_X7_fitting r_X7_fitting (va_Pc [.ref (gA G 2), .int a1, .int a2] (gW G V)) (gQR G (MX7_fitting a1 a2 V) V) 0 0 (gF G) := by
  refine Met.ofW (cc := cX7_fitting) (maxL := 5) (ret := (some .int)) (by decide) rfl ?_
  intro p e s m args below meth c s₁ B hml hv
  obtain ⟨rfl, hP, hT⟩ := hv
  have hx := B.exec
  have hb := B.bytes
  have hr := B.returns
  have hw := gh_hw (atoms_spec (ws := wc_X7_fitting) B.pre)
  have hown : s.vm.findClass RX7 = some m.cls := findClass_of_methodNamed B.named
  have hlocks := B.notSynchronized
  have hS : va_S (gF G) s.heap s.heap [] := va_S.rf
  have hl := lv_entry ([.ref (gA G 2), .int a1, .int a2]) (n := 5) (Nat.le_of_ble_eq_true rfl)
  rw [lg_entry_eq]
  generalize (lg_sl ([.ref (gA G 2), .int a1, .int a2]) ++ List.replicate (5 - (lg_sl ([.ref (gA G 2), .int a1, .int a2])).length) Slot.unset).toArray = ls at hl ⊢
  have hl : lv_has ls 5 [(0, .ref (gA G 2)), (1, .int a1), (2, .int a2)] := hl
  obtain ⟨res, hres⟩ : ∃ r, r = MX7_fitting a1 a2 V := ⟨_, rfl⟩
  rw [← hres]
  show W p l e r_X7_fitting s m ([.ref (gA G 2), .int a1, .int a2] : List Value).toArray below meth c s.heap [] 0 0 (MQ below (gQR G res V) ([.ref (gA G 2), .int a1, .int a2] : List Value).toArray s 0 0 (gF G)) (F0 m 0 ls [])
  have hs : (PX7_fitting_5 1000 a1 a2 (0 : Int32) (0 : Int32) V) := hs
  have hres : res = (BX7_fitting_5 1000 a1 a2 (0 : Int32) (0 : Int32) V) := hres
  have b_5 : ∀ (n : Nat) (x1 : Int32) (x2 : Int32) (x3 : Int32) (x4 : Int32) (H : Heap) (locs : List Loc) (ls : Array Slot), lv_has ls 5 [(0, .ref (gA G 2)), (1, .int x1), (2, .int x2), (3, .int x3), (4, .int x4)] → va_P (gD G) vwCl (gL G V) H → va_S (gF G) s.heap H locs → PX7_fitting_5  n x1 x2 x3 x4 V → res = BX7_fitting_5  n x1 x2 x3 x4 V → W p l e r_X7_fitting s m ([.ref (gA G 2), .int a1, .int a2] : List Value).toArray below meth c H locs 0 0 (MQ below (gQR G res V) ([.ref (gA G 2), .int a1, .int a2] : List Value).toArray s 0 0 (gF G)) (F0 m 5 ls []) := by
    intro n
    induction n with
    | zero =>
      intro x1 x2 x3 x4 H locs ls hl hP hS hs hres
      exact (show False from hs).elim
    | succ n5 ih5 =>
      have b_32 : ∀ (x1 : Int32) (x2 : Int32) (x3 : Int32) (x4 : Int32) (H : Heap) (locs : List Loc) (ls : Array Slot), lv_has ls 5 [(0, .ref (gA G 2)), (1, .int x1), (2, .int x2), (3, .int x3), (4, .int x4)] → va_P (gD G) vwCl (gL G V) H → va_S (gF G) s.heap H locs → PX7_fitting_32 (PX7_fitting_5 n5) x1 x2 x3 x4 V → res = BX7_fitting_32 (BX7_fitting_5 n5) x1 x2 x3 x4 V → W p l e r_X7_fitting s m ([.ref (gA G 2), .int a1, .int a2] : List Value).toArray below meth c H locs 0 0 (MQ below (gQR G res V) ([.ref (gA G 2), .int a1, .int a2] : List Value).toArray s 0 0 (gF G)) (F0 m 32 ls []) := by
        intro x1 x2 x3 x4 H locs ls hl hP hS hs hres
        have hs : ((PX7_fitting_5 n5) x1 x2 x3 (x4 + (1 : Int32)) V) := hs
        have hres : res = ((BX7_fitting_5 n5) x1 x2 x3 (x4 + (1 : Int32)) V) := hres
        refine lv_iinc (v := (x4 + (1 : Int32))) (lv' := [(4, .int (x4 + (1 : Int32))), (0, .ref (gA G 2)), (1, .int x1), (2, .int x2), (3, .int x3)]) hx hb dX7_fitting_32 hl (k := 4) rfl rfl (by decide) rfl (fun ls hl => ?_)
        refine lv_goto (tgt := 5) hx hb dX7_fitting_35 (by decide) ?_
        exact ih5 x1 x2 x3 (x4 + (1 : Int32)) _ _ _ (lv_sub hl [1, 2, 3, 4, 0] rfl) hP hS hs hres
      intro x1 x2 x3 x4 H locs ls hl hP hS hs hres
      have hs : ((¬ (V 2 0) ≤ x4 → (PX7_looksLike x4 x1 x2 V) ∧ (((MX7_looksLike x4 x1 x2 V) = 0 → (PX7_fitting_32 (PX7_fitting_5 n5) x1 x2 x3 x4 V)) ∧ (¬ (MX7_looksLike x4 x1 x2 V) = 0 → (PX7_fitting_32 (PX7_fitting_5 n5) x1 x2 (x3 ||| ((1 : Int32) <<< (x4 &&& 31))) x4 V))))) := hs
      have hres : res = (if (V 2 0) ≤ x4 then (x3) else (if (MX7_looksLike x4 x1 x2 V) = 0 then (BX7_fitting_32 (BX7_fitting_5 n5) x1 x2 x3 x4 V) else (BX7_fitting_32 (BX7_fitting_5 n5) x1 x2 (x3 ||| ((1 : Int32) <<< (x4 &&& 31))) x4 V))) := hres
      refine lv_iload hx hb dX7_fitting_5 (lv_at hl 4 rfl) ?_
      refine lv_aload_n hx hb dX7_fitting_7 rfl (lv_at hl 0 rfl) ?_
      refine gh_get (v := .int (V 2 0)) (C := RX7) (T := TX7) (N := 5) hx hb hw inlX7 hown hT hP 2 (Nat.le_of_ble_eq_true rfl) kd2 rfl rfl 0 (by decide) (hw _ uw134) rfl dX7_fitting_8 ?_
      refine lv_icmp_ge (tgt := 38) hx hb dX7_fitting_11 (by decide) (fun c_1 => ?_) (fun c_1 => ?_)
      · have hres := hres.trans (if_pos c_1)
        refine lv_iload_n hx hb dX7_fitting_38 rfl (lv_at hl 3 rfl) ?_
        exact gh_iretR hx hb hr hlocks hP hS hT hres dX7_fitting_39
      have hres := hres.trans (if_neg c_1)
      have hs := hs c_1
      refine lv_aload_n hx hb dX7_fitting_14 rfl (lv_at hl 0 rfl) ?_
      refine lv_iload hx hb dX7_fitting_15 (lv_at hl 4 rfl) ?_
      refine lv_iload_n hx hb dX7_fitting_17 rfl (lv_at hl 1 rfl) ?_
      refine lv_iload_n hx hb dX7_fitting_18 rfl (lv_at hl 2 rfl) ?_
      obtain ⟨ho_2, hs⟩ := hs
      refine gh_kr (va_runV (As := [.int x4, .int x1, .int x2]) (rest := []) ⟨hx, hb, hml, hown, hw⟩ (cc_X7_looksLike l G V x4 x1 x2 ho_2) (cwV 3 hw gv_RX7_61 rfl rfl rfl dd_X7_looksLike ⟨Nat.le_of_ble_eq_true rfl, Nat.le_of_ble_eq_true rfl⟩) (gh_preV hT hP (Nat.le_of_ble_eq_true rfl) kd2 rfl rfl) rfl rfl hl.1 rfl (lv_room (Nat.le_of_ble_eq_true rfl)) dX7_fitting_19 ⟨Nat.zero_le _, Nat.zero_le _⟩) hS (fun H locs hP hS => ?_)
      refine lv_if_eq (tgt := 32) hx hb dX7_fitting_22 (by decide) (fun c_3 => ?_) (fun c_3 => ?_)
      · have hres := hres.trans (if_pos c_3)
        have hs := hs.1 c_3
        exact b_32 x1 x2 x3 x4 _ _ _ (lv_sub hl [0, 1, 2, 3, 4] rfl) hP hS hs hres
      have hres := hres.trans (if_neg c_3)
      have hs := hs.2 c_3
      refine lv_iload_n hx hb dX7_fitting_25 rfl (lv_at hl 3 rfl) ?_
      refine lv_iconst (v := 1) hx hb dX7_fitting_26 (by decide) ?_
      refine lv_iload hx hb dX7_fitting_27 (lv_at hl 4 rfl) ?_
      refine lv_ishl hx hb dX7_fitting_29 ?_
      refine lv_ior hx hb dX7_fitting_30 ?_
      refine lv_istore_n (lv' := [(3, .int (x3 ||| ((1 : Int32) <<< (x4 &&& 31)))), (0, .ref (gA G 2)), (1, .int x1), (2, .int x2), (4, .int x4)]) hx hb dX7_fitting_31 rfl hl (by decide) rfl (fun ls hl => ?_)
      exact b_32 x1 x2 (x3 ||| ((1 : Int32) <<< (x4 &&& 31))) x4 _ _ _ (lv_sub hl [1, 2, 3, 0, 4] rfl) hP hS hs hres
  refine lv_iconst (v := 0) hx hb dX7_fitting_0 (by decide) ?_
  refine lv_istore_n (lv' := [(3, .int (0 : Int32)), (0, .ref (gA G 2)), (1, .int a1), (2, .int a2)]) hx hb dX7_fitting_1 rfl hl (by decide) rfl (fun ls hl => ?_)
  refine lv_iconst (v := 0) hx hb dX7_fitting_2 (by decide) ?_
  refine lv_istore (lv' := [(4, .int (0 : Int32)), (3, .int (0 : Int32)), (0, .ref (gA G 2)), (1, .int a1), (2, .int a2)]) hx hb dX7_fitting_3 hl (by decide) rfl (fun ls hl => ?_)
  exact b_5 1000 a1 a2 (0 : Int32) (0 : Int32) _ _ _ (lv_sub hl [2, 3, 4, 1, 0] rfl) hP hS hs hres
theorem gv_RX7_65 : GoodIn wsL_law (wsV RX7 65 RX7 yX7_placesOf wc_X7_placesOf) := gh_gV uw623 uw389 uw390 uw31 uw391
def BX7_weightHaving_45  (K5 : Int32 → Int32 → Int32 → Int32 → gV → Int32) (x1 : Int32) (x2 : Int32) (x3 : Int32) (x4 : Int32) (V : gV) : Int32 := K5 x1 x2 x3 (x4 + (1 : Int32)) V
def PX7_weightHaving_45  (KP5 : Int32 → Int32 → Int32 → Int32 → gV → Prop) (x1 : Int32) (x2 : Int32) (x3 : Int32) (x4 : Int32) (V : gV) : Prop := (KP5 x1 x2 x3 (x4 + (1 : Int32)) V)
def BX7_weightHaving_5   : Nat → Int32 → Int32 → Int32 → Int32 → gV → Int32
  | 0, _, _, _, _, _ => 0
  | n + 1, x1, x2, x3, x4, V => if (V 2 0) ≤ x4 then (x3) else (if (MX8_holds x1 x4 V) = 0 then (BX7_weightHaving_45 (BX7_weightHaving_5 n) x1 x2 x3 x4 V) else (if (MX7_placesOf x4 x2 V) = 0 then (BX7_weightHaving_45 (BX7_weightHaving_5 n) x1 x2 x3 x4 V) else (BX7_weightHaving_45 (BX7_weightHaving_5 n) x1 x2 (x3 + (MX4_at 5 x4 V)) x4 V)))
def PX7_weightHaving_5   : Nat → Int32 → Int32 → Int32 → Int32 → gV → Prop
  | 0, _, _, _, _, _ => False
  | n + 1, x1, x2, x3, x4, V => ((¬ (V 2 0) ≤ x4 → (((MX8_holds x1 x4 V) = 0 → (PX7_weightHaving_45 (PX7_weightHaving_5 n) x1 x2 x3 x4 V)) ∧ (¬ (MX8_holds x1 x4 V) = 0 → (PX7_placesOf x4 x2 V) ∧ (((MX7_placesOf x4 x2 V) = 0 → (PX7_weightHaving_45 (PX7_weightHaving_5 n) x1 x2 x3 x4 V)) ∧ (¬ (MX7_placesOf x4 x2 V) = 0 → (PX7_weightHaving_45 (PX7_weightHaving_5 n) x1 x2 (x3 + (MX4_at 5 x4 V)) x4 V)))))))
def MX7_weightHaving  (a1 : Int32) (a2 : Int32) (V : gV) : Int32 := BX7_weightHaving_5 1000 a1 a2 (0 : Int32) (0 : Int32) V
def PX7_weightHaving  (a1 : Int32) (a2 : Int32) (V : gV) : Prop := (PX7_weightHaving_5 1000 a1 a2 (0 : Int32) (0 : Int32) V)
abbrev wc_X7_weightHaving : List Cond := Cond.code yX7_weightHaving cX7_weightHaving 5 (some .int) :: wsL_law
abbrev r_X7_weightHaving : Room := { frames := 3, cells := 0, slots := 0, locals := 68 }
theorem dd_X7_weightHaving : yX7_weightHaving.cls = RX7 ∧ yX7_weightHaving.cls ≠ "java/lang/invoke/MethodHandle" ∧ yX7_weightHaving.cls ≠ "java/lang/invoke/VarHandle" ∧ (parseMethodDescriptor yX7_weightHaving.desc).map (fun d => d.parameters.length) = some 2 := by decide +kernel
set_option maxHeartbeats 8000000 in
set_option maxRecDepth 100000 in
theorem cc_X7_weightHaving (l : Launch) (G : gG) (V : gV)   (a1 : Int32) (a2 : Int32) (hs : PX7_weightHaving a1 a2 V) : Met l yX7_weightHaving wc_X7_weightHaving r_X7_weightHaving (va_Pc [.ref (gA G 2), .int a1, .int a2] (gW G V)) (gQR G (MX7_weightHaving a1 a2 V) V) 0 0 (gF G) := by
  refine Met.ofW (cc := cX7_weightHaving) (maxL := 5) (ret := (some .int)) (by decide) rfl ?_
  intro p e s m args below meth c s₁ B hml hv
  obtain ⟨rfl, hP, hT⟩ := hv
  have hx := B.exec
  have hb := B.bytes
  have hr := B.returns
  have hw := gh_hw (atoms_spec (ws := wc_X7_weightHaving) B.pre)
  have hown : s.vm.findClass RX7 = some m.cls := findClass_of_methodNamed B.named
  have hlocks := B.notSynchronized
  have hS : va_S (gF G) s.heap s.heap [] := va_S.rf
  have hl := lv_entry ([.ref (gA G 2), .int a1, .int a2]) (n := 5) (Nat.le_of_ble_eq_true rfl)
  rw [lg_entry_eq]
  generalize (lg_sl ([.ref (gA G 2), .int a1, .int a2]) ++ List.replicate (5 - (lg_sl ([.ref (gA G 2), .int a1, .int a2])).length) Slot.unset).toArray = ls at hl ⊢
  have hl : lv_has ls 5 [(0, .ref (gA G 2)), (1, .int a1), (2, .int a2)] := hl
  obtain ⟨res, hres⟩ : ∃ r, r = MX7_weightHaving a1 a2 V := ⟨_, rfl⟩
  rw [← hres]
  show W p l e r_X7_weightHaving s m ([.ref (gA G 2), .int a1, .int a2] : List Value).toArray below meth c s.heap [] 0 0 (MQ below (gQR G res V) ([.ref (gA G 2), .int a1, .int a2] : List Value).toArray s 0 0 (gF G)) (F0 m 0 ls [])
  have hs : (PX7_weightHaving_5 1000 a1 a2 (0 : Int32) (0 : Int32) V) := hs
  have hres : res = (BX7_weightHaving_5 1000 a1 a2 (0 : Int32) (0 : Int32) V) := hres
  have b_5 : ∀ (n : Nat) (x1 : Int32) (x2 : Int32) (x3 : Int32) (x4 : Int32) (H : Heap) (locs : List Loc) (ls : Array Slot), lv_has ls 5 [(0, .ref (gA G 2)), (1, .int x1), (2, .int x2), (3, .int x3), (4, .int x4)] → va_P (gD G) vwCl (gL G V) H → va_S (gF G) s.heap H locs → PX7_weightHaving_5  n x1 x2 x3 x4 V → res = BX7_weightHaving_5  n x1 x2 x3 x4 V → W p l e r_X7_weightHaving s m ([.ref (gA G 2), .int a1, .int a2] : List Value).toArray below meth c H locs 0 0 (MQ below (gQR G res V) ([.ref (gA G 2), .int a1, .int a2] : List Value).toArray s 0 0 (gF G)) (F0 m 5 ls []) := by
    intro n
    induction n with
    | zero =>
      intro x1 x2 x3 x4 H locs ls hl hP hS hs hres
      exact (show False from hs).elim
    | succ n5 ih5 =>
      have b_45 : ∀ (x1 : Int32) (x2 : Int32) (x3 : Int32) (x4 : Int32) (H : Heap) (locs : List Loc) (ls : Array Slot), lv_has ls 5 [(0, .ref (gA G 2)), (1, .int x1), (2, .int x2), (3, .int x3), (4, .int x4)] → va_P (gD G) vwCl (gL G V) H → va_S (gF G) s.heap H locs → PX7_weightHaving_45 (PX7_weightHaving_5 n5) x1 x2 x3 x4 V → res = BX7_weightHaving_45 (BX7_weightHaving_5 n5) x1 x2 x3 x4 V → W p l e r_X7_weightHaving s m ([.ref (gA G 2), .int a1, .int a2] : List Value).toArray below meth c H locs 0 0 (MQ below (gQR G res V) ([.ref (gA G 2), .int a1, .int a2] : List Value).toArray s 0 0 (gF G)) (F0 m 45 ls []) := by
        intro x1 x2 x3 x4 H locs ls hl hP hS hs hres
        have hs : ((PX7_weightHaving_5 n5) x1 x2 x3 (x4 + (1 : Int32)) V) := hs
        have hres : res = ((BX7_weightHaving_5 n5) x1 x2 x3 (x4 + (1 : Int32)) V) := hres
        refine lv_iinc (v := (x4 + (1 : Int32))) (lv' := [(4, .int (x4 + (1 : Int32))), (0, .ref (gA G 2)), (1, .int x1), (2, .int x2), (3, .int x3)]) hx hb dX7_weightHaving_45 hl (k := 4) rfl rfl (by decide) rfl (fun ls hl => ?_)
        refine lv_goto (tgt := 5) hx hb dX7_weightHaving_48 (by decide) ?_
        exact ih5 x1 x2 x3 (x4 + (1 : Int32)) _ _ _ (lv_sub hl [1, 2, 3, 4, 0] rfl) hP hS hs hres
      intro x1 x2 x3 x4 H locs ls hl hP hS hs hres
      have hs : ((¬ (V 2 0) ≤ x4 → (((MX8_holds x1 x4 V) = 0 → (PX7_weightHaving_45 (PX7_weightHaving_5 n5) x1 x2 x3 x4 V)) ∧ (¬ (MX8_holds x1 x4 V) = 0 → (PX7_placesOf x4 x2 V) ∧ (((MX7_placesOf x4 x2 V) = 0 → (PX7_weightHaving_45 (PX7_weightHaving_5 n5) x1 x2 x3 x4 V)) ∧ (¬ (MX7_placesOf x4 x2 V) = 0 → (PX7_weightHaving_45 (PX7_weightHaving_5 n5) x1 x2 (x3 + (MX4_at 5 x4 V)) x4 V))))))) := hs
      have hres : res = (if (V 2 0) ≤ x4 then (x3) else (if (MX8_holds x1 x4 V) = 0 then (BX7_weightHaving_45 (BX7_weightHaving_5 n5) x1 x2 x3 x4 V) else (if (MX7_placesOf x4 x2 V) = 0 then (BX7_weightHaving_45 (BX7_weightHaving_5 n5) x1 x2 x3 x4 V) else (BX7_weightHaving_45 (BX7_weightHaving_5 n5) x1 x2 (x3 + (MX4_at 5 x4 V)) x4 V)))) := hres
      refine lv_iload hx hb dX7_weightHaving_5 (lv_at hl 4 rfl) ?_
      refine lv_aload_n hx hb dX7_weightHaving_7 rfl (lv_at hl 0 rfl) ?_
      refine gh_get (v := .int (V 2 0)) (C := RX7) (T := TX7) (N := 5) hx hb hw inlX7 hown hT hP 2 (Nat.le_of_ble_eq_true rfl) kd2 rfl rfl 0 (by decide) (hw _ uw134) rfl dX7_weightHaving_8 ?_
      refine lv_icmp_ge (tgt := 51) hx hb dX7_weightHaving_11 (by decide) (fun c_1 => ?_) (fun c_1 => ?_)
      · have hres := hres.trans (if_pos c_1)
        refine lv_iload_n hx hb dX7_weightHaving_51 rfl (lv_at hl 3 rfl) ?_
        exact gh_iretR hx hb hr hlocks hP hS hT hres dX7_weightHaving_52
      have hres := hres.trans (if_neg c_1)
      have hs := hs c_1
      refine lv_iload_n hx hb dX7_weightHaving_14 rfl (lv_at hl 1 rfl) ?_
      refine lv_iload hx hb dX7_weightHaving_15 (lv_at hl 4 rfl) ?_
      refine gh_kr (va_runSN (As := [.int x1, .int x4]) (rest := []) ⟨hx, hb, hml, hown, hw⟩ (cc_X8_holds l G V x1 x4) ⟨va_cnB 2 hw (gh_g1 uw336) rfl rfl rfl hT.2.2.2.1 (hw _ uw2) dd_X8_holds.2 ⟨Nat.le_of_ble_eq_true rfl, Nat.le_of_ble_eq_true rfl⟩, hw _ uw335, trivial⟩ (gh_pre hT hP) rfl rfl hl.1 rfl (lv_room (Nat.le_of_ble_eq_true rfl)) dX7_weightHaving_17 ⟨Nat.zero_le _, Nat.zero_le _⟩) hS (fun H locs hP hS => ?_)
      refine lv_if_eq (tgt := 45) hx hb dX7_weightHaving_20 (by decide) (fun c_2 => ?_) (fun c_2 => ?_)
      · have hres := hres.trans (if_pos c_2)
        have hs := hs.1 c_2
        exact b_45 x1 x2 x3 x4 _ _ _ (lv_sub hl [0, 1, 2, 3, 4] rfl) hP hS hs hres
      have hres := hres.trans (if_neg c_2)
      have hs := hs.2 c_2
      refine lv_aload_n hx hb dX7_weightHaving_23 rfl (lv_at hl 0 rfl) ?_
      refine lv_iload hx hb dX7_weightHaving_24 (lv_at hl 4 rfl) ?_
      refine lv_iload_n hx hb dX7_weightHaving_26 rfl (lv_at hl 2 rfl) ?_
      obtain ⟨ho_3, hs⟩ := hs
      refine gh_kr (va_runV (As := [.int x4, .int x2]) (rest := []) ⟨hx, hb, hml, hown, hw⟩ (cc_X7_placesOf l G V x4 x2 ho_3) (cwV 2 hw gv_RX7_65 rfl rfl rfl dd_X7_placesOf ⟨Nat.le_of_ble_eq_true rfl, Nat.le_of_ble_eq_true rfl⟩) (gh_preV hT hP (Nat.le_of_ble_eq_true rfl) kd2 rfl rfl) rfl rfl hl.1 rfl (lv_room (Nat.le_of_ble_eq_true rfl)) dX7_weightHaving_27 ⟨Nat.zero_le _, Nat.zero_le _⟩) hS (fun H locs hP hS => ?_)
      refine lv_if_eq (tgt := 45) hx hb dX7_weightHaving_30 (by decide) (fun c_4 => ?_) (fun c_4 => ?_)
      · have hres := hres.trans (if_pos c_4)
        have hs := hs.1 c_4
        exact b_45 x1 x2 x3 x4 _ _ _ (lv_sub hl [0, 1, 2, 3, 4] rfl) hP hS hs hres
      have hres := hres.trans (if_neg c_4)
      have hs := hs.2 c_4
      refine lv_iload_n hx hb dX7_weightHaving_33 rfl (lv_at hl 3 rfl) ?_
      refine lv_aload_n hx hb dX7_weightHaving_34 rfl (lv_at hl 0 rfl) ?_
      refine gh_get (v := .ref (gA G 5)) (C := RX7) (T := TX7) (N := 5) hx hb hw inlX7 hown hT hP 2 (Nat.le_of_ble_eq_true rfl) kd2 rfl rfl 2 (by decide) (hw _ uw57) rfl dX7_weightHaving_35 ?_
      refine lv_iload hx hb dX7_weightHaving_38 (lv_at hl 4 rfl) ?_
      refine gh_kr (va_runV (As := [.int x4]) (rest := [.int x3]) ⟨hx, hb, hml, hown, hw⟩ (cc_X4_at l G V 5 gi5 x4) (cwV 1 hw gv_RX7_37 rfl rfl rfl dd_X4_at ⟨Nat.le_of_ble_eq_true rfl, Nat.le_of_ble_eq_true rfl⟩) (gh_preV hT hP (Nat.le_of_ble_eq_true rfl) kd5 rfl rfl) rfl rfl hl.1 rfl (lv_room (Nat.le_of_ble_eq_true rfl)) dX7_weightHaving_40 ⟨Nat.zero_le _, Nat.zero_le _⟩) hS (fun H locs hP hS => ?_)
      refine lv_iadd hx hb dX7_weightHaving_43 ?_
      refine lv_istore_n (lv' := [(3, .int (x3 + (MX4_at 5 x4 V))), (0, .ref (gA G 2)), (1, .int x1), (2, .int x2), (4, .int x4)]) hx hb dX7_weightHaving_44 rfl hl (by decide) rfl (fun ls hl => ?_)
      exact b_45 x1 x2 (x3 + (MX4_at 5 x4 V)) x4 _ _ _ (lv_sub hl [1, 2, 3, 0, 4] rfl) hP hS hs hres
  refine lv_iconst (v := 0) hx hb dX7_weightHaving_0 (by decide) ?_
  refine lv_istore_n (lv' := [(3, .int (0 : Int32)), (0, .ref (gA G 2)), (1, .int a1), (2, .int a2)]) hx hb dX7_weightHaving_1 rfl hl (by decide) rfl (fun ls hl => ?_)
  refine lv_iconst (v := 0) hx hb dX7_weightHaving_2 (by decide) ?_
  refine lv_istore (lv' := [(4, .int (0 : Int32)), (3, .int (0 : Int32)), (0, .ref (gA G 2)), (1, .int a1), (2, .int a2)]) hx hb dX7_weightHaving_3 hl (by decide) rfl (fun ls hl => ?_)
  exact b_5 1000 a1 a2 (0 : Int32) (0 : Int32) _ _ _ (lv_sub hl [2, 3, 4, 1, 0] rfl) hP hS hs hres
def BX7_groupOf_47  (K14 : Int32 → Int32 → Int32 → Int32 → Int32 → gV → Int32) (x1 : Int32) (x2 : Int32) (x4 : Int32) (x5 : Int32) (x6 : Int32) (V : gV) : Int32 := K14 x1 x2 x4 x5 (x6 + (1 : Int32)) V
def PX7_groupOf_47  (KP14 : Int32 → Int32 → Int32 → Int32 → Int32 → gV → Prop) (x1 : Int32) (x2 : Int32) (x4 : Int32) (x5 : Int32) (x6 : Int32) (V : gV) : Prop := (KP14 x1 x2 x4 x5 (x6 + (1 : Int32)) V)
def BX7_groupOf_14   : Nat → Int32 → Int32 → Int32 → Int32 → Int32 → gV → Int32
  | 0, _, _, _, _, _, _ => 0
  | n + 1, x1, x2, x4, x5, x6, V => if (V 2 0) ≤ x6 then (x5) else (if (MX8_holds x1 x6 V) = 0 then (BX7_groupOf_47 (BX7_groupOf_14 n) x1 x2 x4 x5 x6 V) else (if (MX7_placesOf x6 x2 V) = x4 then (BX7_groupOf_47 (BX7_groupOf_14 n) x1 x2 x4 (x5 + (1 : Int32)) x6 V) else (BX7_groupOf_47 (BX7_groupOf_14 n) x1 x2 x4 x5 x6 V)))
def PX7_groupOf_14   : Nat → Int32 → Int32 → Int32 → Int32 → Int32 → gV → Prop
  | 0, _, _, _, _, _, _ => False
  | n + 1, x1, x2, x4, x5, x6, V => ((¬ (V 2 0) ≤ x6 → (((MX8_holds x1 x6 V) = 0 → (PX7_groupOf_47 (PX7_groupOf_14 n) x1 x2 x4 x5 x6 V)) ∧ (¬ (MX8_holds x1 x6 V) = 0 → (PX7_placesOf x6 x2 V) ∧ (((MX7_placesOf x6 x2 V) = x4 → (PX7_groupOf_47 (PX7_groupOf_14 n) x1 x2 x4 (x5 + (1 : Int32)) x6 V)) ∧ (¬ (MX7_placesOf x6 x2 V) = x4 → (PX7_groupOf_47 (PX7_groupOf_14 n) x1 x2 x4 x5 x6 V)))))))
def MX7_groupOf  (a1 : Int32) (a2 : Int32) (a3 : Int32) (V : gV) : Int32 := BX7_groupOf_14 1000 a1 a2 (MX7_placesOf a3 a2 V) (0 : Int32) (0 : Int32) V
def PX7_groupOf  (a1 : Int32) (a2 : Int32) (a3 : Int32) (V : gV) : Prop := (PX7_placesOf a3 a2 V) ∧ (PX7_groupOf_14 1000 a1 a2 (MX7_placesOf a3 a2 V) (0 : Int32) (0 : Int32) V)
abbrev wc_X7_groupOf : List Cond := Cond.code yX7_groupOf cX7_groupOf 7 (some .int) :: wsL_law
abbrev r_X7_groupOf : Room := { frames := 3, cells := 0, slots := 0, locals := 68 }
theorem dd_X7_groupOf : yX7_groupOf.cls = RX7 ∧ yX7_groupOf.cls ≠ "java/lang/invoke/MethodHandle" ∧ yX7_groupOf.cls ≠ "java/lang/invoke/VarHandle" ∧ (parseMethodDescriptor yX7_groupOf.desc).map (fun d => d.parameters.length) = some 3 := by decide +kernel
set_option maxHeartbeats 8000000 in
set_option maxRecDepth 100000 in
theorem cc_X7_groupOf (l : Launch) (G : gG) (V : gV)   (a1 : Int32) (a2 : Int32) (a3 : Int32) (hs : PX7_groupOf a1 a2 a3 V) : Met l yX7_groupOf wc_X7_groupOf r_X7_groupOf (va_Pc [.ref (gA G 2), .int a1, .int a2, .int a3] (gW G V)) (gQR G (MX7_groupOf a1 a2 a3 V) V) 0 0 (gF G) := by
  refine Met.ofW (cc := cX7_groupOf) (maxL := 7) (ret := (some .int)) (by decide) rfl ?_
  intro p e s m args below meth c s₁ B hml hv
  obtain ⟨rfl, hP, hT⟩ := hv
  have hx := B.exec
  have hb := B.bytes
  have hr := B.returns
  have hw := gh_hw (atoms_spec (ws := wc_X7_groupOf) B.pre)
  have hown : s.vm.findClass RX7 = some m.cls := findClass_of_methodNamed B.named
  have hlocks := B.notSynchronized
  have hS : va_S (gF G) s.heap s.heap [] := va_S.rf
  have hl := lv_entry ([.ref (gA G 2), .int a1, .int a2, .int a3]) (n := 7) (Nat.le_of_ble_eq_true rfl)
  rw [lg_entry_eq]
  generalize (lg_sl ([.ref (gA G 2), .int a1, .int a2, .int a3]) ++ List.replicate (7 - (lg_sl ([.ref (gA G 2), .int a1, .int a2, .int a3])).length) Slot.unset).toArray = ls at hl ⊢
  have hl : lv_has ls 7 [(0, .ref (gA G 2)), (1, .int a1), (2, .int a2), (3, .int a3)] := hl
  obtain ⟨res, hres⟩ : ∃ r, r = MX7_groupOf a1 a2 a3 V := ⟨_, rfl⟩
  rw [← hres]
  show W p l e r_X7_groupOf s m ([.ref (gA G 2), .int a1, .int a2, .int a3] : List Value).toArray below meth c s.heap [] 0 0 (MQ below (gQR G res V) ([.ref (gA G 2), .int a1, .int a2, .int a3] : List Value).toArray s 0 0 (gF G)) (F0 m 0 ls [])
  have hs : (PX7_placesOf a3 a2 V) ∧ (PX7_groupOf_14 1000 a1 a2 (MX7_placesOf a3 a2 V) (0 : Int32) (0 : Int32) V) := hs
  have hres : res = (BX7_groupOf_14 1000 a1 a2 (MX7_placesOf a3 a2 V) (0 : Int32) (0 : Int32) V) := hres
  have b_14 : ∀ (n : Nat) (x1 : Int32) (x2 : Int32) (x4 : Int32) (x5 : Int32) (x6 : Int32) (H : Heap) (locs : List Loc) (ls : Array Slot), lv_has ls 7 [(0, .ref (gA G 2)), (1, .int x1), (2, .int x2), (4, .int x4), (5, .int x5), (6, .int x6)] → va_P (gD G) vwCl (gL G V) H → va_S (gF G) s.heap H locs → PX7_groupOf_14  n x1 x2 x4 x5 x6 V → res = BX7_groupOf_14  n x1 x2 x4 x5 x6 V → W p l e r_X7_groupOf s m ([.ref (gA G 2), .int a1, .int a2, .int a3] : List Value).toArray below meth c H locs 0 0 (MQ below (gQR G res V) ([.ref (gA G 2), .int a1, .int a2, .int a3] : List Value).toArray s 0 0 (gF G)) (F0 m 14 ls []) := by
    intro n
    induction n with
    | zero =>
      intro x1 x2 x4 x5 x6 H locs ls hl hP hS hs hres
      exact (show False from hs).elim
    | succ n14 ih14 =>
      have b_47 : ∀ (x1 : Int32) (x2 : Int32) (x4 : Int32) (x5 : Int32) (x6 : Int32) (H : Heap) (locs : List Loc) (ls : Array Slot), lv_has ls 7 [(0, .ref (gA G 2)), (1, .int x1), (2, .int x2), (4, .int x4), (5, .int x5), (6, .int x6)] → va_P (gD G) vwCl (gL G V) H → va_S (gF G) s.heap H locs → PX7_groupOf_47 (PX7_groupOf_14 n14) x1 x2 x4 x5 x6 V → res = BX7_groupOf_47 (BX7_groupOf_14 n14) x1 x2 x4 x5 x6 V → W p l e r_X7_groupOf s m ([.ref (gA G 2), .int a1, .int a2, .int a3] : List Value).toArray below meth c H locs 0 0 (MQ below (gQR G res V) ([.ref (gA G 2), .int a1, .int a2, .int a3] : List Value).toArray s 0 0 (gF G)) (F0 m 47 ls []) := by
        intro x1 x2 x4 x5 x6 H locs ls hl hP hS hs hres
        have hs : ((PX7_groupOf_14 n14) x1 x2 x4 x5 (x6 + (1 : Int32)) V) := hs
        have hres : res = ((BX7_groupOf_14 n14) x1 x2 x4 x5 (x6 + (1 : Int32)) V) := hres
        refine lv_iinc (v := (x6 + (1 : Int32))) (lv' := [(6, .int (x6 + (1 : Int32))), (0, .ref (gA G 2)), (1, .int x1), (2, .int x2), (4, .int x4), (5, .int x5)]) hx hb dX7_groupOf_47 hl (k := 5) rfl rfl (by decide) rfl (fun ls hl => ?_)
        refine lv_goto (tgt := 14) hx hb dX7_groupOf_50 (by decide) ?_
        exact ih14 x1 x2 x4 x5 (x6 + (1 : Int32)) _ _ _ (lv_sub hl [1, 2, 3, 4, 5, 0] rfl) hP hS hs hres
      intro x1 x2 x4 x5 x6 H locs ls hl hP hS hs hres
      have hs : ((¬ (V 2 0) ≤ x6 → (((MX8_holds x1 x6 V) = 0 → (PX7_groupOf_47 (PX7_groupOf_14 n14) x1 x2 x4 x5 x6 V)) ∧ (¬ (MX8_holds x1 x6 V) = 0 → (PX7_placesOf x6 x2 V) ∧ (((MX7_placesOf x6 x2 V) = x4 → (PX7_groupOf_47 (PX7_groupOf_14 n14) x1 x2 x4 (x5 + (1 : Int32)) x6 V)) ∧ (¬ (MX7_placesOf x6 x2 V) = x4 → (PX7_groupOf_47 (PX7_groupOf_14 n14) x1 x2 x4 x5 x6 V))))))) := hs
      have hres : res = (if (V 2 0) ≤ x6 then (x5) else (if (MX8_holds x1 x6 V) = 0 then (BX7_groupOf_47 (BX7_groupOf_14 n14) x1 x2 x4 x5 x6 V) else (if (MX7_placesOf x6 x2 V) = x4 then (BX7_groupOf_47 (BX7_groupOf_14 n14) x1 x2 x4 (x5 + (1 : Int32)) x6 V) else (BX7_groupOf_47 (BX7_groupOf_14 n14) x1 x2 x4 x5 x6 V)))) := hres
      refine lv_iload hx hb dX7_groupOf_14 (lv_at hl 5 rfl) ?_
      refine lv_aload_n hx hb dX7_groupOf_16 rfl (lv_at hl 0 rfl) ?_
      refine gh_get (v := .int (V 2 0)) (C := RX7) (T := TX7) (N := 5) hx hb hw inlX7 hown hT hP 2 (Nat.le_of_ble_eq_true rfl) kd2 rfl rfl 0 (by decide) (hw _ uw134) rfl dX7_groupOf_17 ?_
      refine lv_icmp_ge (tgt := 53) hx hb dX7_groupOf_20 (by decide) (fun c_2 => ?_) (fun c_2 => ?_)
      · have hres := hres.trans (if_pos c_2)
        refine lv_iload hx hb dX7_groupOf_53 (lv_at hl 4 rfl) ?_
        exact gh_iretR hx hb hr hlocks hP hS hT hres dX7_groupOf_55
      have hres := hres.trans (if_neg c_2)
      have hs := hs c_2
      refine lv_iload_n hx hb dX7_groupOf_23 rfl (lv_at hl 1 rfl) ?_
      refine lv_iload hx hb dX7_groupOf_24 (lv_at hl 5 rfl) ?_
      refine gh_kr (va_runSN (As := [.int x1, .int x6]) (rest := []) ⟨hx, hb, hml, hown, hw⟩ (cc_X8_holds l G V x1 x6) ⟨va_cnB 2 hw (gh_g1 uw336) rfl rfl rfl hT.2.2.2.1 (hw _ uw2) dd_X8_holds.2 ⟨Nat.le_of_ble_eq_true rfl, Nat.le_of_ble_eq_true rfl⟩, hw _ uw335, trivial⟩ (gh_pre hT hP) rfl rfl hl.1 rfl (lv_room (Nat.le_of_ble_eq_true rfl)) dX7_groupOf_26 ⟨Nat.zero_le _, Nat.zero_le _⟩) hS (fun H locs hP hS => ?_)
      refine lv_if_eq (tgt := 47) hx hb dX7_groupOf_29 (by decide) (fun c_3 => ?_) (fun c_3 => ?_)
      · have hres := hres.trans (if_pos c_3)
        have hs := hs.1 c_3
        exact b_47 x1 x2 x4 x5 x6 _ _ _ (lv_sub hl [0, 1, 2, 3, 4, 5] rfl) hP hS hs hres
      have hres := hres.trans (if_neg c_3)
      have hs := hs.2 c_3
      refine lv_aload_n hx hb dX7_groupOf_32 rfl (lv_at hl 0 rfl) ?_
      refine lv_iload hx hb dX7_groupOf_33 (lv_at hl 5 rfl) ?_
      refine lv_iload_n hx hb dX7_groupOf_35 rfl (lv_at hl 2 rfl) ?_
      obtain ⟨ho_4, hs⟩ := hs
      refine gh_kr (va_runV (As := [.int x6, .int x2]) (rest := []) ⟨hx, hb, hml, hown, hw⟩ (cc_X7_placesOf l G V x6 x2 ho_4) (cwV 2 hw gv_RX7_65 rfl rfl rfl dd_X7_placesOf ⟨Nat.le_of_ble_eq_true rfl, Nat.le_of_ble_eq_true rfl⟩) (gh_preV hT hP (Nat.le_of_ble_eq_true rfl) kd2 rfl rfl) rfl rfl hl.1 rfl (lv_room (Nat.le_of_ble_eq_true rfl)) dX7_groupOf_36 ⟨Nat.zero_le _, Nat.zero_le _⟩) hS (fun H locs hP hS => ?_)
      refine lv_iload hx hb dX7_groupOf_39 (lv_at hl 3 rfl) ?_
      refine lv_icmp_ne (tgt := 47) hx hb dX7_groupOf_41 (by decide) (fun c_5 => ?_) (fun c_5 => ?_)
      · have hres := hres.trans (if_neg c_5)
        have hs := hs.2 c_5
        exact b_47 x1 x2 x4 x5 x6 _ _ _ (lv_sub hl [0, 1, 2, 3, 4, 5] rfl) hP hS hs hres
      have hres := hres.trans (if_pos c_5)
      have hs := hs.1 c_5
      refine lv_iinc (v := (x5 + (1 : Int32))) (lv' := [(5, .int (x5 + (1 : Int32))), (0, .ref (gA G 2)), (1, .int x1), (2, .int x2), (4, .int x4), (6, .int x6)]) hx hb dX7_groupOf_44 hl (k := 4) rfl rfl (by decide) rfl (fun ls hl => ?_)
      exact b_47 x1 x2 x4 (x5 + (1 : Int32)) x6 _ _ _ (lv_sub hl [1, 2, 3, 4, 0, 5] rfl) hP hS hs hres
  refine lv_aload_n hx hb dX7_groupOf_0 rfl (lv_at hl 0 rfl) ?_
  refine lv_iload_n hx hb dX7_groupOf_1 rfl (lv_at hl 3 rfl) ?_
  refine lv_iload_n hx hb dX7_groupOf_2 rfl (lv_at hl 2 rfl) ?_
  obtain ⟨ho_1, hs⟩ := hs
  refine gh_kr (va_runV (As := [.int a3, .int a2]) (rest := []) ⟨hx, hb, hml, hown, hw⟩ (cc_X7_placesOf l G V a3 a2 ho_1) (cwV 2 hw gv_RX7_65 rfl rfl rfl dd_X7_placesOf ⟨Nat.le_of_ble_eq_true rfl, Nat.le_of_ble_eq_true rfl⟩) (gh_preV hT hP (Nat.le_of_ble_eq_true rfl) kd2 rfl rfl) rfl rfl hl.1 rfl (lv_room (Nat.le_of_ble_eq_true rfl)) dX7_groupOf_3 ⟨Nat.zero_le _, Nat.zero_le _⟩) hS (fun H locs hP hS => ?_)
  refine lv_istore (lv' := [(4, .int (MX7_placesOf a3 a2 V)), (0, .ref (gA G 2)), (1, .int a1), (2, .int a2), (3, .int a3)]) hx hb dX7_groupOf_6 hl (by decide) rfl (fun ls hl => ?_)
  refine lv_iconst (v := 0) hx hb dX7_groupOf_8 (by decide) ?_
  refine lv_istore (lv' := [(5, .int (0 : Int32)), (4, .int (MX7_placesOf a3 a2 V)), (0, .ref (gA G 2)), (1, .int a1), (2, .int a2), (3, .int a3)]) hx hb dX7_groupOf_9 hl (by decide) rfl (fun ls hl => ?_)
  refine lv_iconst (v := 0) hx hb dX7_groupOf_11 (by decide) ?_
  refine lv_istore (lv' := [(6, .int (0 : Int32)), (5, .int (0 : Int32)), (4, .int (MX7_placesOf a3 a2 V)), (0, .ref (gA G 2)), (1, .int a1), (2, .int a2), (3, .int a3)]) hx hb dX7_groupOf_12 hl (by decide) rfl (fun ls hl => ?_)
  exact b_14 1000 a1 a2 (MX7_placesOf a3 a2 V) (0 : Int32) (0 : Int32) _ _ _ (lv_sub hl [3, 4, 5, 2, 1, 0] rfl) hP hS hs hres
theorem gv_RX7_68 : GoodIn wsL_law (wsV RX7 68 RX7 yX7_groupOf wc_X7_groupOf) := gh_gV uw657 uw658 uw659 uw31 uw660
def BX7_largestGroup_36  (K5 : Int32 → Int32 → Int32 → Int32 → gV → Int32) (x1 : Int32) (x2 : Int32) (x3 : Int32) (x4 : Int32) (V : gV) : Int32 := K5 x1 x2 x3 (x4 + (1 : Int32)) V
def PX7_largestGroup_36  (KP5 : Int32 → Int32 → Int32 → Int32 → gV → Prop) (x1 : Int32) (x2 : Int32) (x3 : Int32) (x4 : Int32) (V : gV) : Prop := (KP5 x1 x2 x3 (x4 + (1 : Int32)) V)
def BX7_largestGroup_5   : Nat → Int32 → Int32 → Int32 → Int32 → gV → Int32
  | 0, _, _, _, _, _ => 0
  | n + 1, x1, x2, x3, x4, V => if (V 2 0) ≤ x4 then (x3) else (if (MX8_holds x1 x4 V) = 0 then (BX7_largestGroup_36 (BX7_largestGroup_5 n) x1 x2 x3 x4 V) else (BX7_largestGroup_36 (BX7_largestGroup_5 n) x1 x2 (if x3 < (MX7_groupOf x1 x2 x4 V) then (MX7_groupOf x1 x2 x4 V) else x3) x4 V))
def PX7_largestGroup_5   : Nat → Int32 → Int32 → Int32 → Int32 → gV → Prop
  | 0, _, _, _, _, _ => False
  | n + 1, x1, x2, x3, x4, V => ((¬ (V 2 0) ≤ x4 → (((MX8_holds x1 x4 V) = 0 → (PX7_largestGroup_36 (PX7_largestGroup_5 n) x1 x2 x3 x4 V)) ∧ (¬ (MX8_holds x1 x4 V) = 0 → (PX7_groupOf x1 x2 x4 V) ∧ (PX7_largestGroup_36 (PX7_largestGroup_5 n) x1 x2 (if x3 < (MX7_groupOf x1 x2 x4 V) then (MX7_groupOf x1 x2 x4 V) else x3) x4 V)))))
def MX7_largestGroup  (a1 : Int32) (a2 : Int32) (V : gV) : Int32 := BX7_largestGroup_5 1000 a1 a2 (0 : Int32) (0 : Int32) V
def PX7_largestGroup  (a1 : Int32) (a2 : Int32) (V : gV) : Prop := (PX7_largestGroup_5 1000 a1 a2 (0 : Int32) (0 : Int32) V)
abbrev wc_X7_largestGroup : List Cond := Cond.code yX7_largestGroup cX7_largestGroup 5 (some .int) :: wsL_law
abbrev r_X7_largestGroup : Room := { frames := 4, cells := 0, slots := 0, locals := 94 }
theorem dd_X7_largestGroup : yX7_largestGroup.cls = RX7 ∧ yX7_largestGroup.cls ≠ "java/lang/invoke/MethodHandle" ∧ yX7_largestGroup.cls ≠ "java/lang/invoke/VarHandle" ∧ (parseMethodDescriptor yX7_largestGroup.desc).map (fun d => d.parameters.length) = some 2 := by decide +kernel
set_option maxHeartbeats 8000000 in
set_option maxRecDepth 100000 in
theorem cc_X7_largestGroup (l : Launch) (G : gG) (V : gV)   (a1 : Int32) (a2 : Int32) (hs : PX7_largestGroup a1 a2 V) : Met l yX7_largestGroup wc_X7_largestGroup r_X7_largestGroup (va_Pc [.ref (gA G 2), .int a1, .int a2] (gW G V)) (gQR G (MX7_largestGroup a1 a2 V) V) 0 0 (gF G) := by
  refine Met.ofW (cc := cX7_largestGroup) (maxL := 5) (ret := (some .int)) (by decide) rfl ?_
  intro p e s m args below meth c s₁ B hml hv
  obtain ⟨rfl, hP, hT⟩ := hv
  have hx := B.exec
  have hb := B.bytes
  have hr := B.returns
  have hw := gh_hw (atoms_spec (ws := wc_X7_largestGroup) B.pre)
  have hown : s.vm.findClass RX7 = some m.cls := findClass_of_methodNamed B.named
  have hlocks := B.notSynchronized
  have hS : va_S (gF G) s.heap s.heap [] := va_S.rf
  have hl := lv_entry ([.ref (gA G 2), .int a1, .int a2]) (n := 5) (Nat.le_of_ble_eq_true rfl)
  rw [lg_entry_eq]
  generalize (lg_sl ([.ref (gA G 2), .int a1, .int a2]) ++ List.replicate (5 - (lg_sl ([.ref (gA G 2), .int a1, .int a2])).length) Slot.unset).toArray = ls at hl ⊢
  have hl : lv_has ls 5 [(0, .ref (gA G 2)), (1, .int a1), (2, .int a2)] := hl
  obtain ⟨res, hres⟩ : ∃ r, r = MX7_largestGroup a1 a2 V := ⟨_, rfl⟩
  rw [← hres]
  show W p l e r_X7_largestGroup s m ([.ref (gA G 2), .int a1, .int a2] : List Value).toArray below meth c s.heap [] 0 0 (MQ below (gQR G res V) ([.ref (gA G 2), .int a1, .int a2] : List Value).toArray s 0 0 (gF G)) (F0 m 0 ls [])
  have hs : (PX7_largestGroup_5 1000 a1 a2 (0 : Int32) (0 : Int32) V) := hs
  have hres : res = (BX7_largestGroup_5 1000 a1 a2 (0 : Int32) (0 : Int32) V) := hres
  have b_5 : ∀ (n : Nat) (x1 : Int32) (x2 : Int32) (x3 : Int32) (x4 : Int32) (H : Heap) (locs : List Loc) (ls : Array Slot), lv_has ls 5 [(0, .ref (gA G 2)), (1, .int x1), (2, .int x2), (3, .int x3), (4, .int x4)] → va_P (gD G) vwCl (gL G V) H → va_S (gF G) s.heap H locs → PX7_largestGroup_5  n x1 x2 x3 x4 V → res = BX7_largestGroup_5  n x1 x2 x3 x4 V → W p l e r_X7_largestGroup s m ([.ref (gA G 2), .int a1, .int a2] : List Value).toArray below meth c H locs 0 0 (MQ below (gQR G res V) ([.ref (gA G 2), .int a1, .int a2] : List Value).toArray s 0 0 (gF G)) (F0 m 5 ls []) := by
    intro n
    induction n with
    | zero =>
      intro x1 x2 x3 x4 H locs ls hl hP hS hs hres
      exact (show False from hs).elim
    | succ n5 ih5 =>
      have b_36 : ∀ (x1 : Int32) (x2 : Int32) (x3 : Int32) (x4 : Int32) (H : Heap) (locs : List Loc) (ls : Array Slot), lv_has ls 5 [(0, .ref (gA G 2)), (1, .int x1), (2, .int x2), (3, .int x3), (4, .int x4)] → va_P (gD G) vwCl (gL G V) H → va_S (gF G) s.heap H locs → PX7_largestGroup_36 (PX7_largestGroup_5 n5) x1 x2 x3 x4 V → res = BX7_largestGroup_36 (BX7_largestGroup_5 n5) x1 x2 x3 x4 V → W p l e r_X7_largestGroup s m ([.ref (gA G 2), .int a1, .int a2] : List Value).toArray below meth c H locs 0 0 (MQ below (gQR G res V) ([.ref (gA G 2), .int a1, .int a2] : List Value).toArray s 0 0 (gF G)) (F0 m 36 ls []) := by
        intro x1 x2 x3 x4 H locs ls hl hP hS hs hres
        have hs : ((PX7_largestGroup_5 n5) x1 x2 x3 (x4 + (1 : Int32)) V) := hs
        have hres : res = ((BX7_largestGroup_5 n5) x1 x2 x3 (x4 + (1 : Int32)) V) := hres
        refine lv_iinc (v := (x4 + (1 : Int32))) (lv' := [(4, .int (x4 + (1 : Int32))), (0, .ref (gA G 2)), (1, .int x1), (2, .int x2), (3, .int x3)]) hx hb dX7_largestGroup_36 hl (k := 4) rfl rfl (by decide) rfl (fun ls hl => ?_)
        refine lv_goto (tgt := 5) hx hb dX7_largestGroup_39 (by decide) ?_
        exact ih5 x1 x2 x3 (x4 + (1 : Int32)) _ _ _ (lv_sub hl [1, 2, 3, 4, 0] rfl) hP hS hs hres
      intro x1 x2 x3 x4 H locs ls hl hP hS hs hres
      have hs : ((¬ (V 2 0) ≤ x4 → (((MX8_holds x1 x4 V) = 0 → (PX7_largestGroup_36 (PX7_largestGroup_5 n5) x1 x2 x3 x4 V)) ∧ (¬ (MX8_holds x1 x4 V) = 0 → (PX7_groupOf x1 x2 x4 V) ∧ (PX7_largestGroup_36 (PX7_largestGroup_5 n5) x1 x2 (if x3 < (MX7_groupOf x1 x2 x4 V) then (MX7_groupOf x1 x2 x4 V) else x3) x4 V))))) := hs
      have hres : res = (if (V 2 0) ≤ x4 then (x3) else (if (MX8_holds x1 x4 V) = 0 then (BX7_largestGroup_36 (BX7_largestGroup_5 n5) x1 x2 x3 x4 V) else (BX7_largestGroup_36 (BX7_largestGroup_5 n5) x1 x2 (if x3 < (MX7_groupOf x1 x2 x4 V) then (MX7_groupOf x1 x2 x4 V) else x3) x4 V))) := hres
      refine lv_iload hx hb dX7_largestGroup_5 (lv_at hl 4 rfl) ?_
      refine lv_aload_n hx hb dX7_largestGroup_7 rfl (lv_at hl 0 rfl) ?_
      refine gh_get (v := .int (V 2 0)) (C := RX7) (T := TX7) (N := 5) hx hb hw inlX7 hown hT hP 2 (Nat.le_of_ble_eq_true rfl) kd2 rfl rfl 0 (by decide) (hw _ uw134) rfl dX7_largestGroup_8 ?_
      refine lv_icmp_ge (tgt := 42) hx hb dX7_largestGroup_11 (by decide) (fun c_1 => ?_) (fun c_1 => ?_)
      · have hres := hres.trans (if_pos c_1)
        refine lv_iload_n hx hb dX7_largestGroup_42 rfl (lv_at hl 3 rfl) ?_
        exact gh_iretR hx hb hr hlocks hP hS hT hres dX7_largestGroup_43
      have hres := hres.trans (if_neg c_1)
      have hs := hs c_1
      refine lv_iload_n hx hb dX7_largestGroup_14 rfl (lv_at hl 1 rfl) ?_
      refine lv_iload hx hb dX7_largestGroup_15 (lv_at hl 4 rfl) ?_
      refine gh_kr (va_runSN (As := [.int x1, .int x4]) (rest := []) ⟨hx, hb, hml, hown, hw⟩ (cc_X8_holds l G V x1 x4) ⟨va_cnB 2 hw (gh_g1 uw336) rfl rfl rfl hT.2.2.2.1 (hw _ uw2) dd_X8_holds.2 ⟨Nat.le_of_ble_eq_true rfl, Nat.le_of_ble_eq_true rfl⟩, hw _ uw335, trivial⟩ (gh_pre hT hP) rfl rfl hl.1 rfl (lv_room (Nat.le_of_ble_eq_true rfl)) dX7_largestGroup_17 ⟨Nat.zero_le _, Nat.zero_le _⟩) hS (fun H locs hP hS => ?_)
      refine lv_if_eq (tgt := 36) hx hb dX7_largestGroup_20 (by decide) (fun c_2 => ?_) (fun c_2 => ?_)
      · have hres := hres.trans (if_pos c_2)
        have hs := hs.1 c_2
        exact b_36 x1 x2 x3 x4 _ _ _ (lv_sub hl [0, 1, 2, 3, 4] rfl) hP hS hs hres
      have hres := hres.trans (if_neg c_2)
      have hs := hs.2 c_2
      refine lv_iload_n hx hb dX7_largestGroup_23 rfl (lv_at hl 3 rfl) ?_
      refine lv_aload_n hx hb dX7_largestGroup_24 rfl (lv_at hl 0 rfl) ?_
      refine lv_iload_n hx hb dX7_largestGroup_25 rfl (lv_at hl 1 rfl) ?_
      refine lv_iload_n hx hb dX7_largestGroup_26 rfl (lv_at hl 2 rfl) ?_
      refine lv_iload hx hb dX7_largestGroup_27 (lv_at hl 4 rfl) ?_
      obtain ⟨ho_3, hs⟩ := hs
      refine gh_kr (va_runV (As := [.int x1, .int x2, .int x4]) (rest := [.int x3]) ⟨hx, hb, hml, hown, hw⟩ (cc_X7_groupOf l G V x1 x2 x4 ho_3) (cwV 3 hw gv_RX7_68 rfl rfl rfl dd_X7_groupOf ⟨Nat.le_of_ble_eq_true rfl, Nat.le_of_ble_eq_true rfl⟩) (gh_preV hT hP (Nat.le_of_ble_eq_true rfl) kd2 rfl rfl) rfl rfl hl.1 rfl (lv_room (Nat.le_of_ble_eq_true rfl)) dX7_largestGroup_29 ⟨Nat.zero_le _, Nat.zero_le _⟩) hS (fun H locs hP hS => ?_)
      refine va_mmax hx hb (hml.trans hl.1.symm) hown (hw _ uw656) (hw _ uw65) (hw _ uw66) (hw _ uw67) (Nat.le_of_ble_eq_true rfl) (Nat.le_of_ble_eq_true rfl) (Nat.zero_le _) (Nat.zero_le _) dX7_largestGroup_32 ?_
      refine lv_istore_n (lv' := [(3, .int (if x3 < (MX7_groupOf x1 x2 x4 V) then (MX7_groupOf x1 x2 x4 V) else x3)), (0, .ref (gA G 2)), (1, .int x1), (2, .int x2), (4, .int x4)]) hx hb dX7_largestGroup_35 rfl hl (by decide) rfl (fun ls hl => ?_)
      exact b_36 x1 x2 (if x3 < (MX7_groupOf x1 x2 x4 V) then (MX7_groupOf x1 x2 x4 V) else x3) x4 _ _ _ (lv_sub hl [1, 2, 3, 0, 4] rfl) hP hS hs hres
  refine lv_iconst (v := 0) hx hb dX7_largestGroup_0 (by decide) ?_
  refine lv_istore_n (lv' := [(3, .int (0 : Int32)), (0, .ref (gA G 2)), (1, .int a1), (2, .int a2)]) hx hb dX7_largestGroup_1 rfl hl (by decide) rfl (fun ls hl => ?_)
  refine lv_iconst (v := 0) hx hb dX7_largestGroup_2 (by decide) ?_
  refine lv_istore (lv' := [(4, .int (0 : Int32)), (3, .int (0 : Int32)), (0, .ref (gA G 2)), (1, .int a1), (2, .int a2)]) hx hb dX7_largestGroup_3 hl (by decide) rfl (fun ls hl => ?_)
  exact b_5 1000 a1 a2 (0 : Int32) (0 : Int32) _ _ _ (lv_sub hl [2, 3, 4, 1, 0] rfl) hP hS hs hres
theorem gv_RX7_33 : GoodIn wsL_law (wsV RX7 33 RX4 yX4_copyFrom wc_X4_copyFrom) := gh_gV uw157 uw158 uw159 uw55 uw160
def BX7_copyFrom_41 (k : Nat) (o : Nat)   (V : gV) : gV := (MX4_copyFrom (k + 7) (o + 7) V)
def BX7_copyFrom_30 (k : Nat) (o : Nat)   (V : gV) : gV := BX7_copyFrom_41 k o (MX4_copyFrom (k + 5) (o + 5) V)
def BX7_copyFrom_19 (k : Nat) (o : Nat)   (V : gV) : gV := BX7_copyFrom_30 k o (MX4_copyFrom (k + 3) (o + 3) V)
def BX7_copyFrom_8 (k : Nat) (o : Nat)   (V : gV) : gV := BX7_copyFrom_19 k o (MX4_copyFrom (k + 1) (o + 1) V)
def MX7_copyFrom (k : Nat) (o : Nat)  (V : gV) : gV := BX7_copyFrom_8 k o (gu V k 0 (V o 0))
abbrev wc_X7_copyFrom : List Cond := Cond.code yX7_copyFrom cX7_copyFrom 2 none :: wsL_law
abbrev r_X7_copyFrom : Room := { frames := 2, cells := 0, slots := 0, locals := 61 }
theorem dd_X7_copyFrom : yX7_copyFrom.cls = RX7 ∧ yX7_copyFrom.cls ≠ "java/lang/invoke/MethodHandle" ∧ yX7_copyFrom.cls ≠ "java/lang/invoke/VarHandle" ∧ (parseMethodDescriptor yX7_copyFrom.desc).map (fun d => d.parameters.length) = some 1 := by decide +kernel
set_option maxHeartbeats 8000000 in
set_option maxRecDepth 100000 in
theorem cc_X7_copyFrom (l : Launch) (G : gG) (V : gV) (k : Nat) (hk : gX7 k) (o : Nat) (ho : gX7 o)    : Met l yX7_copyFrom wc_X7_copyFrom r_X7_copyFrom (va_Pc [.ref (gA G k), .ref (gA G o)] (gW G V)) (gQV G (MX7_copyFrom k o V)) 0 0 (gF G) := by
  refine Met.ofW (cc := cX7_copyFrom) (maxL := 2) (ret := none) (by decide) rfl ?_
  intro p e s m args below meth c s₁ B hml hv
  obtain ⟨rfl, hP, hT⟩ := hv
  have hx := B.exec
  have hb := B.bytes
  have hr := B.returns
  have hw := gh_hw (atoms_spec (ws := wc_X7_copyFrom) B.pre)
  have hown : s.vm.findClass RX7 = some m.cls := findClass_of_methodNamed B.named
  have hlocks := B.notSynchronized
  have hS : va_S (gF G) s.heap s.heap [] := va_S.rf
  have hl := lv_entry ([.ref (gA G k), .ref (gA G o)]) (n := 2) (Nat.le_of_ble_eq_true rfl)
  rw [lg_entry_eq]
  generalize (lg_sl ([.ref (gA G k), .ref (gA G o)]) ++ List.replicate (2 - (lg_sl ([.ref (gA G k), .ref (gA G o)])).length) Slot.unset).toArray = ls at hl ⊢
  have hl : lv_has ls 2 [(0, .ref (gA G k)), (1, .ref (gA G o))] := hl
  obtain ⟨res, hres⟩ : ∃ r, r = MX7_copyFrom k o V := ⟨_, rfl⟩
  rw [← hres]
  show W p l e r_X7_copyFrom s m ([.ref (gA G k), .ref (gA G o)] : List Value).toArray below meth c s.heap [] 0 0 (MQ below (gQV G res) ([.ref (gA G k), .ref (gA G o)] : List Value).toArray s 0 0 (gF G)) (F0 m 0 ls [])
  have hres : res = (BX7_copyFrom_8 k o (gu V k 0 (V o 0))) := hres
  have b_41 : ∀  (V : gV) (H : Heap) (locs : List Loc) (ls : Array Slot), lv_has ls 2 [(0, .ref (gA G k)), (1, .ref (gA G o))] → va_P (gD G) vwCl (gL G V) H → va_S (gF G) s.heap H locs → res = BX7_copyFrom_41 k o  V → W p l e r_X7_copyFrom s m ([.ref (gA G k), .ref (gA G o)] : List Value).toArray below meth c H locs 0 0 (MQ below (gQV G res) ([.ref (gA G k), .ref (gA G o)] : List Value).toArray s 0 0 (gF G)) (F0 m 41 ls []) := by
    intro  V H locs ls hl hP hS hres
    have hres : res = ((MX4_copyFrom (k + 7) (o + 7) V)) := hres
    refine lv_aload_n hx hb dX7_copyFrom_41 rfl (lv_at hl 0 rfl) ?_
    refine gh_get (v := .ref (gA G (k + 7))) (C := RX7) (T := TX7) (N := 5) hx hb hw inlX7 hown hT hP k (Nat.lt_of_le_of_lt (Nat.le_add_right _ 8) (hk).1) (hk).2.1 rfl rfl 4 (by decide) (hw _ uw59) rfl dX7_copyFrom_42 ?_
    refine lv_aload_n hx hb dX7_copyFrom_45 rfl (lv_at hl 1 rfl) ?_
    refine gh_get (v := .ref (gA G (o + 7))) (C := RX7) (T := TX7) (N := 5) hx hb hw inlX7 hown hT hP o (Nat.lt_of_le_of_lt (Nat.le_add_right _ 8) (ho).1) (ho).2.1 rfl rfl 4 (by decide) (hw _ uw59) rfl dX7_copyFrom_46 ?_
    refine gh_kv (va_runV (As := [.ref (gA G (o + 7))]) (rest := []) ⟨hx, hb, hml, hown, hw⟩ (cc_X4_copyFrom l G V (k + 7) (hk).2.2.2.2.2 (o + 7) (ho).2.2.2.2.2) (cwV 1 hw gv_RX7_33 rfl rfl rfl dd_X4_copyFrom ⟨Nat.le_of_ble_eq_true rfl, Nat.le_of_ble_eq_true rfl⟩) (gh_preV hT hP (Nat.lt_of_succ_lt ((hk).2.2.2.2.2).1) ((hk).2.2.2.2.2).2.1 rfl rfl) rfl rfl hl.1 rfl (lv_room (Nat.le_of_ble_eq_true rfl)) dX7_copyFrom_49 ⟨Nat.zero_le _, Nat.zero_le _⟩) hS (fun H locs hP hS => ?_)
    exact gh_vret hx hb hr hlocks hP hS hT hres dX7_copyFrom_52
  have b_30 : ∀  (V : gV) (H : Heap) (locs : List Loc) (ls : Array Slot), lv_has ls 2 [(0, .ref (gA G k)), (1, .ref (gA G o))] → va_P (gD G) vwCl (gL G V) H → va_S (gF G) s.heap H locs → res = BX7_copyFrom_30 k o  V → W p l e r_X7_copyFrom s m ([.ref (gA G k), .ref (gA G o)] : List Value).toArray below meth c H locs 0 0 (MQ below (gQV G res) ([.ref (gA G k), .ref (gA G o)] : List Value).toArray s 0 0 (gF G)) (F0 m 30 ls []) := by
    intro  V H locs ls hl hP hS hres
    have hres : res = (BX7_copyFrom_41 k o (MX4_copyFrom (k + 5) (o + 5) V)) := hres
    refine lv_aload_n hx hb dX7_copyFrom_30 rfl (lv_at hl 0 rfl) ?_
    refine gh_get (v := .ref (gA G (k + 5))) (C := RX7) (T := TX7) (N := 5) hx hb hw inlX7 hown hT hP k (Nat.lt_of_le_of_lt (Nat.le_add_right _ 8) (hk).1) (hk).2.1 rfl rfl 3 (by decide) (hw _ uw58) rfl dX7_copyFrom_31 ?_
    refine lv_aload_n hx hb dX7_copyFrom_34 rfl (lv_at hl 1 rfl) ?_
    refine gh_get (v := .ref (gA G (o + 5))) (C := RX7) (T := TX7) (N := 5) hx hb hw inlX7 hown hT hP o (Nat.lt_of_le_of_lt (Nat.le_add_right _ 8) (ho).1) (ho).2.1 rfl rfl 3 (by decide) (hw _ uw58) rfl dX7_copyFrom_35 ?_
    refine gh_kv (va_runV (As := [.ref (gA G (o + 5))]) (rest := []) ⟨hx, hb, hml, hown, hw⟩ (cc_X4_copyFrom l G V (k + 5) (hk).2.2.2.2.1 (o + 5) (ho).2.2.2.2.1) (cwV 1 hw gv_RX7_33 rfl rfl rfl dd_X4_copyFrom ⟨Nat.le_of_ble_eq_true rfl, Nat.le_of_ble_eq_true rfl⟩) (gh_preV hT hP (Nat.lt_of_succ_lt ((hk).2.2.2.2.1).1) ((hk).2.2.2.2.1).2.1 rfl rfl) rfl rfl hl.1 rfl (lv_room (Nat.le_of_ble_eq_true rfl)) dX7_copyFrom_38 ⟨Nat.zero_le _, Nat.zero_le _⟩) hS (fun H locs hP hS => ?_)
    exact b_41 (MX4_copyFrom (k + 5) (o + 5) V) _ _ _ (lv_sub hl [0, 1] rfl) hP hS hres
  have b_19 : ∀  (V : gV) (H : Heap) (locs : List Loc) (ls : Array Slot), lv_has ls 2 [(0, .ref (gA G k)), (1, .ref (gA G o))] → va_P (gD G) vwCl (gL G V) H → va_S (gF G) s.heap H locs → res = BX7_copyFrom_19 k o  V → W p l e r_X7_copyFrom s m ([.ref (gA G k), .ref (gA G o)] : List Value).toArray below meth c H locs 0 0 (MQ below (gQV G res) ([.ref (gA G k), .ref (gA G o)] : List Value).toArray s 0 0 (gF G)) (F0 m 19 ls []) := by
    intro  V H locs ls hl hP hS hres
    have hres : res = (BX7_copyFrom_30 k o (MX4_copyFrom (k + 3) (o + 3) V)) := hres
    refine lv_aload_n hx hb dX7_copyFrom_19 rfl (lv_at hl 0 rfl) ?_
    refine gh_get (v := .ref (gA G (k + 3))) (C := RX7) (T := TX7) (N := 5) hx hb hw inlX7 hown hT hP k (Nat.lt_of_le_of_lt (Nat.le_add_right _ 8) (hk).1) (hk).2.1 rfl rfl 2 (by decide) (hw _ uw57) rfl dX7_copyFrom_20 ?_
    refine lv_aload_n hx hb dX7_copyFrom_23 rfl (lv_at hl 1 rfl) ?_
    refine gh_get (v := .ref (gA G (o + 3))) (C := RX7) (T := TX7) (N := 5) hx hb hw inlX7 hown hT hP o (Nat.lt_of_le_of_lt (Nat.le_add_right _ 8) (ho).1) (ho).2.1 rfl rfl 2 (by decide) (hw _ uw57) rfl dX7_copyFrom_24 ?_
    refine gh_kv (va_runV (As := [.ref (gA G (o + 3))]) (rest := []) ⟨hx, hb, hml, hown, hw⟩ (cc_X4_copyFrom l G V (k + 3) (hk).2.2.2.1 (o + 3) (ho).2.2.2.1) (cwV 1 hw gv_RX7_33 rfl rfl rfl dd_X4_copyFrom ⟨Nat.le_of_ble_eq_true rfl, Nat.le_of_ble_eq_true rfl⟩) (gh_preV hT hP (Nat.lt_of_succ_lt ((hk).2.2.2.1).1) ((hk).2.2.2.1).2.1 rfl rfl) rfl rfl hl.1 rfl (lv_room (Nat.le_of_ble_eq_true rfl)) dX7_copyFrom_27 ⟨Nat.zero_le _, Nat.zero_le _⟩) hS (fun H locs hP hS => ?_)
    exact b_30 (MX4_copyFrom (k + 3) (o + 3) V) _ _ _ (lv_sub hl [0, 1] rfl) hP hS hres
  have b_8 : ∀  (V : gV) (H : Heap) (locs : List Loc) (ls : Array Slot), lv_has ls 2 [(0, .ref (gA G k)), (1, .ref (gA G o))] → va_P (gD G) vwCl (gL G V) H → va_S (gF G) s.heap H locs → res = BX7_copyFrom_8 k o  V → W p l e r_X7_copyFrom s m ([.ref (gA G k), .ref (gA G o)] : List Value).toArray below meth c H locs 0 0 (MQ below (gQV G res) ([.ref (gA G k), .ref (gA G o)] : List Value).toArray s 0 0 (gF G)) (F0 m 8 ls []) := by
    intro  V H locs ls hl hP hS hres
    have hres : res = (BX7_copyFrom_19 k o (MX4_copyFrom (k + 1) (o + 1) V)) := hres
    refine lv_aload_n hx hb dX7_copyFrom_8 rfl (lv_at hl 0 rfl) ?_
    refine gh_get (v := .ref (gA G (k + 1))) (C := RX7) (T := TX7) (N := 5) hx hb hw inlX7 hown hT hP k (Nat.lt_of_le_of_lt (Nat.le_add_right _ 8) (hk).1) (hk).2.1 rfl rfl 1 (by decide) (hw _ uw56) rfl dX7_copyFrom_9 ?_
    refine lv_aload_n hx hb dX7_copyFrom_12 rfl (lv_at hl 1 rfl) ?_
    refine gh_get (v := .ref (gA G (o + 1))) (C := RX7) (T := TX7) (N := 5) hx hb hw inlX7 hown hT hP o (Nat.lt_of_le_of_lt (Nat.le_add_right _ 8) (ho).1) (ho).2.1 rfl rfl 1 (by decide) (hw _ uw56) rfl dX7_copyFrom_13 ?_
    refine gh_kv (va_runV (As := [.ref (gA G (o + 1))]) (rest := []) ⟨hx, hb, hml, hown, hw⟩ (cc_X4_copyFrom l G V (k + 1) (hk).2.2.1 (o + 1) (ho).2.2.1) (cwV 1 hw gv_RX7_33 rfl rfl rfl dd_X4_copyFrom ⟨Nat.le_of_ble_eq_true rfl, Nat.le_of_ble_eq_true rfl⟩) (gh_preV hT hP (Nat.lt_of_succ_lt ((hk).2.2.1).1) ((hk).2.2.1).2.1 rfl rfl) rfl rfl hl.1 rfl (lv_room (Nat.le_of_ble_eq_true rfl)) dX7_copyFrom_16 ⟨Nat.zero_le _, Nat.zero_le _⟩) hS (fun H locs hP hS => ?_)
    exact b_19 (MX4_copyFrom (k + 1) (o + 1) V) _ _ _ (lv_sub hl [0, 1] rfl) hP hS hres
  refine lv_aload_n hx hb dX7_copyFrom_0 rfl (lv_at hl 0 rfl) ?_
  refine lv_aload_n hx hb dX7_copyFrom_1 rfl (lv_at hl 1 rfl) ?_
  refine gh_get (v := .int (V o 0)) (C := RX7) (T := TX7) (N := 5) hx hb hw inlX7 hown hT hP o (Nat.lt_of_le_of_lt (Nat.le_add_right _ 8) (ho).1) (ho).2.1 rfl rfl 0 (by decide) (hw _ uw134) rfl dX7_copyFrom_2 ?_
  refine gh_put (ty := .int) (x := (V o 0)) (C := RX7) (T := TX7) (N := 5) hx hb hw inlX7 tyX7_ok nmX7 hown hT hP hS k (Nat.lt_of_le_of_lt (Nat.le_add_right _ 8) (hk).1) (hk).2.1 rfl rfl 0 (by decide) (hw _ uw134) rfl (by decide +kernel) rfl rfl (Nat.le_of_ble_eq_true rfl) rfl dX7_copyFrom_5 (fun H locs hP hS => ?_)
  exact b_8 (gu V k 0 (V o 0)) _ _ _ (lv_sub hl [0, 1] rfl) hP hS hres
