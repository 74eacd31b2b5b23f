theorem gh_len (k : Nat) : gk k - 11 < 2 ^ 31 := by
  have h : ∀ k, k < 219 → gk k ≤ 999 := by decide +kernel
  by_cases hk : k < 219
  · have := h k hk
    omega
  · have : gk k = 999 := by
      have h2 : gh_kdL.length = 219 := by decide +kernel
      have h3 : gh_kdL[k]? = none := List.getElem?_eq_none (by omega)
      unfold gk
      rw [List.getD, h3]
      rfl
    omega
theorem gh_mn {a b : Nat} (ha : a < 2 ^ 31) (hb : b < 2 ^ 31) : (if nI a < nI b then nI a else nI b) = nI (if a < b then a else b) := by
  by_cases h : a < b
  · rw [if_pos h, if_pos (nI_lt h hb)]
  · rw [if_neg h, if_neg (nI_nlt (by omega) ha)]
theorem gh_cpP {a b : Nat} (ha : a < 2 ^ 31) (hb : b < 2 ^ 31) : (¬ (if nI a < nI b then nI a else nI b) < 0) ∧ ((if nI a < nI b then nI a else nI b).toNatClampNeg ≤ b) ∧ ((if nI a < nI b then nI a else nI b).toNatClampNeg ≤ a) := by
  rw [gh_mn ha hb]
  have h : (if a < b then a else b) < 2 ^ 31 := by split <;> assumption
  refine ⟨nI_pos h, ?_, ?_⟩ <;> rw [nI_clamp h] <;> split <;> omega
def MX8_isBetween  (a0 : Int32) (a1 : Int32) (a2 : Int32) (V : gV) : Int32 := if a0 < a1 then ((0 : Int32)) else (if a2 < a0 then ((0 : Int32)) else ((1 : Int32)))
abbrev wc_X8_isBetween : List Cond := Cond.code yX8_isBetween cX8_isBetween 3 (some .boolean) :: wsL_law
abbrev r_X8_isBetween : Room := { frames := 0, cells := 0, slots := 0, locals := 0 }
theorem dd_X8_isBetween : yX8_isBetween.cls = RX8 ∧ yX8_isBetween.cls ≠ "java/lang/invoke/MethodHandle" ∧ yX8_isBetween.cls ≠ "java/lang/invoke/VarHandle" ∧ (parseMethodDescriptor yX8_isBetween.desc).map (fun d => d.parameters.length) = some 3 := by decide +kernel
set_option maxHeartbeats 8000000 in
set_option maxRecDepth 100000 in
theorem cc_X8_isBetween (l : Launch) (G : gG) (V : gV)   (a0 : Int32) (a1 : Int32) (a2 : Int32)  : Met l yX8_isBetween wc_X8_isBetween r_X8_isBetween (va_Pc [.int a0, .int a1, .int a2] (gW G V)) (gQR G (MX8_isBetween a0 a1 a2 V) V) 0 0 (gF G) := by
  refine Met.ofW (cc := cX8_isBetween) (maxL := 3) (ret := (some .boolean)) (by decide) rfl ?_
  intro p e s m args below meth c s₁ B hml hv
  obtain ⟨rfl, hP, hT⟩ := hv
  have hx := B.exec
  have hb := B.bytes
  have hr := B.returns
  have hw := gh_hw (atoms_spec (ws := wc_X8_isBetween) B.pre)
  have hown : s.vm.findClass RX8 = some m.cls := findClass_of_methodNamed B.named
  have hlocks := B.notSynchronized
  have hS : va_S (gF G) s.heap s.heap [] := va_S.rf
  have hl := lv_entry ([.int a0, .int a1, .int a2]) (n := 3) (Nat.le_of_ble_eq_true rfl)
  rw [lg_entry_eq]
  generalize (lg_sl ([.int a0, .int a1, .int a2]) ++ List.replicate (3 - (lg_sl ([.int a0, .int a1, .int a2])).length) Slot.unset).toArray = ls at hl ⊢
  have hl : lv_has ls 3 [(0, .int a0), (1, .int a1), (2, .int a2)] := hl
  obtain ⟨res, hres⟩ : ∃ r, r = MX8_isBetween a0 a1 a2 V := ⟨_, rfl⟩
  rw [← hres]
  show W p l e r_X8_isBetween s m ([.int a0, .int a1, .int a2] : List Value).toArray below meth c s.heap [] 0 0 (MQ below (gQR G res V) ([.int a0, .int a1, .int a2] : List Value).toArray s 0 0 (gF G)) (F0 m 0 ls [])
  have hres : res = (if a0 < a1 then ((0 : Int32)) else (if a2 < a0 then ((0 : Int32)) else ((1 : Int32)))) := hres
  refine lv_iload_n hx hb dX8_isBetween_0 rfl (lv_at hl 0 rfl) ?_
  refine lv_iload_n hx hb dX8_isBetween_1 rfl (lv_at hl 1 rfl) ?_
  refine lv_icmp_lt (tgt := 14) hx hb dX8_isBetween_2 (by decide) (fun c_1 => ?_) (fun c_1 => ?_)
  · have hres := hres.trans (if_pos c_1)
    refine lv_iconst (v := 0) hx hb dX8_isBetween_14 (by decide) ?_
    exact gh_zretR hx hb hr rfl hlocks hP hS hT hres dX8_isBetween_15
  have hres := hres.trans (if_neg c_1)
  refine lv_iload_n hx hb dX8_isBetween_5 rfl (lv_at hl 0 rfl) ?_
  refine lv_iload_n hx hb dX8_isBetween_6 rfl (lv_at hl 2 rfl) ?_
  refine lv_icmp_gt (tgt := 14) hx hb dX8_isBetween_7 (by decide) (fun c_2 => ?_) (fun c_2 => ?_)
  · have hres := hres.trans (if_pos c_2)
    refine lv_iconst (v := 0) hx hb dX8_isBetween_14 (by decide) ?_
    exact gh_zretR hx hb hr rfl hlocks hP hS hT hres dX8_isBetween_15
  have hres := hres.trans (if_neg c_2)
  refine lv_iconst (v := 1) hx hb dX8_isBetween_10 (by decide) ?_
  refine lv_goto (tgt := 15) hx hb dX8_isBetween_11 (by decide) ?_
  exact gh_zretR hx hb hr rfl hlocks hP hS hT hres dX8_isBetween_15
theorem gz_X8_isBetween  (a0 : Int32) (a1 : Int32) (a2 : Int32) (V : gV) : gZ (MX8_isBetween a0 a1 a2 V) := by
  unfold MX8_isBetween
  repeat (any_goals split)
  all_goals first | exact Or.inl rfl | exact Or.inr rfl
theorem gv_RX8_47 : GoodIn wsL_law (va_wsS RX8 47 yX8_isBetween wc_X8_isBetween) := gh_gS uw135 uw136 uw2 uw137
def MX8_isLetter  (a0 : Int32) (V : gV) : Int32 := (MX8_isBetween a0 (0 : Int32) (25 : Int32) V)
def PX8_isLetter  (a0 : Int32) (V : gV) : Prop := (gZ (MX8_isBetween a0 (0 : Int32) (25 : Int32) V))
abbrev wc_X8_isLetter : List Cond := Cond.code yX8_isLetter cX8_isLetter 1 (some .boolean) :: wsL_law
abbrev r_X8_isLetter : Room := { frames := 1, cells := 0, slots := 0, locals := 22 }
theorem dd_X8_isLetter : yX8_isLetter.cls = RX8 ∧ yX8_isLetter.cls ≠ "java/lang/invoke/MethodHandle" ∧ yX8_isLetter.cls ≠ "java/lang/invoke/VarHandle" ∧ (parseMethodDescriptor yX8_isLetter.desc).map (fun d => d.parameters.length) = some 1 := by decide +kernel
set_option maxHeartbeats 8000000 in
set_option maxRecDepth 100000 in
theorem cc0_X8_isLetter (l : Launch) (G : gG) (V : gV)   (a0 : Int32) (hs : PX8_isLetter a0 V) : Met l yX8_isLetter wc_X8_isLetter r_X8_isLetter (va_Pc [.int a0] (gW G V)) (gQR G (MX8_isLetter a0 V) V) 0 0 (gF G) := by
  refine Met.ofW (cc := cX8_isLetter) (maxL := 1) (ret := (some .boolean)) (by decide) rfl ?_
  intro p e s m args below meth c s₁ B hml hv
  obtain ⟨rfl, hP, hT⟩ := hv
  have hx := B.exec
  have hb := B.bytes
  have hr := B.returns
  have hw := gh_hw (atoms_spec (ws := wc_X8_isLetter) B.pre)
  have hown : s.vm.findClass RX8 = some m.cls := findClass_of_methodNamed B.named
  have hlocks := B.notSynchronized
  have hS : va_S (gF G) s.heap s.heap [] := va_S.rf
  have hl := lv_entry ([.int a0]) (n := 1) (Nat.le_of_ble_eq_true rfl)
  rw [lg_entry_eq]
  generalize (lg_sl ([.int a0]) ++ List.replicate (1 - (lg_sl ([.int a0])).length) Slot.unset).toArray = ls at hl ⊢
  have hl : lv_has ls 1 [(0, .int a0)] := hl
  obtain ⟨res, hres⟩ : ∃ r, r = MX8_isLetter a0 V := ⟨_, rfl⟩
  rw [← hres]
  show W p l e r_X8_isLetter s m ([.int a0] : List Value).toArray below meth c s.heap [] 0 0 (MQ below (gQR G res V) ([.int a0] : List Value).toArray s 0 0 (gF G)) (F0 m 0 ls [])
  have hs : (gZ (MX8_isBetween a0 (0 : Int32) (25 : Int32) V)) := hs
  have hres : res = ((MX8_isBetween a0 (0 : Int32) (25 : Int32) V)) := hres
  refine lv_iload_n hx hb dX8_isLetter_0 rfl (lv_at hl 0 rfl) ?_
  refine lv_iconst (v := 0) hx hb dX8_isLetter_1 (by decide) ?_
  refine lv_bipush (v := 25) hx hb dX8_isLetter_2 (by decide) ?_
  refine gh_kr (va_runS (As := [.int a0, .int (0 : Int32), .int (25 : Int32)]) (rest := []) ⟨hx, hb, hml, hown, hw⟩ (cc_X8_isBetween l G V a0 (0 : Int32) (25 : Int32)) (va_cwS 3 hw gv_RX8_47 rfl rfl rfl dd_X8_isBetween.2 ⟨Nat.le_of_ble_eq_true rfl, Nat.le_of_ble_eq_true rfl⟩) (gh_pre hT hP) rfl rfl hl.1 rfl (lv_room (Nat.le_of_ble_eq_true rfl)) dX8_isLetter_4 ⟨Nat.zero_le _, Nat.zero_le _⟩) hS (fun H locs hP hS => ?_)
  have ho_1 := hs
  exact gh_zretR hx hb hr ho_1.n hlocks hP hS hT hres dX8_isLetter_7
theorem pp_X8_isLetter  (a0 : Int32) (V : gV) : PX8_isLetter a0 V := gz_X8_isBetween _ _ _ _
theorem cc_X8_isLetter (l : Launch) (G : gG) (V : gV)  (a0 : Int32) : Met l yX8_isLetter wc_X8_isLetter r_X8_isLetter (va_Pc [.int a0] (gW G V)) (gQR G (MX8_isLetter a0 V) V) 0 0 (gF G) := cc0_X8_isLetter l G V  a0 (pp_X8_isLetter a0 V)
def MX8_holds  (a0 : Int32) (a1 : Int32) (V : gV) : Int32 := if (a0 &&& ((1 : Int32) <<< (a1 &&& 31))) = 0 then ((0 : Int32)) else ((1 : Int32))
abbrev wc_X8_holds : List Cond := Cond.code yX8_holds cX8_holds 2 (some .boolean) :: wsL_law
abbrev r_X8_holds : Room := { frames := 0, cells := 0, slots := 0, locals := 0 }
theorem dd_X8_holds : yX8_holds.cls = RX8 ∧ yX8_holds.cls ≠ "java/lang/invoke/MethodHandle" ∧ yX8_holds.cls ≠ "java/lang/invoke/VarHandle" ∧ (parseMethodDescriptor yX8_holds.desc).map (fun d => d.parameters.length) = some 2 := by decide +kernel
set_option maxHeartbeats 8000000 in
set_option maxRecDepth 100000 in
theorem cc_X8_holds (l : Launch) (G : gG) (V : gV)   (a0 : Int32) (a1 : Int32)  : Met l yX8_holds wc_X8_holds r_X8_holds (va_Pc [.int a0, .int a1] (gW G V)) (gQR G (MX8_holds a0 a1 V) V) 0 0 (gF G) := by
  refine Met.ofW (cc := cX8_holds) (maxL := 2) (ret := (some .boolean)) (by decide) rfl ?_
  intro p e s m args below meth c s₁ B hml hv
  obtain ⟨rfl, hP, hT⟩ := hv
  have hx := B.exec
  have hb := B.bytes
  have hr := B.returns
  have hw := gh_hw (atoms_spec (ws := wc_X8_holds) B.pre)
  have hown : s.vm.findClass RX8 = some m.cls := findClass_of_methodNamed B.named
  have hlocks := B.notSynchronized
  have hS : va_S (gF G) s.heap s.heap [] := va_S.rf
  have hl := lv_entry ([.int a0, .int a1]) (n := 2) (Nat.le_of_ble_eq_true rfl)
  rw [lg_entry_eq]
  generalize (lg_sl ([.int a0, .int a1]) ++ List.replicate (2 - (lg_sl ([.int a0, .int a1])).length) Slot.unset).toArray = ls at hl ⊢
  have hl : lv_has ls 2 [(0, .int a0), (1, .int a1)] := hl
  obtain ⟨res, hres⟩ : ∃ r, r = MX8_holds a0 a1 V := ⟨_, rfl⟩
  rw [← hres]
  show W p l e r_X8_holds s m ([.int a0, .int a1] : List Value).toArray below meth c s.heap [] 0 0 (MQ below (gQR G res V) ([.int a0, .int a1] : List Value).toArray s 0 0 (gF G)) (F0 m 0 ls [])
  have hres : res = (if (a0 &&& ((1 : Int32) <<< (a1 &&& 31))) = 0 then ((0 : Int32)) else ((1 : Int32))) := hres
  refine lv_iload_n hx hb dX8_holds_0 rfl (lv_at hl 0 rfl) ?_
  refine lv_iconst (v := 1) hx hb dX8_holds_1 (by decide) ?_
  refine lv_iload_n hx hb dX8_holds_2 rfl (lv_at hl 1 rfl) ?_
  refine lv_ishl hx hb dX8_holds_3 ?_
  refine lv_iand hx hb dX8_holds_4 ?_
  refine lv_if_eq (tgt := 12) hx hb dX8_holds_5 (by decide) (fun c_1 => ?_) (fun c_1 => ?_)
  · have hres := hres.trans (if_pos c_1)
    refine lv_iconst (v := 0) hx hb dX8_holds_12 (by decide) ?_
    exact gh_zretR hx hb hr rfl hlocks hP hS hT hres dX8_holds_13
  have hres := hres.trans (if_neg c_1)
  refine lv_iconst (v := 1) hx hb dX8_holds_8 (by decide) ?_
  refine lv_goto (tgt := 13) hx hb dX8_holds_9 (by decide) ?_
  exact gh_zretR hx hb hr rfl hlocks hP hS hT hres dX8_holds_13
theorem gz_X8_holds  (a0 : Int32) (a1 : Int32) (V : gV) : gZ (MX8_holds a0 a1 V) := by
  unfold MX8_holds
  repeat (any_goals split)
  all_goals first | exact Or.inl rfl | exact Or.inr rfl
def MX8_numberBehind  (a0 : Int32) (V : gV) : Int32 := (((((a0).toInt64 * (1103515245 : Int64)) + (12345 : Int64)) - (((a0).toInt64 * (1103515245 : Int64)) + (12345 : Int64)) / (2147483648 : Int64) * (2147483648 : Int64))).toInt32
abbrev wc_X8_numberBehind : List Cond := Cond.code yX8_numberBehind cX8_numberBehind 1 (some .int) :: wsL_law
abbrev r_X8_numberBehind : Room := { frames := 0, cells := 0, slots := 0, locals := 0 }
theorem dd_X8_numberBehind : yX8_numberBehind.cls = RX8 ∧ yX8_numberBehind.cls ≠ "java/lang/invoke/MethodHandle" ∧ yX8_numberBehind.cls ≠ "java/lang/invoke/VarHandle" ∧ (parseMethodDescriptor yX8_numberBehind.desc).map (fun d => d.parameters.length) = some 1 := by decide +kernel
set_option maxHeartbeats 8000000 in
set_option maxRecDepth 100000 in
theorem cc_X8_numberBehind (l : Launch) (G : gG) (V : gV)   (a0 : Int32)  : Met l yX8_numberBehind wc_X8_numberBehind r_X8_numberBehind (va_Pc [.int a0] (gW G V)) (gQR G (MX8_numberBehind a0 V) V) 0 0 (gF G) := by
  refine Met.ofW (cc := cX8_numberBehind) (maxL := 1) (ret := (some .int)) (by decide) rfl ?_
  intro p e s m args below meth c s₁ B hml hv
  obtain ⟨rfl, hP, hT⟩ := hv
  have hx := B.exec
  have hb := B.bytes
  have hr := B.returns
  have hw := gh_hw (atoms_spec (ws := wc_X8_numberBehind) B.pre)
  have hown : s.vm.findClass RX8 = some m.cls := findClass_of_methodNamed B.named
  have hlocks := B.notSynchronized
  have hS : va_S (gF G) s.heap s.heap [] := va_S.rf
  have hl := lv_entry ([.int a0]) (n := 1) (Nat.le_of_ble_eq_true rfl)
  rw [lg_entry_eq]
  generalize (lg_sl ([.int a0]) ++ List.replicate (1 - (lg_sl ([.int a0])).length) Slot.unset).toArray = ls at hl ⊢
  have hl : lv_has ls 1 [(0, .int a0)] := hl
  obtain ⟨res, hres⟩ : ∃ r, r = MX8_numberBehind a0 V := ⟨_, rfl⟩
  rw [← hres]
  show W p l e r_X8_numberBehind s m ([.int a0] : List Value).toArray below meth c s.heap [] 0 0 (MQ below (gQR G res V) ([.int a0] : List Value).toArray s 0 0 (gF G)) (F0 m 0 ls [])
  have hres : res = ((((((a0).toInt64 * (1103515245 : Int64)) + (12345 : Int64)) - (((a0).toInt64 * (1103515245 : Int64)) + (12345 : Int64)) / (2147483648 : Int64) * (2147483648 : Int64))).toInt32) := hres
  refine lv_iload_n hx hb dX8_numberBehind_0 rfl (lv_at hl 0 rfl) ?_
  refine lv_i2l hx hb dX8_numberBehind_1 rfl ?_
  refine lv_ldc2 hx hb hown (hw _ uw315) dX8_numberBehind_2 ?_
  refine lv_lmul hx hb dX8_numberBehind_5 ?_
  refine lv_ldc2 hx hb hown (hw _ uw316) dX8_numberBehind_6 ?_
  refine lv_ladd hx hb dX8_numberBehind_9 ?_
  refine lv_ldc2 hx hb hown (hw _ uw317) dX8_numberBehind_10 ?_
  refine lv_lrem hx hb dX8_numberBehind_13 (by decide) ?_
  refine lv_l2i hx hb dX8_numberBehind_14 rfl ?_
  exact gh_iretR hx hb hr hlocks hP hS hT hres dX8_numberBehind_15
def MJ6_bitCount_0f7a4  (a0 : Int32) (V : gV) : Int32 := ((((((((a0 - (((a0).toUInt32 >>> (((1 : Int32)).toUInt32 &&& Int32.toUInt32 31)).toInt32 &&& (1431655765 : Int32))) &&& (858993459 : Int32)) + ((((a0 - (((a0).toUInt32 >>> (((1 : Int32)).toUInt32 &&& Int32.toUInt32 31)).toInt32 &&& (1431655765 : Int32)))).toUInt32 >>> (((2 : Int32)).toUInt32 &&& Int32.toUInt32 31)).toInt32 &&& (858993459 : Int32))) + (((((a0 - (((a0).toUInt32 >>> (((1 : Int32)).toUInt32 &&& Int32.toUInt32 31)).toInt32 &&& (1431655765 : Int32))) &&& (858993459 : Int32)) + ((((a0 - (((a0).toUInt32 >>> (((1 : Int32)).toUInt32 &&& Int32.toUInt32 31)).toInt32 &&& (1431655765 : Int32)))).toUInt32 >>> (((2 : Int32)).toUInt32 &&& Int32.toUInt32 31)).toInt32 &&& (858993459 : Int32)))).toUInt32 >>> (((4 : Int32)).toUInt32 &&& Int32.toUInt32 31)).toInt32) &&& (252645135 : Int32)) + (((((((a0 - (((a0).toUInt32 >>> (((1 : Int32)).toUInt32 &&& Int32.toUInt32 31)).toInt32 &&& (1431655765 : Int32))) &&& (858993459 : Int32)) + ((((a0 - (((a0).toUInt32 >>> (((1 : Int32)).toUInt32 &&& Int32.toUInt32 31)).toInt32 &&& (1431655765 : Int32)))).toUInt32 >>> (((2 : Int32)).toUInt32 &&& Int32.toUInt32 31)).toInt32 &&& (858993459 : Int32))) + (((((a0 - (((a0).toUInt32 >>> (((1 : Int32)).toUInt32 &&& Int32.toUInt32 31)).toInt32 &&& (1431655765 : Int32))) &&& (858993459 : Int32)) + ((((a0 - (((a0).toUInt32 >>> (((1 : Int32)).toUInt32 &&& Int32.toUInt32 31)).toInt32 &&& (1431655765 : Int32)))).toUInt32 >>> (((2 : Int32)).toUInt32 &&& Int32.toUInt32 31)).toInt32 &&& (858993459 : Int32)))).toUInt32 >>> (((4 : Int32)).toUInt32 &&& Int32.toUInt32 31)).toInt32) &&& (252645135 : Int32))).toUInt32 >>> (((8 : Int32)).toUInt32 &&& Int32.toUInt32 31)).toInt32) + ((((((((a0 - (((a0).toUInt32 >>> (((1 : Int32)).toUInt32 &&& Int32.toUInt32 31)).toInt32 &&& (1431655765 : Int32))) &&& (858993459 : Int32)) + ((((a0 - (((a0).toUInt32 >>> (((1 : Int32)).toUInt32 &&& Int32.toUInt32 31)).toInt32 &&& (1431655765 : Int32)))).toUInt32 >>> (((2 : Int32)).toUInt32 &&& Int32.toUInt32 31)).toInt32 &&& (858993459 : Int32))) + (((((a0 - (((a0).toUInt32 >>> (((1 : Int32)).toUInt32 &&& Int32.toUInt32 31)).toInt32 &&& (1431655765 : Int32))) &&& (858993459 : Int32)) + ((((a0 - (((a0).toUInt32 >>> (((1 : Int32)).toUInt32 &&& Int32.toUInt32 31)).toInt32 &&& (1431655765 : Int32)))).toUInt32 >>> (((2 : Int32)).toUInt32 &&& Int32.toUInt32 31)).toInt32 &&& (858993459 : Int32)))).toUInt32 >>> (((4 : Int32)).toUInt32 &&& Int32.toUInt32 31)).toInt32) &&& (252645135 : Int32)) + (((((((a0 - (((a0).toUInt32 >>> (((1 : Int32)).toUInt32 &&& Int32.toUInt32 31)).toInt32 &&& (1431655765 : Int32))) &&& (858993459 : Int32)) + ((((a0 - (((a0).toUInt32 >>> (((1 : Int32)).toUInt32 &&& Int32.toUInt32 31)).toInt32 &&& (1431655765 : Int32)))).toUInt32 >>> (((2 : Int32)).toUInt32 &&& Int32.toUInt32 31)).toInt32 &&& (858993459 : Int32))) + (((((a0 - (((a0).toUInt32 >>> (((1 : Int32)).toUInt32 &&& Int32.toUInt32 31)).toInt32 &&& (1431655765 : Int32))) &&& (858993459 : Int32)) + ((((a0 - (((a0).toUInt32 >>> (((1 : Int32)).toUInt32 &&& Int32.toUInt32 31)).toInt32 &&& (1431655765 : Int32)))).toUInt32 >>> (((2 : Int32)).toUInt32 &&& Int32.toUInt32 31)).toInt32 &&& (858993459 : Int32)))).toUInt32 >>> (((4 : Int32)).toUInt32 &&& Int32.toUInt32 31)).toInt32) &&& (252645135 : Int32))).toUInt32 >>> (((8 : Int32)).toUInt32 &&& Int32.toUInt32 31)).toInt32)).toUInt32 >>> (((16 : Int32)).toUInt32 &&& Int32.toUInt32 31)).toInt32) &&& (63 : Int32))
abbrev wc_J6_bitCount_0f7a4 : List Cond := Cond.code yJ6_bitCount_0f7a4 cJ6_bitCount_0f7a4 1 (some .int) :: wsL_law
abbrev r_J6_bitCount_0f7a4 : Room := { frames := 0, cells := 0, slots := 0, locals := 0 }
theorem dd_J6_bitCount_0f7a4 : yJ6_bitCount_0f7a4.cls = RJ6 ∧ yJ6_bitCount_0f7a4.cls ≠ "java/lang/invoke/MethodHandle" ∧ yJ6_bitCount_0f7a4.cls ≠ "java/lang/invoke/VarHandle" ∧ (parseMethodDescriptor yJ6_bitCount_0f7a4.desc).map (fun d => d.parameters.length) = some 1 := by decide +kernel
set_option maxHeartbeats 8000000 in
set_option maxRecDepth 100000 in
theorem cc_J6_bitCount_0f7a4 (l : Launch) (G : gG) (V : gV)   (a0 : Int32)  : Met l yJ6_bitCount_0f7a4 wc_J6_bitCount_0f7a4 r_J6_bitCount_0f7a4 (va_Pc [.int a0] (gW G V)) (gQR G (MJ6_bitCount_0f7a4 a0 V) V) 0 0 (gF G) := by
  refine Met.ofW (cc := cJ6_bitCount_0f7a4) (maxL := 1) (ret := (some .int)) (by decide) rfl ?_
  intro p e s m args below meth c s₁ B hml hv
  obtain ⟨rfl, hP, hT⟩ := hv
  have hx := B.exec
  have hb := B.bytes
  have hr := B.returns
  have hw := gh_hw (atoms_spec (ws := wc_J6_bitCount_0f7a4) B.pre)
  have hown : s.vm.findClass RJ6 = some m.cls := findClass_of_methodNamed B.named
  have hlocks := B.notSynchronized
  have hS : va_S (gF G) s.heap s.heap [] := va_S.rf
  have hl := lv_entry ([.int a0]) (n := 1) (Nat.le_of_ble_eq_true rfl)
  rw [lg_entry_eq]
  generalize (lg_sl ([.int a0]) ++ List.replicate (1 - (lg_sl ([.int a0])).length) Slot.unset).toArray = ls at hl ⊢
  have hl : lv_has ls 1 [(0, .int a0)] := hl
  obtain ⟨res, hres⟩ : ∃ r, r = MJ6_bitCount_0f7a4 a0 V := ⟨_, rfl⟩
  rw [← hres]
  show W p l e r_J6_bitCount_0f7a4 s m ([.int a0] : List Value).toArray below meth c s.heap [] 0 0 (MQ below (gQR G res V) ([.int a0] : List Value).toArray s 0 0 (gF G)) (F0 m 0 ls [])
  have hres : res = (((((((((a0 - (((a0).toUInt32 >>> (((1 : Int32)).toUInt32 &&& Int32.toUInt32 31)).toInt32 &&& (1431655765 : Int32))) &&& (858993459 : Int32)) + ((((a0 - (((a0).toUInt32 >>> (((1 : Int32)).toUInt32 &&& Int32.toUInt32 31)).toInt32 &&& (1431655765 : Int32)))).toUInt32 >>> (((2 : Int32)).toUInt32 &&& Int32.toUInt32 31)).toInt32 &&& (858993459 : Int32))) + (((((a0 - (((a0).toUInt32 >>> (((1 : Int32)).toUInt32 &&& Int32.toUInt32 31)).toInt32 &&& (1431655765 : Int32))) &&& (858993459 : Int32)) + ((((a0 - (((a0).toUInt32 >>> (((1 : Int32)).toUInt32 &&& Int32.toUInt32 31)).toInt32 &&& (1431655765 : Int32)))).toUInt32 >>> (((2 : Int32)).toUInt32 &&& Int32.toUInt32 31)).toInt32 &&& (858993459 : Int32)))).toUInt32 >>> (((4 : Int32)).toUInt32 &&& Int32.toUInt32 31)).toInt32) &&& (252645135 : Int32)) + (((((((a0 - (((a0).toUInt32 >>> (((1 : Int32)).toUInt32 &&& Int32.toUInt32 31)).toInt32 &&& (1431655765 : Int32))) &&& (858993459 : Int32)) + ((((a0 - (((a0).toUInt32 >>> (((1 : Int32)).toUInt32 &&& Int32.toUInt32 31)).toInt32 &&& (1431655765 : Int32)))).toUInt32 >>> (((2 : Int32)).toUInt32 &&& Int32.toUInt32 31)).toInt32 &&& (858993459 : Int32))) + (((((a0 - (((a0).toUInt32 >>> (((1 : Int32)).toUInt32 &&& Int32.toUInt32 31)).toInt32 &&& (1431655765 : Int32))) &&& (858993459 : Int32)) + ((((a0 - (((a0).toUInt32 >>> (((1 : Int32)).toUInt32 &&& Int32.toUInt32 31)).toInt32 &&& (1431655765 : Int32)))).toUInt32 >>> (((2 : Int32)).toUInt32 &&& Int32.toUInt32 31)).toInt32 &&& (858993459 : Int32)))).toUInt32 >>> (((4 : Int32)).toUInt32 &&& Int32.toUInt32 31)).toInt32) &&& (252645135 : Int32))).toUInt32 >>> (((8 : Int32)).toUInt32 &&& Int32.toUInt32 31)).toInt32) + ((((((((a0 - (((a0).toUInt32 >>> (((1 : Int32)).toUInt32 &&& Int32.toUInt32 31)).toInt32 &&& (1431655765 : Int32))) &&& (858993459 : Int32)) + ((((a0 - (((a0).toUInt32 >>> (((1 : Int32)).toUInt32 &&& Int32.toUInt32 31)).toInt32 &&& (1431655765 : Int32)))).toUInt32 >>> (((2 : Int32)).toUInt32 &&& Int32.toUInt32 31)).toInt32 &&& (858993459 : Int32))) + (((((a0 - (((a0).toUInt32 >>> (((1 : Int32)).toUInt32 &&& Int32.toUInt32 31)).toInt32 &&& (1431655765 : Int32))) &&& (858993459 : Int32)) + ((((a0 - (((a0).toUInt32 >>> (((1 : Int32)).toUInt32 &&& Int32.toUInt32 31)).toInt32 &&& (1431655765 : Int32)))).toUInt32 >>> (((2 : Int32)).toUInt32 &&& Int32.toUInt32 31)).toInt32 &&& (858993459 : Int32)))).toUInt32 >>> (((4 : Int32)).toUInt32 &&& Int32.toUInt32 31)).toInt32) &&& (252645135 : Int32)) + (((((((a0 - (((a0).toUInt32 >>> (((1 : Int32)).toUInt32 &&& Int32.toUInt32 31)).toInt32 &&& (1431655765 : Int32))) &&& (858993459 : Int32)) + ((((a0 - (((a0).toUInt32 >>> (((1 : Int32)).toUInt32 &&& Int32.toUInt32 31)).toInt32 &&& (1431655765 : Int32)))).toUInt32 >>> (((2 : Int32)).toUInt32 &&& Int32.toUInt32 31)).toInt32 &&& (858993459 : Int32))) + (((((a0 - (((a0).toUInt32 >>> (((1 : Int32)).toUInt32 &&& Int32.toUInt32 31)).toInt32 &&& (1431655765 : Int32))) &&& (858993459 : Int32)) + ((((a0 - (((a0).toUInt32 >>> (((1 : Int32)).toUInt32 &&& Int32.toUInt32 31)).toInt32 &&& (1431655765 : Int32)))).toUInt32 >>> (((2 : Int32)).toUInt32 &&& Int32.toUInt32 31)).toInt32 &&& (858993459 : Int32)))).toUInt32 >>> (((4 : Int32)).toUInt32 &&& Int32.toUInt32 31)).toInt32) &&& (252645135 : Int32))).toUInt32 >>> (((8 : Int32)).toUInt32 &&& Int32.toUInt32 31)).toInt32)).toUInt32 >>> (((16 : Int32)).toUInt32 &&& Int32.toUInt32 31)).toInt32) &&& (63 : Int32))) := hres
  refine lv_iload_n hx hb dJ6_bitCount_0f7a4_0 rfl (lv_at hl 0 rfl) ?_
  refine lv_iload_n hx hb dJ6_bitCount_0f7a4_1 rfl (lv_at hl 0 rfl) ?_
  refine lv_iconst (v := 1) hx hb dJ6_bitCount_0f7a4_2 (by decide) ?_
  refine lv_iushr (v := ((a0).toUInt32 >>> (((1 : Int32)).toUInt32 &&& Int32.toUInt32 31)).toInt32) hx hb dJ6_bitCount_0f7a4_3 rfl ?_
  refine lv_ldcw hx hb hown (hw _ uw400) dJ6_bitCount_0f7a4_4 ?_
  refine lv_iand hx hb dJ6_bitCount_0f7a4_7 ?_
  refine lv_isub hx hb dJ6_bitCount_0f7a4_8 ?_
  refine lv_istore_n (lv' := [(0, .int (a0 - (((a0).toUInt32 >>> (((1 : Int32)).toUInt32 &&& Int32.toUInt32 31)).toInt32 &&& (1431655765 : Int32))))]) hx hb dJ6_bitCount_0f7a4_9 rfl hl (by decide) rfl (fun ls hl => ?_)
  refine lv_iload_n hx hb dJ6_bitCount_0f7a4_10 rfl (lv_at hl 0 rfl) ?_
  refine lv_ldcw hx hb hown (hw _ uw401) dJ6_bitCount_0f7a4_11 ?_
  refine lv_iand hx hb dJ6_bitCount_0f7a4_14 ?_
  refine lv_iload_n hx hb dJ6_bitCount_0f7a4_15 rfl (lv_at hl 0 rfl) ?_
  refine lv_iconst (v := 2) hx hb dJ6_bitCount_0f7a4_16 (by decide) ?_
  refine lv_iushr (v := (((a0 - (((a0).toUInt32 >>> (((1 : Int32)).toUInt32 &&& Int32.toUInt32 31)).toInt32 &&& (1431655765 : Int32)))).toUInt32 >>> (((2 : Int32)).toUInt32 &&& Int32.toUInt32 31)).toInt32) hx hb dJ6_bitCount_0f7a4_17 rfl ?_
  refine lv_ldcw hx hb hown (hw _ uw401) dJ6_bitCount_0f7a4_18 ?_
  refine lv_iand hx hb dJ6_bitCount_0f7a4_21 ?_
  refine lv_iadd hx hb dJ6_bitCount_0f7a4_22 ?_
  refine lv_istore_n (lv' := [(0, .int (((a0 - (((a0).toUInt32 >>> (((1 : Int32)).toUInt32 &&& Int32.toUInt32 31)).toInt32 &&& (1431655765 : Int32))) &&& (858993459 : Int32)) + ((((a0 - (((a0).toUInt32 >>> (((1 : Int32)).toUInt32 &&& Int32.toUInt32 31)).toInt32 &&& (1431655765 : Int32)))).toUInt32 >>> (((2 : Int32)).toUInt32 &&& Int32.toUInt32 31)).toInt32 &&& (858993459 : Int32))))]) hx hb dJ6_bitCount_0f7a4_23 rfl hl (by decide) rfl (fun ls hl => ?_)
  refine lv_iload_n hx hb dJ6_bitCount_0f7a4_24 rfl (lv_at hl 0 rfl) ?_
  refine lv_iload_n hx hb dJ6_bitCount_0f7a4_25 rfl (lv_at hl 0 rfl) ?_
  refine lv_iconst (v := 4) hx hb dJ6_bitCount_0f7a4_26 (by decide) ?_
  refine lv_iushr (v := (((((a0 - (((a0).toUInt32 >>> (((1 : Int32)).toUInt32 &&& Int32.toUInt32 31)).toInt32 &&& (1431655765 : Int32))) &&& (858993459 : Int32)) + ((((a0 - (((a0).toUInt32 >>> (((1 : Int32)).toUInt32 &&& Int32.toUInt32 31)).toInt32 &&& (1431655765 : Int32)))).toUInt32 >>> (((2 : Int32)).toUInt32 &&& Int32.toUInt32 31)).toInt32 &&& (858993459 : Int32)))).toUInt32 >>> (((4 : Int32)).toUInt32 &&& Int32.toUInt32 31)).toInt32) hx hb dJ6_bitCount_0f7a4_27 rfl ?_
  refine lv_iadd hx hb dJ6_bitCount_0f7a4_28 ?_
  refine lv_ldcw hx hb hown (hw _ uw402) dJ6_bitCount_0f7a4_29 ?_
  refine lv_iand hx hb dJ6_bitCount_0f7a4_32 ?_
  refine lv_istore_n (lv' := [(0, .int (((((a0 - (((a0).toUInt32 >>> (((1 : Int32)).toUInt32 &&& Int32.toUInt32 31)).toInt32 &&& (1431655765 : Int32))) &&& (858993459 : Int32)) + ((((a0 - (((a0).toUInt32 >>> (((1 : Int32)).toUInt32 &&& Int32.toUInt32 31)).toInt32 &&& (1431655765 : Int32)))).toUInt32 >>> (((2 : Int32)).toUInt32 &&& Int32.toUInt32 31)).toInt32 &&& (858993459 : Int32))) + (((((a0 - (((a0).toUInt32 >>> (((1 : Int32)).toUInt32 &&& Int32.toUInt32 31)).toInt32 &&& (1431655765 : Int32))) &&& (858993459 : Int32)) + ((((a0 - (((a0).toUInt32 >>> (((1 : Int32)).toUInt32 &&& Int32.toUInt32 31)).toInt32 &&& (1431655765 : Int32)))).toUInt32 >>> (((2 : Int32)).toUInt32 &&& Int32.toUInt32 31)).toInt32 &&& (858993459 : Int32)))).toUInt32 >>> (((4 : Int32)).toUInt32 &&& Int32.toUInt32 31)).toInt32) &&& (252645135 : Int32)))]) hx hb dJ6_bitCount_0f7a4_33 rfl hl (by decide) rfl (fun ls hl => ?_)
  refine lv_iload_n hx hb dJ6_bitCount_0f7a4_34 rfl (lv_at hl 0 rfl) ?_
  refine lv_iload_n hx hb dJ6_bitCount_0f7a4_35 rfl (lv_at hl 0 rfl) ?_
  refine lv_bipush (v := 8) hx hb dJ6_bitCount_0f7a4_36 (by decide) ?_
  refine lv_iushr (v := (((((((a0 - (((a0).toUInt32 >>> (((1 : Int32)).toUInt32 &&& Int32.toUInt32 31)).toInt32 &&& (1431655765 : Int32))) &&& (858993459 : Int32)) + ((((a0 - (((a0).toUInt32 >>> (((1 : Int32)).toUInt32 &&& Int32.toUInt32 31)).toInt32 &&& (1431655765 : Int32)))).toUInt32 >>> (((2 : Int32)).toUInt32 &&& Int32.toUInt32 31)).toInt32 &&& (858993459 : Int32))) + (((((a0 - (((a0).toUInt32 >>> (((1 : Int32)).toUInt32 &&& Int32.toUInt32 31)).toInt32 &&& (1431655765 : Int32))) &&& (858993459 : Int32)) + ((((a0 - (((a0).toUInt32 >>> (((1 : Int32)).toUInt32 &&& Int32.toUInt32 31)).toInt32 &&& (1431655765 : Int32)))).toUInt32 >>> (((2 : Int32)).toUInt32 &&& Int32.toUInt32 31)).toInt32 &&& (858993459 : Int32)))).toUInt32 >>> (((4 : Int32)).toUInt32 &&& Int32.toUInt32 31)).toInt32) &&& (252645135 : Int32))).toUInt32 >>> (((8 : Int32)).toUInt32 &&& Int32.toUInt32 31)).toInt32) hx hb dJ6_bitCount_0f7a4_38 rfl ?_
  refine lv_iadd hx hb dJ6_bitCount_0f7a4_39 ?_
  refine lv_istore_n (lv' := [(0, .int ((((((a0 - (((a0).toUInt32 >>> (((1 : Int32)).toUInt32 &&& Int32.toUInt32 31)).toInt32 &&& (1431655765 : Int32))) &&& (858993459 : Int32)) + ((((a0 - (((a0).toUInt32 >>> (((1 : Int32)).toUInt32 &&& Int32.toUInt32 31)).toInt32 &&& (1431655765 : Int32)))).toUInt32 >>> (((2 : Int32)).toUInt32 &&& Int32.toUInt32 31)).toInt32 &&& (858993459 : Int32))) + (((((a0 - (((a0).toUInt32 >>> (((1 : Int32)).toUInt32 &&& Int32.toUInt32 31)).toInt32 &&& (1431655765 : Int32))) &&& (858993459 : Int32)) + ((((a0 - (((a0).toUInt32 >>> (((1 : Int32)).toUInt32 &&& Int32.toUInt32 31)).toInt32 &&& (1431655765 : Int32)))).toUInt32 >>> (((2 : Int32)).toUInt32 &&& Int32.toUInt32 31)).toInt32 &&& (858993459 : Int32)))).toUInt32 >>> (((4 : Int32)).toUInt32 &&& Int32.toUInt32 31)).toInt32) &&& (252645135 : Int32)) + (((((((a0 - (((a0).toUInt32 >>> (((1 : Int32)).toUInt32 &&& Int32.toUInt32 31)).toInt32 &&& (1431655765 : Int32))) &&& (858993459 : Int32)) + ((((a0 - (((a0).toUInt32 >>> (((1 : Int32)).toUInt32 &&& Int32.toUInt32 31)).toInt32 &&& (1431655765 : Int32)))).toUInt32 >>> (((2 : Int32)).toUInt32 &&& Int32.toUInt32 31)).toInt32 &&& (858993459 : Int32))) + (((((a0 - (((a0).toUInt32 >>> (((1 : Int32)).toUInt32 &&& Int32.toUInt32 31)).toInt32 &&& (1431655765 : Int32))) &&& (858993459 : Int32)) + ((((a0 - (((a0).toUInt32 >>> (((1 : Int32)).toUInt32 &&& Int32.toUInt32 31)).toInt32 &&& (1431655765 : Int32)))).toUInt32 >>> (((2 : Int32)).toUInt32 &&& Int32.toUInt32 31)).toInt32 &&& (858993459 : Int32)))).toUInt32 >>> (((4 : Int32)).toUInt32 &&& Int32.toUInt32 31)).toInt32) &&& (252645135 : Int32))).toUInt32 >>> (((8 : Int32)).toUInt32 &&& Int32.toUInt32 31)).toInt32))]) hx hb dJ6_bitCount_0f7a4_40 rfl hl (by decide) rfl (fun ls hl => ?_)
  refine lv_iload_n hx hb dJ6_bitCount_0f7a4_41 rfl (lv_at hl 0 rfl) ?_
  refine lv_iload_n hx hb dJ6_bitCount_0f7a4_42 rfl (lv_at hl 0 rfl) ?_
  refine lv_bipush (v := 16) hx hb dJ6_bitCount_0f7a4_43 (by decide) ?_
  refine lv_iushr (v := ((((((((a0 - (((a0).toUInt32 >>> (((1 : Int32)).toUInt32 &&& Int32.toUInt32 31)).toInt32 &&& (1431655765 : Int32))) &&& (858993459 : Int32)) + ((((a0 - (((a0).toUInt32 >>> (((1 : Int32)).toUInt32 &&& Int32.toUInt32 31)).toInt32 &&& (1431655765 : Int32)))).toUInt32 >>> (((2 : Int32)).toUInt32 &&& Int32.toUInt32 31)).toInt32 &&& (858993459 : Int32))) + (((((a0 - (((a0).toUInt32 >>> (((1 : Int32)).toUInt32 &&& Int32.toUInt32 31)).toInt32 &&& (1431655765 : Int32))) &&& (858993459 : Int32)) + ((((a0 - (((a0).toUInt32 >>> (((1 : Int32)).toUInt32 &&& Int32.toUInt32 31)).toInt32 &&& (1431655765 : Int32)))).toUInt32 >>> (((2 : Int32)).toUInt32 &&& Int32.toUInt32 31)).toInt32 &&& (858993459 : Int32)))).toUInt32 >>> (((4 : Int32)).toUInt32 &&& Int32.toUInt32 31)).toInt32) &&& (252645135 : Int32)) + (((((((a0 - (((a0).toUInt32 >>> (((1 : Int32)).toUInt32 &&& Int32.toUInt32 31)).toInt32 &&& (1431655765 : Int32))) &&& (858993459 : Int32)) + ((((a0 - (((a0).toUInt32 >>> (((1 : Int32)).toUInt32 &&& Int32.toUInt32 31)).toInt32 &&& (1431655765 : Int32)))).toUInt32 >>> (((2 : Int32)).toUInt32 &&& Int32.toUInt32 31)).toInt32 &&& (858993459 : Int32))) + (((((a0 - (((a0).toUInt32 >>> (((1 : Int32)).toUInt32 &&& Int32.toUInt32 31)).toInt32 &&& (1431655765 : Int32))) &&& (858993459 : Int32)) + ((((a0 - (((a0).toUInt32 >>> (((1 : Int32)).toUInt32 &&& Int32.toUInt32 31)).toInt32 &&& (1431655765 : Int32)))).toUInt32 >>> (((2 : Int32)).toUInt32 &&& Int32.toUInt32 31)).toInt32 &&& (858993459 : Int32)))).toUInt32 >>> (((4 : Int32)).toUInt32 &&& Int32.toUInt32 31)).toInt32) &&& (252645135 : Int32))).toUInt32 >>> (((8 : Int32)).toUInt32 &&& Int32.toUInt32 31)).toInt32)).toUInt32 >>> (((16 : Int32)).toUInt32 &&& Int32.toUInt32 31)).toInt32) hx hb dJ6_bitCount_0f7a4_45 rfl ?_
  refine lv_iadd hx hb dJ6_bitCount_0f7a4_46 ?_
  refine lv_istore_n (lv' := [(0, .int (((((((a0 - (((a0).toUInt32 >>> (((1 : Int32)).toUInt32 &&& Int32.toUInt32 31)).toInt32 &&& (1431655765 : Int32))) &&& (858993459 : Int32)) + ((((a0 - (((a0).toUInt32 >>> (((1 : Int32)).toUInt32 &&& Int32.toUInt32 31)).toInt32 &&& (1431655765 : Int32)))).toUInt32 >>> (((2 : Int32)).toUInt32 &&& Int32.toUInt32 31)).toInt32 &&& (858993459 : Int32))) + (((((a0 - (((a0).toUInt32 >>> (((1 : Int32)).toUInt32 &&& Int32.toUInt32 31)).toInt32 &&& (1431655765 : Int32))) &&& (858993459 : Int32)) + ((((a0 - (((a0).toUInt32 >>> (((1 : Int32)).toUInt32 &&& Int32.toUInt32 31)).toInt32 &&& (1431655765 : Int32)))).toUInt32 >>> (((2 : Int32)).toUInt32 &&& Int32.toUInt32 31)).toInt32 &&& (858993459 : Int32)))).toUInt32 >>> (((4 : Int32)).toUInt32 &&& Int32.toUInt32 31)).toInt32) &&& (252645135 : Int32)) + (((((((a0 - (((a0).toUInt32 >>> (((1 : Int32)).toUInt32 &&& Int32.toUInt32 31)).toInt32 &&& (1431655765 : Int32))) &&& (858993459 : Int32)) + ((((a0 - (((a0).toUInt32 >>> (((1 : Int32)).toUInt32 &&& Int32.toUInt32 31)).toInt32 &&& (1431655765 : Int32)))).toUInt32 >>> (((2 : Int32)).toUInt32 &&& Int32.toUInt32 31)).toInt32 &&& (858993459 : Int32))) + (((((a0 - (((a0).toUInt32 >>> (((1 : Int32)).toUInt32 &&& Int32.toUInt32 31)).toInt32 &&& (1431655765 : Int32))) &&& (858993459 : Int32)) + ((((a0 - (((a0).toUInt32 >>> (((1 : Int32)).toUInt32 &&& Int32.toUInt32 31)).toInt32 &&& (1431655765 : Int32)))).toUInt32 >>> (((2 : Int32)).toUInt32 &&& Int32.toUInt32 31)).toInt32 &&& (858993459 : Int32)))).toUInt32 >>> (((4 : Int32)).toUInt32 &&& Int32.toUInt32 31)).toInt32) &&& (252645135 : Int32))).toUInt32 >>> (((8 : Int32)).toUInt32 &&& Int32.toUInt32 31)).toInt32) + ((((((((a0 - (((a0).toUInt32 >>> (((1 : Int32)).toUInt32 &&& Int32.toUInt32 31)).toInt32 &&& (1431655765 : Int32))) &&& (858993459 : Int32)) + ((((a0 - (((a0).toUInt32 >>> (((1 : Int32)).toUInt32 &&& Int32.toUInt32 31)).toInt32 &&& (1431655765 : Int32)))).toUInt32 >>> (((2 : Int32)).toUInt32 &&& Int32.toUInt32 31)).toInt32 &&& (858993459 : Int32))) + (((((a0 - (((a0).toUInt32 >>> (((1 : Int32)).toUInt32 &&& Int32.toUInt32 31)).toInt32 &&& (1431655765 : Int32))) &&& (858993459 : Int32)) + ((((a0 - (((a0).toUInt32 >>> (((1 : Int32)).toUInt32 &&& Int32.toUInt32 31)).toInt32 &&& (1431655765 : Int32)))).toUInt32 >>> (((2 : Int32)).toUInt32 &&& Int32.toUInt32 31)).toInt32 &&& (858993459 : Int32)))).toUInt32 >>> (((4 : Int32)).toUInt32 &&& Int32.toUInt32 31)).toInt32) &&& (252645135 : Int32)) + (((((((a0 - (((a0).toUInt32 >>> (((1 : Int32)).toUInt32 &&& Int32.toUInt32 31)).toInt32 &&& (1431655765 : Int32))) &&& (858993459 : Int32)) + ((((a0 - (((a0).toUInt32 >>> (((1 : Int32)).toUInt32 &&& Int32.toUInt32 31)).toInt32 &&& (1431655765 : Int32)))).toUInt32 >>> (((2 : Int32)).toUInt32 &&& Int32.toUInt32 31)).toInt32 &&& (858993459 : Int32))) + (((((a0 - (((a0).toUInt32 >>> (((1 : Int32)).toUInt32 &&& Int32.toUInt32 31)).toInt32 &&& (1431655765 : Int32))) &&& (858993459 : Int32)) + ((((a0 - (((a0).toUInt32 >>> (((1 : Int32)).toUInt32 &&& Int32.toUInt32 31)).toInt32 &&& (1431655765 : Int32)))).toUInt32 >>> (((2 : Int32)).toUInt32 &&& Int32.toUInt32 31)).toInt32 &&& (858993459 : Int32)))).toUInt32 >>> (((4 : Int32)).toUInt32 &&& Int32.toUInt32 31)).toInt32) &&& (252645135 : Int32))).toUInt32 >>> (((8 : Int32)).toUInt32 &&& Int32.toUInt32 31)).toInt32)).toUInt32 >>> (((16 : Int32)).toUInt32 &&& Int32.toUInt32 31)).toInt32))]) hx hb dJ6_bitCount_0f7a4_47 rfl hl (by decide) rfl (fun ls hl => ?_)
  refine lv_iload_n hx hb dJ6_bitCount_0f7a4_48 rfl (lv_at hl 0 rfl) ?_
  refine lv_bipush (v := 63) hx hb dJ6_bitCount_0f7a4_49 (by decide) ?_
  refine lv_iand hx hb dJ6_bitCount_0f7a4_51 ?_
  exact gh_iretR hx hb hr hlocks hP hS hT hres dJ6_bitCount_0f7a4_52
def MX4_at (k : Nat) (a1 : Int32) (V : gV) : Int32 := if a1 < 0 then ((0 : Int32)) else (if (nI (gk (k + 1) - 11)) ≤ a1 then ((0 : Int32)) else ((V (k + 1) (a1).toNatClampNeg)))
abbrev wc_X4_at : List Cond := Cond.code yX4_at cX4_at 2 (some .int) :: wsL_law
abbrev r_X4_at : Room := { frames := 0, cells := 0, slots := 0, locals := 0 }
theorem dd_X4_at : yX4_at.cls = RX4 ∧ yX4_at.cls ≠ "java/lang/invoke/MethodHandle" ∧ yX4_at.cls ≠ "java/lang/invoke/VarHandle" ∧ (parseMethodDescriptor yX4_at.desc).map (fun d => d.parameters.length) = some 1 := by decide +kernel
set_option maxHeartbeats 8000000 in
set_option maxRecDepth 100000 in
theorem cc_X4_at (l : Launch) (G : gG) (V : gV) (k : Nat) (hk : gX4 k)  (a1 : Int32)  : Met l yX4_at wc_X4_at r_X4_at (va_Pc [.ref (gA G k), .int a1] (gW G V)) (gQR G (MX4_at k a1 V) V) 0 0 (gF G) := by
  refine Met.ofW (cc := cX4_at) (maxL := 2) (ret := (some .int)) (by decide) rfl ?_
  intro p e s m args below meth c s₁ B hml hv
  obtain ⟨rfl, hP, hT⟩ := hv
  have hx := B.exec
  have hb := B.bytes
  have hr := B.returns
  have hw := gh_hw (atoms_spec (ws := wc_X4_at) B.pre)
  have hown : s.vm.findClass RX4 = some m.cls := findClass_of_methodNamed B.named
  have hlocks := B.notSynchronized
  have hS : va_S (gF G) s.heap s.heap [] := va_S.rf
  have hl := lv_entry ([.ref (gA G k), .int a1]) (n := 2) (Nat.le_of_ble_eq_true rfl)
  rw [lg_entry_eq]
  generalize (lg_sl ([.ref (gA G k), .int a1]) ++ List.replicate (2 - (lg_sl ([.ref (gA G k), .int a1])).length) Slot.unset).toArray = ls at hl ⊢
  have hl : lv_has ls 2 [(0, .ref (gA G k)), (1, .int a1)] := hl
  obtain ⟨res, hres⟩ : ∃ r, r = MX4_at k a1 V := ⟨_, rfl⟩
  rw [← hres]
  show W p l e r_X4_at s m ([.ref (gA G k), .int a1] : List Value).toArray below meth c s.heap [] 0 0 (MQ below (gQR G res V) ([.ref (gA G k), .int a1] : List Value).toArray s 0 0 (gF G)) (F0 m 0 ls [])
  have hres : res = (if a1 < 0 then ((0 : Int32)) else (if (nI (gk (k + 1) - 11)) ≤ a1 then ((0 : Int32)) else ((V (k + 1) (a1).toNatClampNeg)))) := hres
  refine lv_iload_n hx hb dX4_at_0 rfl (lv_at hl 1 rfl) ?_
  refine lv_if_lt (tgt := 22) hx hb dX4_at_1 (by decide) (fun c_1 => ?_) (fun c_1 => ?_)
  · have hres := hres.trans (if_pos c_1)
    refine lv_iconst (v := 0) hx hb dX4_at_22 (by decide) ?_
    exact gh_iretR hx hb hr hlocks hP hS hT hres dX4_at_23
  have hres := hres.trans (if_neg c_1)
  refine lv_iload_n hx hb dX4_at_4 rfl (lv_at hl 1 rfl) ?_
  refine lv_aload_n hx hb dX4_at_5 rfl (lv_at hl 0 rfl) ?_
  refine gh_get (v := .ref (gA G (k + 1))) (C := RX4) (T := TX4) (N := 1) hx hb hw inlX4 hown hT hP k (Nat.lt_of_succ_lt (hk).1) (hk).2.1 rfl rfl 0 (by decide) (hw _ uw69) rfl dX4_at_6 ?_
  refine gh_alen hx hb hT hP (k + 1) (hk).1 (hk).2.2 dX4_at_9 ?_
  refine lv_icmp_ge (tgt := 22) hx hb dX4_at_10 (by decide) (fun c_2 => ?_) (fun c_2 => ?_)
  · have hres := hres.trans (if_pos c_2)
    refine lv_iconst (v := 0) hx hb dX4_at_22 (by decide) ?_
    exact gh_iretR hx hb hr hlocks hP hS hT hres dX4_at_23
  have hres := hres.trans (if_neg c_2)
  refine lv_aload_n hx hb dX4_at_13 rfl (lv_at hl 0 rfl) ?_
  refine gh_get (v := .ref (gA G (k + 1))) (C := RX4) (T := TX4) (N := 1) hx hb hw inlX4 hown hT hP k (Nat.lt_of_succ_lt (hk).1) (hk).2.1 rfl rfl 0 (by decide) (hw _ uw69) rfl dX4_at_14 ?_
  refine lv_iload_n hx hb dX4_at_17 rfl (lv_at hl 1 rfl) ?_
  refine gh_iald hx hb hT hP (k + 1) (hk).1 (hk).2.2 (gh_in (by assumption) (by assumption) (gh_len _)) dX4_at_18 ?_
  refine lv_goto (tgt := 23) hx hb dX4_at_19 (by decide) ?_
  exact gh_iretR hx hb hr hlocks hP hS hT hres dX4_at_23
def MX4_put (k : Nat) (a1 : Int32) (a2 : Int32) (V : gV) : gV := if a1 < 0 then (V) else (if (nI (gk (k + 1) - 11)) ≤ a1 then (V) else ((gu V (k + 1) (a1).toNatClampNeg a2)))
abbrev wc_X4_put : List Cond := Cond.code yX4_put cX4_put 3 none :: wsL_law
abbrev r_X4_put : Room := { frames := 0, cells := 0, slots := 0, locals := 0 }
theorem dd_X4_put : yX4_put.cls = RX4 ∧ yX4_put.cls ≠ "java/lang/invoke/MethodHandle" ∧ yX4_put.cls ≠ "java/lang/invoke/VarHandle" ∧ (parseMethodDescriptor yX4_put.desc).map (fun d => d.parameters.length) = some 2 := by decide +kernel
set_option maxHeartbeats 8000000 in
set_option maxRecDepth 100000 in
theorem cc_X4_put (l : Launch) (G : gG) (V : gV) (k : Nat) (hk : gX4 k)  (a1 : Int32) (a2 : Int32)  : Met l yX4_put wc_X4_put r_X4_put (va_Pc [.ref (gA G k), .int a1, .int a2] (gW G V)) (gQV G (MX4_put k a1 a2 V)) 0 0 (gF G) := by
  refine Met.ofW (cc := cX4_put) (maxL := 3) (ret := none) (by decide) rfl ?_
  intro p e s m args below meth c s₁ B hml hv
  obtain ⟨rfl, hP, hT⟩ := hv
  have hx := B.exec
  have hb := B.bytes
  have hr := B.returns
  have hw := gh_hw (atoms_spec (ws := wc_X4_put) B.pre)
  have hown : s.vm.findClass RX4 = some m.cls := findClass_of_methodNamed B.named
  have hlocks := B.notSynchronized
  have hS : va_S (gF G) s.heap s.heap [] := va_S.rf
  have hl := lv_entry ([.ref (gA G k), .int a1, .int a2]) (n := 3) (Nat.le_of_ble_eq_true rfl)
  rw [lg_entry_eq]
  generalize (lg_sl ([.ref (gA G k), .int a1, .int a2]) ++ List.replicate (3 - (lg_sl ([.ref (gA G k), .int a1, .int a2])).length) Slot.unset).toArray = ls at hl ⊢
  have hl : lv_has ls 3 [(0, .ref (gA G k)), (1, .int a1), (2, .int a2)] := hl
  obtain ⟨res, hres⟩ : ∃ r, r = MX4_put k a1 a2 V := ⟨_, rfl⟩
  rw [← hres]
  show W p l e r_X4_put s m ([.ref (gA G k), .int a1, .int a2] : List Value).toArray below meth c s.heap [] 0 0 (MQ below (gQV G res) ([.ref (gA G k), .int a1, .int a2] : List Value).toArray s 0 0 (gF G)) (F0 m 0 ls [])
  have hres : res = (if a1 < 0 then (V) else (if (nI (gk (k + 1) - 11)) ≤ a1 then (V) else ((gu V (k + 1) (a1).toNatClampNeg a2)))) := hres
  refine lv_iload_n hx hb dX4_put_0 rfl (lv_at hl 1 rfl) ?_
  refine lv_if_lt (tgt := 20) hx hb dX4_put_1 (by decide) (fun c_1 => ?_) (fun c_1 => ?_)
  · have hres := hres.trans (if_pos c_1)
    exact gh_vret hx hb hr hlocks hP hS hT hres dX4_put_20
  have hres := hres.trans (if_neg c_1)
  refine lv_iload_n hx hb dX4_put_4 rfl (lv_at hl 1 rfl) ?_
  refine lv_aload_n hx hb dX4_put_5 rfl (lv_at hl 0 rfl) ?_
  refine gh_get (v := .ref (gA G (k + 1))) (C := RX4) (T := TX4) (N := 1) hx hb hw inlX4 hown hT hP k (Nat.lt_of_succ_lt (hk).1) (hk).2.1 rfl rfl 0 (by decide) (hw _ uw69) rfl dX4_put_6 ?_
  refine gh_alen hx hb hT hP (k + 1) (hk).1 (hk).2.2 dX4_put_9 ?_
  refine lv_icmp_ge (tgt := 20) hx hb dX4_put_10 (by decide) (fun c_2 => ?_) (fun c_2 => ?_)
  · have hres := hres.trans (if_pos c_2)
    exact gh_vret hx hb hr hlocks hP hS hT hres dX4_put_20
  have hres := hres.trans (if_neg c_2)
  refine lv_aload_n hx hb dX4_put_13 rfl (lv_at hl 0 rfl) ?_
  refine gh_get (v := .ref (gA G (k + 1))) (C := RX4) (T := TX4) (N := 1) hx hb hw inlX4 hown hT hP k (Nat.lt_of_succ_lt (hk).1) (hk).2.1 rfl rfl 0 (by decide) (hw _ uw69) rfl dX4_put_14 ?_
  refine lv_iload_n hx hb dX4_put_17 rfl (lv_at hl 1 rfl) ?_
  refine lv_iload_n hx hb dX4_put_18 rfl (lv_at hl 2 rfl) ?_
  refine gh_iast hx hb hT hP hS (k + 1) (hk).1 (hk).2.2 (gh_in (by assumption) (by assumption) (gh_len _)) dX4_put_19 (fun H locs hP hS => ?_)
  exact gh_vret hx hb hr hlocks hP hS hT hres dX4_put_20
theorem gv_RX4_19 : GoodIn wsL_law (wsV RX4 19 RX4 yX4_at wc_X4_at) := gh_gV uw256 uw190 uw191 uw55 uw192
theorem gv_RX4_23 : GoodIn wsL_law (wsV RX4 23 RX4 yX4_put wc_X4_put) := gh_gV uw257 uw194 uw195 uw55 uw196
def MX4_add (k : Nat) (a1 : Int32) (a2 : Int32) (V : gV) : gV := (MX4_put k a1 ((MX4_at k a1 V) + a2) V)
abbrev wc_X4_add : List Cond := Cond.code yX4_add cX4_add 3 none :: wsL_law
abbrev r_X4_add : Room := { frames := 1, cells := 0, slots := 0, locals := 22 }
theorem dd_X4_add : yX4_add.cls = RX4 ∧ yX4_add.cls ≠ "java/lang/invoke/MethodHandle" ∧ yX4_add.cls ≠ "java/lang/invoke/VarHandle" ∧ (parseMethodDescriptor yX4_add.desc).map (fun d => d.parameters.length) = some 2 := by decide +kernel
set_option maxHeartbeats 8000000 in
set_option maxRecDepth 100000 in
theorem cc_X4_add (l : Launch) (G : gG) (V : gV) (k : Nat) (hk : gX4 k)  (a1 : Int32) (a2 : Int32)  : Met l yX4_add wc_X4_add r_X4_add (va_Pc [.ref (gA G k), .int a1, .int a2] (gW G V)) (gQV G (MX4_add k a1 a2 V)) 0 0 (gF G) := by
  refine Met.ofW (cc := cX4_add) (maxL := 3) (ret := none) (by decide) rfl ?_
  intro p e s m args below meth c s₁ B hml hv
  obtain ⟨rfl, hP, hT⟩ := hv
  have hx := B.exec
  have hb := B.bytes
  have hr := B.returns
  have hw := gh_hw (atoms_spec (ws := wc_X4_add) B.pre)
  have hown : s.vm.findClass RX4 = some m.cls := findClass_of_methodNamed B.named
  have hlocks := B.notSynchronized
  have hS : va_S (gF G) s.heap s.heap [] := va_S.rf
  have hl := lv_entry ([.ref (gA G k), .int a1, .int a2]) (n := 3) (Nat.le_of_ble_eq_true rfl)
  rw [lg_entry_eq]
  generalize (lg_sl ([.ref (gA G k), .int a1, .int a2]) ++ List.replicate (3 - (lg_sl ([.ref (gA G k), .int a1, .int a2])).length) Slot.unset).toArray = ls at hl ⊢
  have hl : lv_has ls 3 [(0, .ref (gA G k)), (1, .int a1), (2, .int a2)] := hl
  obtain ⟨res, hres⟩ : ∃ r, r = MX4_add k a1 a2 V := ⟨_, rfl⟩
  rw [← hres]
  show W p l e r_X4_add s m ([.ref (gA G k), .int a1, .int a2] : List Value).toArray below meth c s.heap [] 0 0 (MQ below (gQV G res) ([.ref (gA G k), .int a1, .int a2] : List Value).toArray s 0 0 (gF G)) (F0 m 0 ls [])
  have hres : res = ((MX4_put k a1 ((MX4_at k a1 V) + a2) V)) := hres
  refine lv_aload_n hx hb dX4_add_0 rfl (lv_at hl 0 rfl) ?_
  refine lv_iload_n hx hb dX4_add_1 rfl (lv_at hl 1 rfl) ?_
  refine lv_aload_n hx hb dX4_add_2 rfl (lv_at hl 0 rfl) ?_
  refine lv_iload_n hx hb dX4_add_3 rfl (lv_at hl 1 rfl) ?_
  refine gh_kr (va_runV (As := [.int a1]) (rest := [.int a1, .ref (gA G k)]) ⟨hx, hb, hml, hown, hw⟩ (cc_X4_at l G V k hk a1) (cwV 1 hw gv_RX4_19 rfl rfl rfl dd_X4_at ⟨Nat.le_of_ble_eq_true rfl, Nat.le_of_ble_eq_true rfl⟩) (gh_preV hT hP (Nat.lt_of_succ_lt (hk).1) (hk).2.1 rfl rfl) rfl rfl hl.1 rfl (lv_room (Nat.le_of_ble_eq_true rfl)) dX4_add_4 ⟨Nat.zero_le _, Nat.zero_le _⟩) hS (fun H locs hP hS => ?_)
  refine lv_iload_n hx hb dX4_add_7 rfl (lv_at hl 2 rfl) ?_
  refine lv_iadd hx hb dX4_add_8 ?_
  refine gh_kv (va_runV (As := [.int a1, .int ((MX4_at k a1 V) + a2)]) (rest := []) ⟨hx, hb, hml, hown, hw⟩ (cc_X4_put l G V k hk a1 ((MX4_at k a1 V) + a2)) (cwV 2 hw gv_RX4_23 rfl rfl rfl dd_X4_put ⟨Nat.le_of_ble_eq_true rfl, Nat.le_of_ble_eq_true rfl⟩) (gh_preV hT hP (Nat.lt_of_succ_lt (hk).1) (hk).2.1 rfl rfl) rfl rfl hl.1 rfl (lv_room (Nat.le_of_ble_eq_true rfl)) dX4_add_9 ⟨Nat.zero_le _, Nat.zero_le _⟩) hS (fun H locs hP hS => ?_)
  exact gh_vret hx hb hr hlocks hP hS hT hres dX4_add_12
def MX4_copyFrom (k : Nat) (o : Nat)  (V : gV) : gV := (gs V (k + 1) (va_cpy (V (o + 1)) (V (k + 1)) 0 0 ((if (nI (gk (k + 1) - 11)) < (nI (gk (o + 1) - 11)) then (nI (gk (k + 1) - 11)) else (nI (gk (o + 1) - 11)))).toNatClampNeg))
def PX4_copyFrom (k : Nat) (o : Nat)  (V : gV) : Prop := (¬ (if (nI (gk (k + 1) - 11)) < (nI (gk (o + 1) - 11)) then (nI (gk (k + 1) - 11)) else (nI (gk (o + 1) - 11))) < 0) ∧ (((if (nI (gk (k + 1) - 11)) < (nI (gk (o + 1) - 11)) then (nI (gk (k + 1) - 11)) else (nI (gk (o + 1) - 11)))).toNatClampNeg ≤ (gk (o + 1) - 11)) ∧ (((if (nI (gk (k + 1) - 11)) < (nI (gk (o + 1) - 11)) then (nI (gk (k + 1) - 11)) else (nI (gk (o + 1) - 11)))).toNatClampNeg ≤ (gk (k + 1) - 11))
abbrev wc_X4_copyFrom : List Cond := Cond.code yX4_copyFrom cX4_copyFrom 2 none :: wsL_law
abbrev r_X4_copyFrom : Room := { frames := 1, cells := 0, slots := 0, locals := 40 }
theorem dd_X4_copyFrom : yX4_copyFrom.cls = RX4 ∧ yX4_copyFrom.cls ≠ "java/lang/invoke/MethodHandle" ∧ yX4_copyFrom.cls ≠ "java/lang/invoke/VarHandle" ∧ (parseMethodDescriptor yX4_copyFrom.desc).map (fun d => d.parameters.length) = some 1 := by decide +kernel
set_option maxHeartbeats 8000000 in
set_option maxRecDepth 100000 in
theorem cc0_X4_copyFrom (l : Launch) (G : gG) (V : gV) (k : Nat) (hk : gX4 k) (o : Nat) (ho : gX4 o)   (hs : PX4_copyFrom k o V) : Met l yX4_copyFrom wc_X4_copyFrom r_X4_copyFrom (va_Pc [.ref (gA G k), .ref (gA G o)] (gW G V)) (gQV G (MX4_copyFrom k o V)) 0 0 (gF G) := by
  refine Met.ofW (cc := cX4_copyFrom) (maxL := 2) (ret := none) (by decide) rfl ?_
  intro p e s m args below meth c s₁ B hml hv
  obtain ⟨rfl, hP, hT⟩ := hv
  have hx := B.exec
  have hb := B.bytes
  have hr := B.returns
  have hw := gh_hw (atoms_spec (ws := wc_X4_copyFrom) B.pre)
  have hown : s.vm.findClass RX4 = some m.cls := findClass_of_methodNamed B.named
  have hlocks := B.notSynchronized
  have hS : va_S (gF G) s.heap s.heap [] := va_S.rf
  have hl := lv_entry ([.ref (gA G k), .ref (gA G o)]) (n := 2) (Nat.le_of_ble_eq_true rfl)
  rw [lg_entry_eq]
  generalize (lg_sl ([.ref (gA G k), .ref (gA G o)]) ++ List.replicate (2 - (lg_sl ([.ref (gA G k), .ref (gA G o)])).length) Slot.unset).toArray = ls at hl ⊢
  have hl : lv_has ls 2 [(0, .ref (gA G k)), (1, .ref (gA G o))] := hl
  obtain ⟨res, hres⟩ : ∃ r, r = MX4_copyFrom k o V := ⟨_, rfl⟩
  rw [← hres]
  show W p l e r_X4_copyFrom s m ([.ref (gA G k), .ref (gA G o)] : List Value).toArray below meth c s.heap [] 0 0 (MQ below (gQV G res) ([.ref (gA G k), .ref (gA G o)] : List Value).toArray s 0 0 (gF G)) (F0 m 0 ls [])
  have hs : (¬ (if (nI (gk (k + 1) - 11)) < (nI (gk (o + 1) - 11)) then (nI (gk (k + 1) - 11)) else (nI (gk (o + 1) - 11))) < 0) ∧ (((if (nI (gk (k + 1) - 11)) < (nI (gk (o + 1) - 11)) then (nI (gk (k + 1) - 11)) else (nI (gk (o + 1) - 11)))).toNatClampNeg ≤ (gk (o + 1) - 11)) ∧ (((if (nI (gk (k + 1) - 11)) < (nI (gk (o + 1) - 11)) then (nI (gk (k + 1) - 11)) else (nI (gk (o + 1) - 11)))).toNatClampNeg ≤ (gk (k + 1) - 11)) := hs
  have hres : res = ((gs V (k + 1) (va_cpy (V (o + 1)) (V (k + 1)) 0 0 ((if (nI (gk (k + 1) - 11)) < (nI (gk (o + 1) - 11)) then (nI (gk (k + 1) - 11)) else (nI (gk (o + 1) - 11)))).toNatClampNeg))) := hres
  refine lv_aload_n hx hb dX4_copyFrom_0 rfl (lv_at hl 1 rfl) ?_
  refine gh_get (v := .ref (gA G (o + 1))) (C := RX4) (T := TX4) (N := 1) hx hb hw inlX4 hown hT hP o (Nat.lt_of_succ_lt (ho).1) (ho).2.1 rfl rfl 0 (by decide) (hw _ uw69) rfl dX4_copyFrom_1 ?_
  refine lv_iconst (v := 0) hx hb dX4_copyFrom_4 (by decide) ?_
  refine lv_aload_n hx hb dX4_copyFrom_5 rfl (lv_at hl 0 rfl) ?_
  refine gh_get (v := .ref (gA G (k + 1))) (C := RX4) (T := TX4) (N := 1) hx hb hw inlX4 hown hT hP k (Nat.lt_of_succ_lt (hk).1) (hk).2.1 rfl rfl 0 (by decide) (hw _ uw69) rfl dX4_copyFrom_6 ?_
  refine lv_iconst (v := 0) hx hb dX4_copyFrom_9 (by decide) ?_
  refine lv_aload_n hx hb dX4_copyFrom_10 rfl (lv_at hl 1 rfl) ?_
  refine gh_get (v := .ref (gA G (o + 1))) (C := RX4) (T := TX4) (N := 1) hx hb hw inlX4 hown hT hP o (Nat.lt_of_succ_lt (ho).1) (ho).2.1 rfl rfl 0 (by decide) (hw _ uw69) rfl dX4_copyFrom_11 ?_
  refine gh_alen hx hb hT hP (o + 1) (ho).1 (ho).2.2 dX4_copyFrom_14 ?_
  refine lv_aload_n hx hb dX4_copyFrom_15 rfl (lv_at hl 0 rfl) ?_
  refine gh_get (v := .ref (gA G (k + 1))) (C := RX4) (T := TX4) (N := 1) hx hb hw inlX4 hown hT hP k (Nat.lt_of_succ_lt (hk).1) (hk).2.1 rfl rfl 0 (by decide) (hw _ uw69) rfl dX4_copyFrom_16 ?_
  refine gh_alen hx hb hT hP (k + 1) (hk).1 (hk).2.2 dX4_copyFrom_19 ?_
  refine va_mmin hx hb (hml.trans hl.1.symm) hown (hw _ uw161) (hw _ uw143) (hw _ uw66) (hw _ uw144) (Nat.le_of_ble_eq_true rfl) (Nat.le_of_ble_eq_true rfl) (Nat.zero_le _) (Nat.zero_le _) dX4_copyFrom_20 ?_
  obtain ⟨ho_1, hs⟩ := hs
  obtain ⟨ho_2, hs⟩ := hs
  have ho_3 := hs
  refine gh_copy hx hb (hml.trans hl.1.symm) hown (hw _ uw162) (hw _ uw163) (hw _ uw164) (hw _ uw165) hT hP hS (o + 1) (k + 1) (ho).1 (hk).1 (ho).2.2 (hk).2.2 ho_1 ho_2 ho_3 (Nat.le_of_ble_eq_true rfl) (Nat.le_of_ble_eq_true rfl) dX4_copyFrom_23 (fun H locs hP hS => ?_)
  exact gh_vret hx hb hr hlocks hP hS hT hres dX4_copyFrom_26
theorem pp_X4_copyFrom (k : Nat) (o : Nat)  (V : gV) : PX4_copyFrom k o V := gh_cpP (gh_len _) (gh_len _)
theorem cc_X4_copyFrom (l : Launch) (G : gG) (V : gV) (k : Nat) (hk : gX4 k) (o : Nat) (ho : gX4 o)  : Met l yX4_copyFrom wc_X4_copyFrom r_X4_copyFrom (va_Pc [.ref (gA G k), .ref (gA G o)] (gW G V)) (gQV G (MX4_copyFrom k o V)) 0 0 (gF G) := cc0_X4_copyFrom l G V k hk o ho  (pp_X4_copyFrom k o V)
theorem gh_ci {i : Int32} {n : Nat} (h : decide (¬ (i < 0 ∨ n ≤ i.toNatClampNeg)) = true) : vp_in i n := by
  unfold vp_in
  exact of_decide_eq_true h
theorem gh_sw2 {x : Int32} {a n : Nat} (hn : n < 2 ^ 31) (h : ∀ j, a ≤ j → j ≤ n → ¬ x = nI j) : x.toInt < (a : Int) ∨ (n : Int) < x.toInt := by
  rcases Int.lt_or_le x.toInt (a : Int) with h0 | h0
  · exact Or.inl h0
  · rcases Int.lt_or_le (n : Int) x.toInt with h1 | h1
    · exact Or.inr h1
    · exfalso
      obtain ⟨j, hj⟩ := Int.eq_ofNat_of_zero_le (a := x.toInt) (by omega)
      refine h j (by omega) (by omega) (Int32.toInt_inj.mp ?_)
      rw [nI_toInt (by omega), hj]
abbrev gQA (G : gG) (b : Nat) (V : gV) : Array Value → State → Outcome → State → Prop := va_Qr (fun (V1 : gV) => V1 = V) (fun V1 a t => a = gA G b ∧ gW G V1 t) (gF G)
section GH2
variable {p : Program} {l : Launch} {e : Env} {R : Room} {s : State} {m : MethodId} {args : Array Value} {below : List Frame} {meth : Method} {c : Code} {H H0 : Heap} {locs : List Loc} {cells slots : Nat} {Q : State → Prop}
variable {G : gG} {V : gV} {pc b : Nat} {ls : Array Slot} {rest st0 : List Value} {cc : ByteArray} {A : Array Value}
theorem gh_ka (hr : va_Run p l e R s m args below meth c H locs cells slots 0 0 (F0 m pc ls st0) rest (gQA G b V A) (gF G)) (hS : va_S (gF G) H0 H locs)
    (kk : ∀ (H1 : Heap) (locs1 : List Loc), va_P (gD G) vwCl (gL G V) H1 → va_S (gF G) H0 H1 locs1 → W p l e R s m args below meth c H1 locs1 cells slots Q (F0 m (pc + 3) ls (.ref (gA G b) :: rest))) : W p l e R s m args below meth c H locs cells slots Q (F0 m pc ls st0) :=
  va_callr hr hS (fun _ _ h => h) (fun _ h => h) (fun V1 a t H1 locs1 ht hvm hw hB _ _ hS1 => by
    obtain ⟨rfl, hB⟩ := hB
    subst hw
    exact kk H1 locs1 (by rw [← ht]; exact hB.1) hS1)
theorem gh_rlen (hx : p.tables.exec = Jvm.exec) (hb : c.code = cc) (hT : gT G s) (hP : va_P (gD G) vwCl (gL G V) H) (hdg : decode cc pc = .ok (.arraylength, 1))
    (kk : W p l e R s m args below meth c H locs cells slots Q (F0 m (pc + 1) ls (.int 4 :: rest))) : W p l e R s m args below meth c H locs cells slots Q (F0 m pc ls (.ref (gA G 68) :: rest)) :=
  va_alen hx hb hT.1 hP 68 1 (gL_at (Nat.le_of_ble_eq_true rfl) kd68) rfl rfl hdg kk
theorem gh_rald (hx : p.tables.exec = Jvm.exec) (hb : c.code = cc) (hT : gT G s) (hP : va_P (gD G) vwCl (gL G V) H) {j : Nat} (hj : j < 4) (hdg : decode cc pc = .ok (.aaload, 1))
    (kk : W p l e R s m args below meth c H locs cells slots Q (F0 m (pc + 1) ls (.ref (gA G (69 + 33 * j)) :: rest))) : W p l e R s m args below meth c H locs cells slots Q (F0 m pc ls (.int (nI j) :: .ref (gA G 68) :: rest)) :=
  va_aldq hx hb hT.1 hP 68 1 (gL_at (Nat.le_of_ble_eq_true rfl) kd68) rfl (vp_in_nI hj (by omega)) hdg (by
    rw [nI_clamp (by omega)]
    exact kk)
end GH2
