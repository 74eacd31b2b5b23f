section GH3
variable {p : Program} {l : Launch} {e : Env} {R : Room} {s : State} {m : MethodId} {args : Array Value} {below : List Frame} {meth : Method} {c : Code} {H : Heap} {locs : List Loc} {cells slots : Nat} {Q : State → Prop}
variable {pc : Nat} {ls : Array Slot} {rest : List Value} {cc : ByteArray}
theorem gh_ldcwf (hexec : p.tables.exec = Jvm.exec) (hb : c.code = cc) {own : String} {index : Nat} {v : UInt32} (hown : s.vm.findClass own = some m.cls) (hconst : (Jvm.Cond.constantFloat own index v).before args s = true) (hdg : decode cc pc = .ok (.ldc_w index, 3)) (k : W p l e R s m args below meth c H locs cells slots Q (F0 m (pc + 3) ls (.float v :: rest))) : W p l e R s m args below meth c H locs cells slots Q (F0 m pc ls rest) := by
  intro T hT X
  obtain ⟨t, a, b⟩ := k T hT X
  obtain ⟨k0, cf, hk, hcf, hcp⟩ := Cond.constantFloat_spec hown hconst
  obtain ⟨k', hk', he⟩ := X.warmed.alike.2.2 _ _ hk
  refine ⟨t, ?_, b⟩
  jvm_step X.here [hexec, hb, hdg, ldc_w.wp_float (s := T) (f := F0 m pc ls rest) X.here.top hk' (by rw [he]; exact hcf) hcp]
  exact a
end GH3
def MX8_chanceOf  (a0 : Int32) (a1 : Int32) (V : gV) : UInt32 := if a1 ≤ 0 then (FP.fconst0) else ((FP.fdiv (FP.i2f a0) (FP.i2f a1)))
def PX8_chanceOf  (a0 : Int32) (a1 : Int32) (V : gV) : Prop := ((¬ a1 ≤ 0 → (vf_n32 (FP.fdiv (FP.i2f a0) (FP.i2f a1)))))
abbrev wc_X8_chanceOf : List Cond := Cond.code yX8_chanceOf cX8_chanceOf 2 (some .float) :: wsL_law
abbrev r_X8_chanceOf : Room := { frames := 0, cells := 0, slots := 0, locals := 0 }
theorem dd_X8_chanceOf : yX8_chanceOf.cls = RX8 ∧ yX8_chanceOf.cls ≠ "java/lang/invoke/MethodHandle" ∧ yX8_chanceOf.cls ≠ "java/lang/invoke/VarHandle" ∧ (parseMethodDescriptor yX8_chanceOf.desc).map (fun d => d.parameters.length) = some 2 := by decide +kernel
set_option maxHeartbeats 8000000 in
set_option maxRecDepth 100000 in
theorem cc_X8_chanceOf (l : Launch) (G : gG) (V : gV)   (a0 : Int32) (a1 : Int32) (hs : PX8_chanceOf a0 a1 V) : Met l yX8_chanceOf wc_X8_chanceOf r_X8_chanceOf (va_Pc [.int a0, .int a1] (gW G V)) (gQF G (MX8_chanceOf a0 a1 V) V) 0 0 (gF G) := by
  refine Met.ofW (cc := cX8_chanceOf) (maxL := 2) (ret := (some .float)) (by decide) rfl ?_
  intro p e s m args below meth c s₁ B hml hv
  obtain ⟨rfl, hP, hT⟩ := hv
  have hx := B.exec
  have hb := B.bytes
  have hr := B.returns
  have hw := gh_hw (atoms_spec (ws := wc_X8_chanceOf) B.pre)
  have hown : s.vm.findClass RX8 = some m.cls := findClass_of_methodNamed B.named
  have hlocks := B.notSynchronized
  have hS : va_S (gF G) s.heap s.heap [] := va_S.rf
  have hl := lv_entry ([.int a0, .int a1]) (n := 2) (Nat.le_of_ble_eq_true rfl)
  rw [lg_entry_eq]
  generalize (lg_sl ([.int a0, .int a1]) ++ List.replicate (2 - (lg_sl ([.int a0, .int a1])).length) Slot.unset).toArray = ls at hl ⊢
  have hl : lv_has ls 2 [(0, .int a0), (1, .int a1)] := hl
  obtain ⟨res, hres⟩ : ∃ r, r = MX8_chanceOf a0 a1 V := ⟨_, rfl⟩
  rw [← hres]
  show W p l e r_X8_chanceOf s m ([.int a0, .int a1] : List Value).toArray below meth c s.heap [] 0 0 (MQ below (gQF G res V) ([.int a0, .int a1] : List Value).toArray s 0 0 (gF G)) (F0 m 0 ls [])
  have hs : ((¬ a1 ≤ 0 → (vf_n32 (FP.fdiv (FP.i2f a0) (FP.i2f a1))))) := hs
  have hres : res = (if a1 ≤ 0 then (FP.fconst0) else ((FP.fdiv (FP.i2f a0) (FP.i2f a1)))) := hres
  refine lv_iload_n hx hb dX8_chanceOf_0 rfl (lv_at hl 1 rfl) ?_
  refine lv_if_le (tgt := 12) hx hb dX8_chanceOf_1 (by decide) (fun c_1 => ?_) (fun c_1 => ?_)
  · have hres := hres.trans (if_pos c_1)
    refine lv_fconst0 hx hb dX8_chanceOf_12 ?_
    exact gh_fretR hx hb hr hlocks hP hS hT hres dX8_chanceOf_13
  have hres := hres.trans (if_neg c_1)
  have hs := hs c_1
  refine lv_iload_n hx hb dX8_chanceOf_4 rfl (lv_at hl 0 rfl) ?_
  refine lv_i2f hx hb dX8_chanceOf_5 ?_
  refine lv_iload_n hx hb dX8_chanceOf_6 rfl (lv_at hl 1 rfl) ?_
  refine lv_i2f hx hb dX8_chanceOf_7 ?_
  have ho_2 := hs
  refine lv_fdiv hx hb dX8_chanceOf_8 ho_2 ?_
  refine lv_goto (tgt := 13) hx hb dX8_chanceOf_9 (by decide) ?_
  exact gh_fretR hx hb hr hlocks hP hS hT hres dX8_chanceOf_13
def BX8_bitsOf_40   (f1 : UInt32) (x2 : Int32) (V : gV) : Int32 := ((x2 <<< ((23 : Int32) &&& 31)) + (FP.f2i (FP.fmul (FP.fsub f1 FP.fconst1) (1258291200 : UInt32))))
def PX8_bitsOf_40   (f1 : UInt32) (x2 : Int32) (V : gV) : Prop := (vf_n32 (FP.fsub f1 FP.fconst1)) ∧ (vf_n32 (FP.fmul (FP.fsub f1 FP.fconst1) (1258291200 : UInt32)))
def BX8_bitsOf_15   : Nat → UInt32 → Int32 → Int32 → gV → Int32
  | 0, _, _, _, _ => 0
  | n + 1, f1, x2, x3, V => if (126 : Int32) ≤ x3 then (BX8_bitsOf_40 f1 x2 V) else (if 0 ≤ (Op.cmpValue (FP.fcmp f1 FP.fconst1) CmpOp.g) then (BX8_bitsOf_40 f1 x2 V) else ((BX8_bitsOf_15 n) (FP.fmul f1 FP.fconst2) (x2 + (-1 : Int32)) (x3 + (1 : Int32)) V))
def PX8_bitsOf_15   : Nat → UInt32 → Int32 → Int32 → gV → Prop
  | 0, _, _, _, _ => False
  | n + 1, f1, x2, x3, V => (((126 : Int32) ≤ x3 → (PX8_bitsOf_40 f1 x2 V)) ∧ (¬ (126 : Int32) ≤ x3 → ((0 ≤ (Op.cmpValue (FP.fcmp f1 FP.fconst1) CmpOp.g) → (PX8_bitsOf_40 f1 x2 V)) ∧ (¬ 0 ≤ (Op.cmpValue (FP.fcmp f1 FP.fconst1) CmpOp.g) → (vf_n32 (FP.fmul f1 FP.fconst2)) ∧ ((PX8_bitsOf_15 n) (FP.fmul f1 FP.fconst2) (x2 + (-1 : Int32)) (x3 + (1 : Int32)) V)))))
def MX8_bitsOf  (af0 : UInt32) (V : gV) : Int32 := if 0 < (Op.cmpValue (FP.fcmp af0 FP.fconst0) CmpOp.l) then (BX8_bitsOf_15 1000 af0 (127 : Int32) (0 : Int32) V) else ((0 : Int32))
def PX8_bitsOf  (af0 : UInt32) (V : gV) : Prop := ((0 < (Op.cmpValue (FP.fcmp af0 FP.fconst0) CmpOp.l) → (PX8_bitsOf_15 1000 af0 (127 : Int32) (0 : Int32) V)))
abbrev wc_X8_bitsOf : List Cond := Cond.code yX8_bitsOf cX8_bitsOf 4 (some .int) :: wsL_law
abbrev r_X8_bitsOf : Room := { frames := 0, cells := 0, slots := 0, locals := 0 }
theorem dd_X8_bitsOf : yX8_bitsOf.cls = RX8 ∧ yX8_bitsOf.cls ≠ "java/lang/invoke/MethodHandle" ∧ yX8_bitsOf.cls ≠ "java/lang/invoke/VarHandle" ∧ (parseMethodDescriptor yX8_bitsOf.desc).map (fun d => d.parameters.length) = some 1 := by decide +kernel
set_option maxHeartbeats 8000000 in
set_option maxRecDepth 100000 in
theorem cc_X8_bitsOf (l : Launch) (G : gG) (V : gV)   (af0 : UInt32) (hs : PX8_bitsOf af0 V) : Met l yX8_bitsOf wc_X8_bitsOf r_X8_bitsOf (va_Pc [.float af0] (gW G V)) (gQR G (MX8_bitsOf af0 V) V) 0 0 (gF G) := by
  refine Met.ofW (cc := cX8_bitsOf) (maxL := 4) (ret := (some .int)) (by decide) rfl ?_
  intro p e s m args below meth c s₁ B hml hv
  obtain ⟨rfl, hP, hT⟩ := hv
  have hx := B.exec
  have hb := B.bytes
  have hr := B.returns
  have hw := gh_hw (atoms_spec (ws := wc_X8_bitsOf) B.pre)
  have hown : s.vm.findClass RX8 = some m.cls := findClass_of_methodNamed B.named
  have hlocks := B.notSynchronized
  have hS : va_S (gF G) s.heap s.heap [] := va_S.rf
  have hl := lv_entry ([.float af0]) (n := 4) (Nat.le_of_ble_eq_true rfl)
  rw [lg_entry_eq]
  generalize (lg_sl ([.float af0]) ++ List.replicate (4 - (lg_sl ([.float af0])).length) Slot.unset).toArray = ls at hl ⊢
  have hl : lv_has ls 4 [(0, .float af0)] := hl
  obtain ⟨res, hres⟩ : ∃ r, r = MX8_bitsOf af0 V := ⟨_, rfl⟩
  rw [← hres]
  show W p l e r_X8_bitsOf s m ([.float af0] : List Value).toArray below meth c s.heap [] 0 0 (MQ below (gQR G res V) ([.float af0] : List Value).toArray s 0 0 (gF G)) (F0 m 0 ls [])
  have hs : ((0 < (Op.cmpValue (FP.fcmp af0 FP.fconst0) CmpOp.l) → (PX8_bitsOf_15 1000 af0 (127 : Int32) (0 : Int32) V))) := hs
  have hres : res = (if 0 < (Op.cmpValue (FP.fcmp af0 FP.fconst0) CmpOp.l) then (BX8_bitsOf_15 1000 af0 (127 : Int32) (0 : Int32) V) else ((0 : Int32))) := hres
  have b_40 : ∀ (f1 : UInt32) (x2 : Int32) (H : Heap) (locs : List Loc) (ls : Array Slot), lv_has ls 4 [(1, .float f1), (2, .int x2)] → va_P (gD G) vwCl (gL G V) H → va_S (gF G) s.heap H locs → PX8_bitsOf_40  f1 x2 V → res = BX8_bitsOf_40  f1 x2 V → W p l e r_X8_bitsOf s m ([.float af0] : List Value).toArray below meth c H locs 0 0 (MQ below (gQR G res V) ([.float af0] : List Value).toArray s 0 0 (gF G)) (F0 m 40 ls []) := by
    intro f1 x2 H locs ls hl hP hS hs hres
    have hs : (vf_n32 (FP.fsub f1 FP.fconst1)) ∧ (vf_n32 (FP.fmul (FP.fsub f1 FP.fconst1) (1258291200 : UInt32))) := hs
    have hres : res = (((x2 <<< ((23 : Int32) &&& 31)) + (FP.f2i (FP.fmul (FP.fsub f1 FP.fconst1) (1258291200 : UInt32))))) := hres
    refine lv_iload_n hx hb dX8_bitsOf_40 rfl (lv_at hl 1 rfl) ?_
    refine lv_bipush (v := 23) hx hb dX8_bitsOf_41 (by decide) ?_
    refine lv_ishl hx hb dX8_bitsOf_43 ?_
    refine lv_fload_n hx hb dX8_bitsOf_44 rfl (lv_at hl 0 rfl) ?_
    refine lv_fconst1 hx hb dX8_bitsOf_45 ?_
    obtain ⟨ho_3, hs⟩ := hs
    refine lv_fsub hx hb dX8_bitsOf_46 ho_3 ?_
    refine gh_ldcwf hx hb hown (hw _ uw651) dX8_bitsOf_47 ?_
    have ho_4 := hs
    refine lv_fmul hx hb dX8_bitsOf_50 ho_4 ?_
    refine lv_f2i hx hb dX8_bitsOf_51 ?_
    refine lv_iadd hx hb dX8_bitsOf_52 ?_
    exact gh_iretR hx hb hr hlocks hP hS hT hres dX8_bitsOf_53
  have b_15 : ∀ (n : Nat) (f1 : UInt32) (x2 : Int32) (x3 : Int32) (H : Heap) (locs : List Loc) (ls : Array Slot), lv_has ls 4 [(1, .float f1), (2, .int x2), (3, .int x3)] → va_P (gD G) vwCl (gL G V) H → va_S (gF G) s.heap H locs → PX8_bitsOf_15  n f1 x2 x3 V → res = BX8_bitsOf_15  n f1 x2 x3 V → W p l e r_X8_bitsOf s m ([.float af0] : List Value).toArray below meth c H locs 0 0 (MQ below (gQR G res V) ([.float af0] : List Value).toArray s 0 0 (gF G)) (F0 m 15 ls []) := by
    intro n
    induction n with
    | zero =>
      intro f1 x2 x3 H locs ls hl hP hS hs hres
      exact (show False from hs).elim
    | succ n15 ih15 =>
      intro f1 x2 x3 H locs ls hl hP hS hs hres
      have hs : (((126 : Int32) ≤ x3 → (PX8_bitsOf_40 f1 x2 V)) ∧ (¬ (126 : Int32) ≤ x3 → ((0 ≤ (Op.cmpValue (FP.fcmp f1 FP.fconst1) CmpOp.g) → (PX8_bitsOf_40 f1 x2 V)) ∧ (¬ 0 ≤ (Op.cmpValue (FP.fcmp f1 FP.fconst1) CmpOp.g) → (vf_n32 (FP.fmul f1 FP.fconst2)) ∧ ((PX8_bitsOf_15 n15) (FP.fmul f1 FP.fconst2) (x2 + (-1 : Int32)) (x3 + (1 : Int32)) V))))) := hs
      have hres : res = (if (126 : Int32) ≤ x3 then (BX8_bitsOf_40 f1 x2 V) else (if 0 ≤ (Op.cmpValue (FP.fcmp f1 FP.fconst1) CmpOp.g) then (BX8_bitsOf_40 f1 x2 V) else ((BX8_bitsOf_15 n15) (FP.fmul f1 FP.fconst2) (x2 + (-1 : Int32)) (x3 + (1 : Int32)) V))) := hres
      refine lv_iload_n hx hb dX8_bitsOf_15 rfl (lv_at hl 2 rfl) ?_
      refine lv_bipush (v := 126) hx hb dX8_bitsOf_16 (by decide) ?_
      refine lv_icmp_ge (tgt := 40) hx hb dX8_bitsOf_18 (by decide) (fun c_2 => ?_) (fun c_2 => ?_)
      · have hres := hres.trans (if_pos c_2)
        have hs := hs.1 c_2
        exact b_40 f1 x2 _ _ _ (lv_sub hl [0, 1] rfl) hP hS hs hres
      have hres := hres.trans (if_neg c_2)
      have hs := hs.2 c_2
      refine lv_fload_n hx hb dX8_bitsOf_21 rfl (lv_at hl 0 rfl) ?_
      refine lv_fconst1 hx hb dX8_bitsOf_22 ?_
      refine lv_fcmp hx hb dX8_bitsOf_23 ?_
      refine lv_if_ge (tgt := 40) hx hb dX8_bitsOf_24 (by decide) (fun c_5 => ?_) (fun c_5 => ?_)
      · have hres := hres.trans (if_pos c_5)
        have hs := hs.1 c_5
        exact b_40 f1 x2 _ _ _ (lv_sub hl [0, 1] rfl) hP hS hs hres
      have hres := hres.trans (if_neg c_5)
      have hs := hs.2 c_5
      refine lv_fload_n hx hb dX8_bitsOf_27 rfl (lv_at hl 0 rfl) ?_
      refine lv_fconst2 hx hb dX8_bitsOf_28 ?_
      obtain ⟨ho_6, hs⟩ := hs
      refine lv_fmul hx hb dX8_bitsOf_29 ho_6 ?_
      refine lv_fstore_n (lv' := [(1, .float (FP.fmul f1 FP.fconst2)), (2, .int x2), (3, .int x3)]) hx hb dX8_bitsOf_30 rfl hl (by decide) rfl (fun ls hl => ?_)
      refine lv_iinc (v := (x2 + (-1 : Int32))) (lv' := [(2, .int (x2 + (-1 : Int32))), (1, .float (FP.fmul f1 FP.fconst2)), (3, .int x3)]) hx hb dX8_bitsOf_31 hl (k := 1) rfl rfl (by decide) rfl (fun ls hl => ?_)
      refine lv_iinc (v := (x3 + (1 : Int32))) (lv' := [(3, .int (x3 + (1 : Int32))), (2, .int (x2 + (-1 : Int32))), (1, .float (FP.fmul f1 FP.fconst2))]) hx hb dX8_bitsOf_34 hl (k := 2) rfl rfl (by decide) rfl (fun ls hl => ?_)
      refine lv_goto (tgt := 15) hx hb dX8_bitsOf_37 (by decide) ?_
      exact ih15 (FP.fmul f1 FP.fconst2) (x2 + (-1 : Int32)) (x3 + (1 : Int32)) _ _ _ (lv_sub hl [2, 1, 0] rfl) hP hS hs hres
  refine lv_fload_n hx hb dX8_bitsOf_0 rfl (lv_at hl 0 rfl) ?_
  refine lv_fconst0 hx hb dX8_bitsOf_1 ?_
  refine lv_fcmp hx hb dX8_bitsOf_2 ?_
  refine lv_if_gt (tgt := 8) hx hb dX8_bitsOf_3 (by decide) (fun c_1 => ?_) (fun c_1 => ?_)
  · have hres := hres.trans (if_pos c_1)
    have hs := hs c_1
    refine lv_fload_n hx hb dX8_bitsOf_8 rfl (lv_at hl 0 rfl) ?_
    refine lv_fstore_n (lv' := [(1, .float af0), (0, .float af0)]) hx hb dX8_bitsOf_9 rfl hl (by decide) rfl (fun ls hl => ?_)
    refine lv_bipush (v := 127) hx hb dX8_bitsOf_10 (by decide) ?_
    refine lv_istore_n (lv' := [(2, .int (127 : Int32)), (1, .float af0), (0, .float af0)]) hx hb dX8_bitsOf_12 rfl hl (by decide) rfl (fun ls hl => ?_)
    refine lv_iconst (v := 0) hx hb dX8_bitsOf_13 (by decide) ?_
    refine lv_istore_n (lv' := [(3, .int (0 : Int32)), (2, .int (127 : Int32)), (1, .float af0), (0, .float af0)]) hx hb dX8_bitsOf_14 rfl hl (by decide) rfl (fun ls hl => ?_)
    exact b_15 1000 af0 (127 : Int32) (0 : Int32) _ _ _ (lv_sub hl [2, 1, 0] rfl) hP hS hs hres
  have hres := hres.trans (if_neg c_1)
  refine lv_iconst (v := 0) hx hb dX8_bitsOf_6 (by decide) ?_
  exact gh_iretR hx hb hr hlocks hP hS hT hres dX8_bitsOf_7
theorem gv_RX8_196 : GoodIn wsL_law (wsV RX8 196 RX5 yX5_fitting wc_X5_fitting) := gh_gV uw512 uw513 uw514 uw14 uw515
theorem gv_RX8_170 : GoodIn wsL_law (va_wsS RX8 170 yX8_holds wc_X8_holds) := gh_gS uw524 uw335 uw2 uw336
def MX8_fitOf  (a1 : Int32) (V : gV) : Int32 := if (V 24 0) = 0 then ((-4 : Int32)) else (if (MX8_holds (MX5_fitting V) a1 V) = 0 then ((0 : Int32)) else ((1 : Int32)))
def PX8_fitOf  (a1 : Int32) (V : gV) : Prop := ((¬ (V 24 0) = 0 → (PX5_fitting V)))
abbrev wc_X8_fitOf : List Cond := Cond.code yX8_fitOf cX8_fitOf 2 (some .int) :: wsL_law
abbrev r_X8_fitOf : Room := { frames := 5, cells := 0, slots := 0, locals := 115 }
theorem dd_X8_fitOf : yX8_fitOf.cls = RX8 ∧ yX8_fitOf.cls ≠ "java/lang/invoke/MethodHandle" ∧ yX8_fitOf.cls ≠ "java/lang/invoke/VarHandle" ∧ (parseMethodDescriptor yX8_fitOf.desc).map (fun d => d.parameters.length) = some 1 := by decide +kernel
set_option maxHeartbeats 8000000 in
set_option maxRecDepth 100000 in
theorem cc_X8_fitOf (l : Launch) (G : gG) (V : gV)   (a1 : Int32) (hs : PX8_fitOf a1 V) : Met l yX8_fitOf wc_X8_fitOf r_X8_fitOf (va_Pc [.ref (gA G 0), .int a1] (gW G V)) (gQR G (MX8_fitOf a1 V) V) 0 0 (gF G) := by
  refine Met.ofW (cc := cX8_fitOf) (maxL := 2) (ret := (some .int)) (by decide) rfl ?_
  intro p e s m args below meth c s₁ B hml hv
  obtain ⟨rfl, hP, hT⟩ := hv
  have hx := B.exec
  have hb := B.bytes
  have hr := B.returns
  have hw := gh_hw (atoms_spec (ws := wc_X8_fitOf) B.pre)
  have hown : s.vm.findClass RX8 = some m.cls := findClass_of_methodNamed B.named
  have hlocks := B.notSynchronized
  have hS : va_S (gF G) s.heap s.heap [] := va_S.rf
  have hl := lv_entry ([.ref (gA G 0), .int a1]) (n := 2) (Nat.le_of_ble_eq_true rfl)
  rw [lg_entry_eq]
  generalize (lg_sl ([.ref (gA G 0), .int a1]) ++ List.replicate (2 - (lg_sl ([.ref (gA G 0), .int a1])).length) Slot.unset).toArray = ls at hl ⊢
  have hl : lv_has ls 2 [(0, .ref (gA G 0)), (1, .int a1)] := hl
  obtain ⟨res, hres⟩ : ∃ r, r = MX8_fitOf a1 V := ⟨_, rfl⟩
  rw [← hres]
  show W p l e r_X8_fitOf s m ([.ref (gA G 0), .int a1] : List Value).toArray below meth c s.heap [] 0 0 (MQ below (gQR G res V) ([.ref (gA G 0), .int a1] : List Value).toArray s 0 0 (gF G)) (F0 m 0 ls [])
  have hs : ((¬ (V 24 0) = 0 → (PX5_fitting V))) := hs
  have hres : res = (if (V 24 0) = 0 then ((-4 : Int32)) else (if (MX8_holds (MX5_fitting V) a1 V) = 0 then ((0 : Int32)) else ((1 : Int32)))) := hres
  refine lv_aload_n hx hb dX8_fitOf_0 rfl (lv_at hl 0 rfl) ?_
  refine gh_get (v := .ref (gA G 1)) (C := RX8) (T := TX8) (N := 5) hx hb hw inlX8 hown hT hP 0 (Nat.le_of_ble_eq_true rfl) kd0 rfl rfl 0 (by decide) (hw _ uw15) rfl dX8_fitOf_1 ?_
  refine gh_get (v := .ref (gA G 24)) (C := RX5) (T := TX5) (N := 9) hx hb hw inlX5 hown hT hP 1 (Nat.le_of_ble_eq_true rfl) kd1 rfl rfl 2 (by decide) (hw _ uw127) rfl dX8_fitOf_4 ?_
  refine gh_get (v := .int (V 24 0)) (C := RX3) (T := TX3) (N := 7) hx hb hw inlX3 hown hT hP 24 (Nat.le_of_ble_eq_true rfl) kd24 rfl rfl 0 (by decide) (hw _ uw128) rfl dX8_fitOf_7 ?_
  refine lv_if_ne (tgt := 16) hx hb dX8_fitOf_10 (by decide) (fun c_1 => ?_) (fun c_1 => ?_)
  · have hres := hres.trans (if_neg c_1)
    have hs := hs c_1
    refine lv_aload_n hx hb dX8_fitOf_16 rfl (lv_at hl 0 rfl) ?_
    refine gh_get (v := .ref (gA G 1)) (C := RX8) (T := TX8) (N := 5) hx hb hw inlX8 hown hT hP 0 (Nat.le_of_ble_eq_true rfl) kd0 rfl rfl 0 (by decide) (hw _ uw15) rfl dX8_fitOf_17 ?_
    have ho_2 := hs
    refine gh_kr (va_runV (As := []) (rest := []) ⟨hx, hb, hml, hown, hw⟩ (cc_X5_fitting l G V ho_2) (cwV 0 hw gv_RX8_196 rfl rfl rfl dd_X5_fitting ⟨Nat.le_of_ble_eq_true rfl, Nat.le_of_ble_eq_true rfl⟩) (gh_preV hT hP (Nat.le_of_ble_eq_true rfl) kd1 rfl rfl) rfl rfl hl.1 rfl (lv_room (Nat.le_of_ble_eq_true rfl)) dX8_fitOf_20 ⟨Nat.zero_le _, Nat.zero_le _⟩) hS (fun H locs hP hS => ?_)
    refine lv_iload_n hx hb dX8_fitOf_23 rfl (lv_at hl 1 rfl) ?_
    refine gh_kr (va_runS (As := [.int (MX5_fitting V), .int a1]) (rest := []) ⟨hx, hb, hml, hown, hw⟩ (cc_X8_holds l G V (MX5_fitting V) a1) (va_cwS 2 hw gv_RX8_170 rfl rfl rfl dd_X8_holds.2 ⟨Nat.le_of_ble_eq_true rfl, Nat.le_of_ble_eq_true rfl⟩) (gh_pre hT hP) rfl rfl hl.1 rfl (lv_room (Nat.le_of_ble_eq_true rfl)) dX8_fitOf_24 ⟨Nat.zero_le _, Nat.zero_le _⟩) hS (fun H locs hP hS => ?_)
    refine lv_if_eq (tgt := 34) hx hb dX8_fitOf_27 (by decide) (fun c_3 => ?_) (fun c_3 => ?_)
    · have hres := hres.trans (if_pos c_3)
      refine lv_iconst (v := 0) hx hb dX8_fitOf_34 (by decide) ?_
      exact gh_iretR hx hb hr hlocks hP hS hT hres dX8_fitOf_35
    have hres := hres.trans (if_neg c_3)
    refine lv_iconst (v := 1) hx hb dX8_fitOf_30 (by decide) ?_
    refine lv_goto (tgt := 35) hx hb dX8_fitOf_31 (by decide) ?_
    exact gh_iretR hx hb hr hlocks hP hS hT hres dX8_fitOf_35
  have hres := hres.trans (if_pos c_1)
  refine lv_bipush (v := -4) hx hb dX8_fitOf_13 (by decide) ?_
  exact gh_iretR hx hb hr hlocks hP hS hT hres dX8_fitOf_15
theorem gv_RX8_68 : GoodIn wsL_law (wsV RX8 68 RX4 yX4_at wc_X4_at) := gh_gV uw189 uw190 uw191 uw55 uw192
theorem gv_RX8_164 : GoodIn wsL_law (wsV RX8 164 RX7 yX7_letterAt wc_X7_letterAt) := gh_gV uw529 uw393 uw394 uw31 uw395
def MX8_letterAtCode  (a1 : Int32) (a2 : Int32) (V : gV) : Int32 := if (MX8_isBetween a2 (10 : Int32) (((10 : Int32) + (MX4_at 3 a1 V)) - (1 : Int32)) V) = 0 then ((-1 : Int32)) else ((MX7_letterAt 2 a1 (a2 - (10 : Int32)) V))
abbrev wc_X8_letterAtCode : List Cond := Cond.code yX8_letterAtCode cX8_letterAtCode 3 (some .int) :: wsL_law
abbrev r_X8_letterAtCode : Room := { frames := 2, cells := 0, slots := 0, locals := 43 }
theorem dd_X8_letterAtCode : yX8_letterAtCode.cls = RX8 ∧ yX8_letterAtCode.cls ≠ "java/lang/invoke/MethodHandle" ∧ yX8_letterAtCode.cls ≠ "java/lang/invoke/VarHandle" ∧ (parseMethodDescriptor yX8_letterAtCode.desc).map (fun d => d.parameters.length) = some 2 := by decide +kernel
set_option maxHeartbeats 8000000 in
set_option maxRecDepth 100000 in
theorem cc_X8_letterAtCode (l : Launch) (G : gG) (V : gV)   (a1 : Int32) (a2 : Int32)  : Met l yX8_letterAtCode wc_X8_letterAtCode r_X8_letterAtCode (va_Pc [.ref (gA G 0), .int a1, .int a2] (gW G V)) (gQR G (MX8_letterAtCode a1 a2 V) V) 0 0 (gF G) := by
  refine Met.ofW (cc := cX8_letterAtCode) (maxL := 3) (ret := (some .int)) (by decide) rfl ?_
  intro p e s m args below meth c s₁ B hml hv
  obtain ⟨rfl, hP, hT⟩ := hv
  have hx := B.exec
  have hb := B.bytes
  have hr := B.returns
  have hw := gh_hw (atoms_spec (ws := wc_X8_letterAtCode) B.pre)
  have hown : s.vm.findClass RX8 = some m.cls := findClass_of_methodNamed B.named
  have hlocks := B.notSynchronized
  have hS : va_S (gF G) s.heap s.heap [] := va_S.rf
  have hl := lv_entry ([.ref (gA G 0), .int a1, .int a2]) (n := 3) (Nat.le_of_ble_eq_true rfl)
  rw [lg_entry_eq]
  generalize (lg_sl ([.ref (gA G 0), .int a1, .int a2]) ++ List.replicate (3 - (lg_sl ([.ref (gA G 0), .int a1, .int a2])).length) Slot.unset).toArray = ls at hl ⊢
  have hl : lv_has ls 3 [(0, .ref (gA G 0)), (1, .int a1), (2, .int a2)] := hl
  obtain ⟨res, hres⟩ : ∃ r, r = MX8_letterAtCode a1 a2 V := ⟨_, rfl⟩
  rw [← hres]
  show W p l e r_X8_letterAtCode s m ([.ref (gA G 0), .int a1, .int a2] : List Value).toArray below meth c s.heap [] 0 0 (MQ below (gQR G res V) ([.ref (gA G 0), .int a1, .int a2] : List Value).toArray s 0 0 (gF G)) (F0 m 0 ls [])
  have hres : res = (if (MX8_isBetween a2 (10 : Int32) (((10 : Int32) + (MX4_at 3 a1 V)) - (1 : Int32)) V) = 0 then ((-1 : Int32)) else ((MX7_letterAt 2 a1 (a2 - (10 : Int32)) V))) := hres
  refine lv_iload_n hx hb dX8_letterAtCode_0 rfl (lv_at hl 2 rfl) ?_
  refine lv_bipush (v := 10) hx hb dX8_letterAtCode_1 (by decide) ?_
  refine lv_bipush (v := 10) hx hb dX8_letterAtCode_3 (by decide) ?_
  refine lv_aload_n hx hb dX8_letterAtCode_5 rfl (lv_at hl 0 rfl) ?_
  refine gh_get (v := .ref (gA G 1)) (C := RX8) (T := TX8) (N := 5) hx hb hw inlX8 hown hT hP 0 (Nat.le_of_ble_eq_true rfl) kd0 rfl rfl 0 (by decide) (hw _ uw15) rfl dX8_letterAtCode_6 ?_
  refine gh_get (v := .ref (gA G 2)) (C := RX5) (T := TX5) (N := 9) hx hb hw inlX5 hown hT hP 1 (Nat.le_of_ble_eq_true rfl) kd1 rfl rfl 0 (by decide) (hw _ uw126) rfl dX8_letterAtCode_9 ?_
  refine gh_get (v := .ref (gA G 3)) (C := RX7) (T := TX7) (N := 5) hx hb hw inlX7 hown hT hP 2 (Nat.le_of_ble_eq_true rfl) kd2 rfl rfl 1 (by decide) (hw _ uw288) rfl dX8_letterAtCode_12 ?_
  refine lv_iload_n hx hb dX8_letterAtCode_15 rfl (lv_at hl 1 rfl) ?_
  refine gh_kr (va_runV (As := [.int a1]) (rest := [.int (10 : Int32), .int (10 : Int32), .int a2]) ⟨hx, hb, hml, hown, hw⟩ (cc_X4_at l G V 3 gi3 a1) (cwV 1 hw gv_RX8_68 rfl rfl rfl dd_X4_at ⟨Nat.le_of_ble_eq_true rfl, Nat.le_of_ble_eq_true rfl⟩) (gh_preV hT hP (Nat.le_of_ble_eq_true rfl) kd3 rfl rfl) rfl rfl hl.1 rfl (lv_room (Nat.le_of_ble_eq_true rfl)) dX8_letterAtCode_16 ⟨Nat.zero_le _, Nat.zero_le _⟩) hS (fun H locs hP hS => ?_)
  refine lv_iadd hx hb dX8_letterAtCode_19 ?_
  refine lv_iconst (v := 1) hx hb dX8_letterAtCode_20 (by decide) ?_
  refine lv_isub hx hb dX8_letterAtCode_21 ?_
  refine gh_kr (va_runS (As := [.int a2, .int (10 : Int32), .int (((10 : Int32) + (MX4_at 3 a1 V)) - (1 : Int32))]) (rest := []) ⟨hx, hb, hml, hown, hw⟩ (cc_X8_isBetween l G V a2 (10 : Int32) (((10 : Int32) + (MX4_at 3 a1 V)) - (1 : Int32))) (va_cwS 3 hw gv_RX8_47 rfl rfl rfl dd_X8_isBetween.2 ⟨Nat.le_of_ble_eq_true rfl, Nat.le_of_ble_eq_true rfl⟩) (gh_pre hT hP) rfl rfl hl.1 rfl (lv_room (Nat.le_of_ble_eq_true rfl)) dX8_letterAtCode_22 ⟨Nat.zero_le _, Nat.zero_le _⟩) hS (fun H locs hP hS => ?_)
  refine lv_if_ne (tgt := 30) hx hb dX8_letterAtCode_25 (by decide) (fun c_1 => ?_) (fun c_1 => ?_)
  · have hres := hres.trans (if_neg c_1)
    refine lv_aload_n hx hb dX8_letterAtCode_30 rfl (lv_at hl 0 rfl) ?_
    refine gh_get (v := .ref (gA G 1)) (C := RX8) (T := TX8) (N := 5) hx hb hw inlX8 hown hT hP 0 (Nat.le_of_ble_eq_true rfl) kd0 rfl rfl 0 (by decide) (hw _ uw15) rfl dX8_letterAtCode_31 ?_
    refine gh_get (v := .ref (gA G 2)) (C := RX5) (T := TX5) (N := 9) hx hb hw inlX5 hown hT hP 1 (Nat.le_of_ble_eq_true rfl) kd1 rfl rfl 0 (by decide) (hw _ uw126) rfl dX8_letterAtCode_34 ?_
    refine lv_iload_n hx hb dX8_letterAtCode_37 rfl (lv_at hl 1 rfl) ?_
    refine lv_iload_n hx hb dX8_letterAtCode_38 rfl (lv_at hl 2 rfl) ?_
    refine lv_bipush (v := 10) hx hb dX8_letterAtCode_39 (by decide) ?_
    refine lv_isub hx hb dX8_letterAtCode_41 ?_
    refine gh_kr (va_runV (As := [.int a1, .int (a2 - (10 : Int32))]) (rest := []) ⟨hx, hb, hml, hown, hw⟩ (cc_X7_letterAt l G V 2 gi2 a1 (a2 - (10 : Int32))) (cwV 2 hw gv_RX8_164 rfl rfl rfl dd_X7_letterAt ⟨Nat.le_of_ble_eq_true rfl, Nat.le_of_ble_eq_true rfl⟩) (gh_preV hT hP (Nat.le_of_ble_eq_true rfl) kd2 rfl rfl) rfl rfl hl.1 rfl (lv_room (Nat.le_of_ble_eq_true rfl)) dX8_letterAtCode_42 ⟨Nat.zero_le _, Nat.zero_le _⟩) hS (fun H locs hP hS => ?_)
    exact gh_iretR hx hb hr hlocks hP hS hT hres dX8_letterAtCode_45
  have hres := hres.trans (if_pos c_1)
  refine lv_iconst (v := -1) hx hb dX8_letterAtCode_28 (by decide) ?_
  exact gh_iretR hx hb hr hlocks hP hS hT hres dX8_letterAtCode_29
theorem gv_RX8_274 : GoodIn wsL_law (wsV RX8 274 RX5 yX5_openPlaces wc_X5_openPlaces) := gh_gV uw591 uw438 uw439 uw14 uw440
def MX8_countOfRound  (a1 : Int32) (V : gV) : Int32 := if a1 = 3 then ((V 24 3)) else (if a1 = 4 then ((V 24 4)) else (if a1 = 5 then ((V 24 5)) else (if a1 = 6 then ((V 24 6)) else ((MX5_openPlaces V)))))
def PX8_countOfRound  (a1 : Int32) (V : gV) : Prop := ((¬ a1 = 3 → ((¬ a1 = 4 → ((¬ a1 = 5 → ((¬ a1 = 6 → (PX5_openPlaces V)))))))))
abbrev wc_X8_countOfRound : List Cond := Cond.code yX8_countOfRound cX8_countOfRound 2 (some .int) :: wsL_law
abbrev r_X8_countOfRound : Room := { frames := 3, cells := 0, slots := 0, locals := 66 }
theorem dd_X8_countOfRound : yX8_countOfRound.cls = RX8 ∧ yX8_countOfRound.cls ≠ "java/lang/invoke/MethodHandle" ∧ yX8_countOfRound.cls ≠ "java/lang/invoke/VarHandle" ∧ (parseMethodDescriptor yX8_countOfRound.desc).map (fun d => d.parameters.length) = some 1 := by decide +kernel
set_option maxHeartbeats 8000000 in
set_option maxRecDepth 100000 in
theorem cc_X8_countOfRound (l : Launch) (G : gG) (V : gV)   (a1 : Int32) (hs : PX8_countOfRound a1 V) : Met l yX8_countOfRound wc_X8_countOfRound r_X8_countOfRound (va_Pc [.ref (gA G 0), .int a1] (gW G V)) (gQR G (MX8_countOfRound a1 V) V) 0 0 (gF G) := by
  refine Met.ofW (cc := cX8_countOfRound) (maxL := 2) (ret := (some .int)) (by decide) rfl ?_
  intro p e s m args below meth c s₁ B hml hv
  obtain ⟨rfl, hP, hT⟩ := hv
  have hx := B.exec
  have hb := B.bytes
  have hr := B.returns
  have hw := gh_hw (atoms_spec (ws := wc_X8_countOfRound) B.pre)
  have hown : s.vm.findClass RX8 = some m.cls := findClass_of_methodNamed B.named
  have hlocks := B.notSynchronized
  have hS : va_S (gF G) s.heap s.heap [] := va_S.rf
  have hl := lv_entry ([.ref (gA G 0), .int a1]) (n := 2) (Nat.le_of_ble_eq_true rfl)
  rw [lg_entry_eq]
  generalize (lg_sl ([.ref (gA G 0), .int a1]) ++ List.replicate (2 - (lg_sl ([.ref (gA G 0), .int a1])).length) Slot.unset).toArray = ls at hl ⊢
  have hl : lv_has ls 2 [(0, .ref (gA G 0)), (1, .int a1)] := hl
  obtain ⟨res, hres⟩ : ∃ r, r = MX8_countOfRound a1 V := ⟨_, rfl⟩
  rw [← hres]
  show W p l e r_X8_countOfRound s m ([.ref (gA G 0), .int a1] : List Value).toArray below meth c s.heap [] 0 0 (MQ below (gQR G res V) ([.ref (gA G 0), .int a1] : List Value).toArray s 0 0 (gF G)) (F0 m 0 ls [])
  have hs : ((¬ a1 = 3 → ((¬ a1 = 4 → ((¬ a1 = 5 → ((¬ a1 = 6 → (PX5_openPlaces V))))))))) := hs
  have hres : res = (if a1 = 3 then ((V 24 3)) else (if a1 = 4 then ((V 24 4)) else (if a1 = 5 then ((V 24 5)) else (if a1 = 6 then ((V 24 6)) else ((MX5_openPlaces V)))))) := hres
  refine lv_iload_n hx hb dX8_countOfRound_0 rfl (lv_at hl 1 rfl) ?_
  by_cases c_1 : a1 = 3
  · have hres := hres.trans (if_pos c_1)
    refine lv_tableIn (off := 31) (tgt := 32) hx hb dX8_countOfRound_1 (by rw [c_1]; decide) (by rw [c_1]; decide) (by rw [c_1]; rfl) (by decide) ?_
    refine lv_aload_n hx hb dX8_countOfRound_32 rfl (lv_at hl 0 rfl) ?_
    refine gh_get (v := .ref (gA G 1)) (C := RX8) (T := TX8) (N := 5) hx hb hw inlX8 hown hT hP 0 (Nat.le_of_ble_eq_true rfl) kd0 rfl rfl 0 (by decide) (hw _ uw15) rfl dX8_countOfRound_33 ?_
    refine gh_get (v := .ref (gA G 24)) (C := RX5) (T := TX5) (N := 9) hx hb hw inlX5 hown hT hP 1 (Nat.le_of_ble_eq_true rfl) kd1 rfl rfl 2 (by decide) (hw _ uw127) rfl dX8_countOfRound_36 ?_
    refine gh_get (v := .int (V 24 3)) (C := RX3) (T := TX3) (N := 7) hx hb hw inlX3 hown hT hP 24 (Nat.le_of_ble_eq_true rfl) kd24 rfl rfl 3 (by decide) (hw _ uw588) rfl dX8_countOfRound_39 ?_
    exact gh_iretR hx hb hr hlocks hP hS hT hres dX8_countOfRound_42
  · have hres := hres.trans (if_neg c_1)
    have hs := hs c_1
    by_cases c_2 : a1 = 4
    · have hres := hres.trans (if_pos c_2)
      refine lv_tableIn (off := 42) (tgt := 43) hx hb dX8_countOfRound_1 (by rw [c_2]; decide) (by rw [c_2]; decide) (by rw [c_2]; rfl) (by decide) ?_
      refine lv_aload_n hx hb dX8_countOfRound_43 rfl (lv_at hl 0 rfl) ?_
      refine gh_get (v := .ref (gA G 1)) (C := RX8) (T := TX8) (N := 5) hx hb hw inlX8 hown hT hP 0 (Nat.le_of_ble_eq_true rfl) kd0 rfl rfl 0 (by decide) (hw _ uw15) rfl dX8_countOfRound_44 ?_
      refine gh_get (v := .ref (gA G 24)) (C := RX5) (T := TX5) (N := 9) hx hb hw inlX5 hown hT hP 1 (Nat.le_of_ble_eq_true rfl) kd1 rfl rfl 2 (by decide) (hw _ uw127) rfl dX8_countOfRound_47 ?_
      refine gh_get (v := .int (V 24 4)) (C := RX3) (T := TX3) (N := 7) hx hb hw inlX3 hown hT hP 24 (Nat.le_of_ble_eq_true rfl) kd24 rfl rfl 4 (by decide) (hw _ uw589) rfl dX8_countOfRound_50 ?_
      exact gh_iretR hx hb hr hlocks hP hS hT hres dX8_countOfRound_53
    · have hres := hres.trans (if_neg c_2)
      have hs := hs c_2
      by_cases c_3 : a1 = 5
      · have hres := hres.trans (if_pos c_3)
        refine lv_tableIn (off := 53) (tgt := 54) hx hb dX8_countOfRound_1 (by rw [c_3]; decide) (by rw [c_3]; decide) (by rw [c_3]; rfl) (by decide) ?_
        refine lv_aload_n hx hb dX8_countOfRound_54 rfl (lv_at hl 0 rfl) ?_
        refine gh_get (v := .ref (gA G 1)) (C := RX8) (T := TX8) (N := 5) hx hb hw inlX8 hown hT hP 0 (Nat.le_of_ble_eq_true rfl) kd0 rfl rfl 0 (by decide) (hw _ uw15) rfl dX8_countOfRound_55 ?_
        refine gh_get (v := .ref (gA G 24)) (C := RX5) (T := TX5) (N := 9) hx hb hw inlX5 hown hT hP 1 (Nat.le_of_ble_eq_true rfl) kd1 rfl rfl 2 (by decide) (hw _ uw127) rfl dX8_countOfRound_58 ?_
        refine gh_get (v := .int (V 24 5)) (C := RX3) (T := TX3) (N := 7) hx hb hw inlX3 hown hT hP 24 (Nat.le_of_ble_eq_true rfl) kd24 rfl rfl 5 (by decide) (hw _ uw590) rfl dX8_countOfRound_61 ?_
        exact gh_iretR hx hb hr hlocks hP hS hT hres dX8_countOfRound_64
      · have hres := hres.trans (if_neg c_3)
        have hs := hs c_3
        by_cases c_4 : a1 = 6
        · have hres := hres.trans (if_pos c_4)
          refine lv_tableIn (off := 64) (tgt := 65) hx hb dX8_countOfRound_1 (by rw [c_4]; decide) (by rw [c_4]; decide) (by rw [c_4]; rfl) (by decide) ?_
          refine lv_aload_n hx hb dX8_countOfRound_65 rfl (lv_at hl 0 rfl) ?_
          refine gh_get (v := .ref (gA G 1)) (C := RX8) (T := TX8) (N := 5) hx hb hw inlX8 hown hT hP 0 (Nat.le_of_ble_eq_true rfl) kd0 rfl rfl 0 (by decide) (hw _ uw15) rfl dX8_countOfRound_66 ?_
          refine gh_get (v := .ref (gA G 24)) (C := RX5) (T := TX5) (N := 9) hx hb hw inlX5 hown hT hP 1 (Nat.le_of_ble_eq_true rfl) kd1 rfl rfl 2 (by decide) (hw _ uw127) rfl dX8_countOfRound_69 ?_
          refine gh_get (v := .int (V 24 6)) (C := RX3) (T := TX3) (N := 7) hx hb hw inlX3 hown hT hP 24 (Nat.le_of_ble_eq_true rfl) kd24 rfl rfl 6 (by decide) (hw _ uw561) rfl dX8_countOfRound_72 ?_
          exact gh_iretR hx hb hr hlocks hP hS hT hres dX8_countOfRound_75
        · have hres := hres.trans (if_neg c_4)
          have hs := hs c_4
          refine lv_tableOut (tgt := 76) hx hb dX8_countOfRound_1 (gh_sw2 (a := 3) (n := 6) (by decide) (fun j hi hj => by
              rcases (show j = 3 ∨ j = 4 ∨ j = 5 ∨ j = 6 by omega) with rfl | rfl | rfl | rfl
              · exact c_1
              · exact c_2
              · exact c_3
              · exact c_4)) (by decide) ?_
          refine lv_aload_n hx hb dX8_countOfRound_76 rfl (lv_at hl 0 rfl) ?_
          refine gh_get (v := .ref (gA G 1)) (C := RX8) (T := TX8) (N := 5) hx hb hw inlX8 hown hT hP 0 (Nat.le_of_ble_eq_true rfl) kd0 rfl rfl 0 (by decide) (hw _ uw15) rfl dX8_countOfRound_77 ?_
          have ho_5 := hs
          refine gh_kr (va_runV (As := []) (rest := []) ⟨hx, hb, hml, hown, hw⟩ (cc_X5_openPlaces l G V ho_5) (cwV 0 hw gv_RX8_274 rfl rfl rfl dd_X5_openPlaces ⟨Nat.le_of_ble_eq_true rfl, Nat.le_of_ble_eq_true rfl⟩) (gh_preV hT hP (Nat.le_of_ble_eq_true rfl) kd1 rfl rfl) rfl rfl hl.1 rfl (lv_room (Nat.le_of_ble_eq_true rfl)) dX8_countOfRound_80 ⟨Nat.zero_le _, Nat.zero_le _⟩) hS (fun H locs hP hS => ?_)
          exact gh_iretR hx hb hr hlocks hP hS hT hres dX8_countOfRound_83
theorem gv_RX8_283 : GoodIn wsL_law (wsV RX8 283 RX7 yX7_weightSum wc_X7_weightSum) := gh_gV uw601 uw328 uw329 uw31 uw330
def MX8_countOfHall  (a1 : Int32) (V : gV) : Int32 := if a1 = 0 then ((V 2 0)) else (if a1 = 1 then ((V 11 0)) else (if a1 = 2 then (if (V 24 0) = 0 then ((0 : Int32)) else ((1 : Int32))) else (if a1 = 3 then ((V 1 8)) else (if a1 = 4 then ((V 1 8)) else (if a1 = 5 then ((V 1 8)) else (if a1 = 6 then ((V 1 8)) else (if a1 = 7 then ((V 1 8)) else (if a1 = 8 then ((V 1 4)) else (if a1 = 9 then ((V 1 6)) else (if a1 = 10 then ((V 1 7)) else (if a1 = 11 then ((MX7_weightSum V)) else (if a1 = 12 then ((V 67 0)) else (if a1 = 13 then ((V 201 0)) else (if a1 = 14 then (if (V 0 4) = 0 then ((0 : Int32)) else ((1 : Int32))) else ((V 1 8))))))))))))))))
def PX8_countOfHall  (a1 : Int32) (V : gV) : Prop := ((¬ a1 = 0 → ((¬ a1 = 1 → ((¬ a1 = 2 → ((¬ a1 = 3 → ((¬ a1 = 4 → ((¬ a1 = 5 → ((¬ a1 = 6 → ((¬ a1 = 7 → ((¬ a1 = 8 → ((¬ a1 = 9 → ((¬ a1 = 10 → ((a1 = 11 → (PX7_weightSum V)))))))))))))))))))))))))
abbrev wc_X8_countOfHall : List Cond := Cond.code yX8_countOfHall cX8_countOfHall 2 (some .int) :: wsL_law
abbrev r_X8_countOfHall : Room := { frames := 3, cells := 0, slots := 0, locals := 64 }
theorem dd_X8_countOfHall : yX8_countOfHall.cls = RX8 ∧ yX8_countOfHall.cls ≠ "java/lang/invoke/MethodHandle" ∧ yX8_countOfHall.cls ≠ "java/lang/invoke/VarHandle" ∧ (parseMethodDescriptor yX8_countOfHall.desc).map (fun d => d.parameters.length) = some 1 := by decide +kernel
set_option maxHeartbeats 8000000 in
set_option maxRecDepth 100000 in
theorem cc_X8_countOfHall (l : Launch) (G : gG) (V : gV)   (a1 : Int32) (hs : PX8_countOfHall a1 V) : Met l yX8_countOfHall wc_X8_countOfHall r_X8_countOfHall (va_Pc [.ref (gA G 0), .int a1] (gW G V)) (gQR G (MX8_countOfHall a1 V) V) 0 0 (gF G) := by
  refine Met.ofW (cc := cX8_countOfHall) (maxL := 2) (ret := (some .int)) (by decide) rfl ?_
  intro p e s m args below meth c s₁ B hml hv
  obtain ⟨rfl, hP, hT⟩ := hv
  have hx := B.exec
  have hb := B.bytes
  have hr := B.returns
  have hw := gh_hw (atoms_spec (ws := wc_X8_countOfHall) B.pre)
  have hown : s.vm.findClass RX8 = some m.cls := findClass_of_methodNamed B.named
  have hlocks := B.notSynchronized
  have hS : va_S (gF G) s.heap s.heap [] := va_S.rf
  have hl := lv_entry ([.ref (gA G 0), .int a1]) (n := 2) (Nat.le_of_ble_eq_true rfl)
  rw [lg_entry_eq]
  generalize (lg_sl ([.ref (gA G 0), .int a1]) ++ List.replicate (2 - (lg_sl ([.ref (gA G 0), .int a1])).length) Slot.unset).toArray = ls at hl ⊢
  have hl : lv_has ls 2 [(0, .ref (gA G 0)), (1, .int a1)] := hl
  obtain ⟨res, hres⟩ : ∃ r, r = MX8_countOfHall a1 V := ⟨_, rfl⟩
  rw [← hres]
  show W p l e r_X8_countOfHall s m ([.ref (gA G 0), .int a1] : List Value).toArray below meth c s.heap [] 0 0 (MQ below (gQR G res V) ([.ref (gA G 0), .int a1] : List Value).toArray s 0 0 (gF G)) (F0 m 0 ls [])
  have hs : ((¬ a1 = 0 → ((¬ a1 = 1 → ((¬ a1 = 2 → ((¬ a1 = 3 → ((¬ a1 = 4 → ((¬ a1 = 5 → ((¬ a1 = 6 → ((¬ a1 = 7 → ((¬ a1 = 8 → ((¬ a1 = 9 → ((¬ a1 = 10 → ((a1 = 11 → (PX7_weightSum V))))))))))))))))))))))))) := hs
  have hres : res = (if a1 = 0 then ((V 2 0)) else (if a1 = 1 then ((V 11 0)) else (if a1 = 2 then (if (V 24 0) = 0 then ((0 : Int32)) else ((1 : Int32))) else (if a1 = 3 then ((V 1 8)) else (if a1 = 4 then ((V 1 8)) else (if a1 = 5 then ((V 1 8)) else (if a1 = 6 then ((V 1 8)) else (if a1 = 7 then ((V 1 8)) else (if a1 = 8 then ((V 1 4)) else (if a1 = 9 then ((V 1 6)) else (if a1 = 10 then ((V 1 7)) else (if a1 = 11 then ((MX7_weightSum V)) else (if a1 = 12 then ((V 67 0)) else (if a1 = 13 then ((V 201 0)) else (if a1 = 14 then (if (V 0 4) = 0 then ((0 : Int32)) else ((1 : Int32))) else ((V 1 8))))))))))))))))) := hres
  refine lv_iload_n hx hb dX8_countOfHall_0 rfl (lv_at hl 1 rfl) ?_
  by_cases c_1 : a1 = 0
  · have hres := hres.trans (if_pos c_1)
    refine lv_tableIn (off := 75) (tgt := 76) hx hb dX8_countOfHall_1 (by rw [c_1]; decide) (by rw [c_1]; decide) (by rw [c_1]; rfl) (by decide) ?_
    refine lv_aload_n hx hb dX8_countOfHall_76 rfl (lv_at hl 0 rfl) ?_
    refine gh_get (v := .ref (gA G 1)) (C := RX8) (T := TX8) (N := 5) hx hb hw inlX8 hown hT hP 0 (Nat.le_of_ble_eq_true rfl) kd0 rfl rfl 0 (by decide) (hw _ uw15) rfl dX8_countOfHall_77 ?_
    refine gh_get (v := .ref (gA G 2)) (C := RX5) (T := TX5) (N := 9) hx hb hw inlX5 hown hT hP 1 (Nat.le_of_ble_eq_true rfl) kd1 rfl rfl 0 (by decide) (hw _ uw126) rfl dX8_countOfHall_80 ?_
    refine gh_get (v := .int (V 2 0)) (C := RX7) (T := TX7) (N := 5) hx hb hw inlX7 hown hT hP 2 (Nat.le_of_ble_eq_true rfl) kd2 rfl rfl 0 (by decide) (hw _ uw596) rfl dX8_countOfHall_83 ?_
    exact gh_iretR hx hb hr hlocks hP hS hT hres dX8_countOfHall_86
  · have hres := hres.trans (if_neg c_1)
    have hs := hs c_1
    by_cases c_2 : a1 = 1
    · have hres := hres.trans (if_pos c_2)
      refine lv_tableIn (off := 86) (tgt := 87) hx hb dX8_countOfHall_1 (by rw [c_2]; decide) (by rw [c_2]; decide) (by rw [c_2]; rfl) (by decide) ?_
      refine lv_aload_n hx hb dX8_countOfHall_87 rfl (lv_at hl 0 rfl) ?_
      refine gh_get (v := .ref (gA G 1)) (C := RX8) (T := TX8) (N := 5) hx hb hw inlX8 hown hT hP 0 (Nat.le_of_ble_eq_true rfl) kd0 rfl rfl 0 (by decide) (hw _ uw15) rfl dX8_countOfHall_88 ?_
      refine gh_get (v := .ref (gA G 11)) (C := RX5) (T := TX5) (N := 9) hx hb hw inlX5 hown hT hP 1 (Nat.le_of_ble_eq_true rfl) kd1 rfl rfl 1 (by decide) (hw _ uw225) rfl dX8_countOfHall_91 ?_
      refine gh_get (v := .int (V 11 0)) (C := RX0) (T := TX0) (N := 7) hx hb hw inlX0 hown hT hP 11 (Nat.le_of_ble_eq_true rfl) kd11 rfl rfl 0 (by decide) (hw _ uw226) rfl dX8_countOfHall_94 ?_
      exact gh_iretR hx hb hr hlocks hP hS hT hres dX8_countOfHall_97
    · have hres := hres.trans (if_neg c_2)
      have hs := hs c_2
      by_cases c_3 : a1 = 2
      · have hres := hres.trans (if_pos c_3)
        refine lv_tableIn (off := 97) (tgt := 98) hx hb dX8_countOfHall_1 (by rw [c_3]; decide) (by rw [c_3]; decide) (by rw [c_3]; rfl) (by decide) ?_
        refine lv_aload_n hx hb dX8_countOfHall_98 rfl (lv_at hl 0 rfl) ?_
        refine gh_get (v := .ref (gA G 1)) (C := RX8) (T := TX8) (N := 5) hx hb hw inlX8 hown hT hP 0 (Nat.le_of_ble_eq_true rfl) kd0 rfl rfl 0 (by decide) (hw _ uw15) rfl dX8_countOfHall_99 ?_
        refine gh_get (v := .ref (gA G 24)) (C := RX5) (T := TX5) (N := 9) hx hb hw inlX5 hown hT hP 1 (Nat.le_of_ble_eq_true rfl) kd1 rfl rfl 2 (by decide) (hw _ uw127) rfl dX8_countOfHall_102 ?_
        refine gh_get (v := .int (V 24 0)) (C := RX3) (T := TX3) (N := 7) hx hb hw inlX3 hown hT hP 24 (Nat.le_of_ble_eq_true rfl) kd24 rfl rfl 0 (by decide) (hw _ uw128) rfl dX8_countOfHall_105 ?_
        refine lv_if_eq (tgt := 115) hx hb dX8_countOfHall_108 (by decide) (fun c_4 => ?_) (fun c_4 => ?_)
        · have hres := hres.trans (if_pos c_4)
          refine lv_iconst (v := 0) hx hb dX8_countOfHall_115 (by decide) ?_
          exact gh_iretR hx hb hr hlocks hP hS hT hres dX8_countOfHall_116
        have hres := hres.trans (if_neg c_4)
        refine lv_iconst (v := 1) hx hb dX8_countOfHall_111 (by decide) ?_
        refine lv_goto (tgt := 116) hx hb dX8_countOfHall_112 (by decide) ?_
        exact gh_iretR hx hb hr hlocks hP hS hT hres dX8_countOfHall_116
      · have hres := hres.trans (if_neg c_3)
        have hs := hs c_3
        by_cases c_5 : a1 = 3
        · have hres := hres.trans (if_pos c_5)
          refine lv_tableIn (off := 180) (tgt := 181) hx hb dX8_countOfHall_1 (by rw [c_5]; decide) (by rw [c_5]; decide) (by rw [c_5]; rfl) (by decide) ?_
          refine lv_aload_n hx hb dX8_countOfHall_181 rfl (lv_at hl 0 rfl) ?_
          refine gh_get (v := .ref (gA G 1)) (C := RX8) (T := TX8) (N := 5) hx hb hw inlX8 hown hT hP 0 (Nat.le_of_ble_eq_true rfl) kd0 rfl rfl 0 (by decide) (hw _ uw15) rfl dX8_countOfHall_182 ?_
          refine gh_get (v := .int (V 1 8)) (C := RX5) (T := TX5) (N := 9) hx hb hw inlX5 hown hT hP 1 (Nat.le_of_ble_eq_true rfl) kd1 rfl rfl 8 (by decide) (hw _ uw270) rfl dX8_countOfHall_185 ?_
          exact gh_iretR hx hb hr hlocks hP hS hT hres dX8_countOfHall_188
        · have hres := hres.trans (if_neg c_5)
          have hs := hs c_5
          by_cases c_6 : a1 = 4
          · have hres := hres.trans (if_pos c_6)
            refine lv_tableIn (off := 180) (tgt := 181) hx hb dX8_countOfHall_1 (by rw [c_6]; decide) (by rw [c_6]; decide) (by rw [c_6]; rfl) (by decide) ?_
            refine lv_aload_n hx hb dX8_countOfHall_181 rfl (lv_at hl 0 rfl) ?_
            refine gh_get (v := .ref (gA G 1)) (C := RX8) (T := TX8) (N := 5) hx hb hw inlX8 hown hT hP 0 (Nat.le_of_ble_eq_true rfl) kd0 rfl rfl 0 (by decide) (hw _ uw15) rfl dX8_countOfHall_182 ?_
            refine gh_get (v := .int (V 1 8)) (C := RX5) (T := TX5) (N := 9) hx hb hw inlX5 hown hT hP 1 (Nat.le_of_ble_eq_true rfl) kd1 rfl rfl 8 (by decide) (hw _ uw270) rfl dX8_countOfHall_185 ?_
            exact gh_iretR hx hb hr hlocks hP hS hT hres dX8_countOfHall_188
          · have hres := hres.trans (if_neg c_6)
            have hs := hs c_6
            by_cases c_7 : a1 = 5
            · have hres := hres.trans (if_pos c_7)
              refine lv_tableIn (off := 180) (tgt := 181) hx hb dX8_countOfHall_1 (by rw [c_7]; decide) (by rw [c_7]; decide) (by rw [c_7]; rfl) (by decide) ?_
              refine lv_aload_n hx hb dX8_countOfHall_181 rfl (lv_at hl 0 rfl) ?_
              refine gh_get (v := .ref (gA G 1)) (C := RX8) (T := TX8) (N := 5) hx hb hw inlX8 hown hT hP 0 (Nat.le_of_ble_eq_true rfl) kd0 rfl rfl 0 (by decide) (hw _ uw15) rfl dX8_countOfHall_182 ?_
              refine gh_get (v := .int (V 1 8)) (C := RX5) (T := TX5) (N := 9) hx hb hw inlX5 hown hT hP 1 (Nat.le_of_ble_eq_true rfl) kd1 rfl rfl 8 (by decide) (hw _ uw270) rfl dX8_countOfHall_185 ?_
              exact gh_iretR hx hb hr hlocks hP hS hT hres dX8_countOfHall_188
            · have hres := hres.trans (if_neg c_7)
              have hs := hs c_7
              by_cases c_8 : a1 = 6
              · have hres := hres.trans (if_pos c_8)
                refine lv_tableIn (off := 180) (tgt := 181) hx hb dX8_countOfHall_1 (by rw [c_8]; decide) (by rw [c_8]; decide) (by rw [c_8]; rfl) (by decide) ?_
                refine lv_aload_n hx hb dX8_countOfHall_181 rfl (lv_at hl 0 rfl) ?_
                refine gh_get (v := .ref (gA G 1)) (C := RX8) (T := TX8) (N := 5) hx hb hw inlX8 hown hT hP 0 (Nat.le_of_ble_eq_true rfl) kd0 rfl rfl 0 (by decide) (hw _ uw15) rfl dX8_countOfHall_182 ?_
                refine gh_get (v := .int (V 1 8)) (C := RX5) (T := TX5) (N := 9) hx hb hw inlX5 hown hT hP 1 (Nat.le_of_ble_eq_true rfl) kd1 rfl rfl 8 (by decide) (hw _ uw270) rfl dX8_countOfHall_185 ?_
                exact gh_iretR hx hb hr hlocks hP hS hT hres dX8_countOfHall_188
              · have hres := hres.trans (if_neg c_8)
                have hs := hs c_8
                by_cases c_9 : a1 = 7
                · have hres := hres.trans (if_pos c_9)
                  refine lv_tableIn (off := 180) (tgt := 181) hx hb dX8_countOfHall_1 (by rw [c_9]; decide) (by rw [c_9]; decide) (by rw [c_9]; rfl) (by decide) ?_
                  refine lv_aload_n hx hb dX8_countOfHall_181 rfl (lv_at hl 0 rfl) ?_
                  refine gh_get (v := .ref (gA G 1)) (C := RX8) (T := TX8) (N := 5) hx hb hw inlX8 hown hT hP 0 (Nat.le_of_ble_eq_true rfl) kd0 rfl rfl 0 (by decide) (hw _ uw15) rfl dX8_countOfHall_182 ?_
                  refine gh_get (v := .int (V 1 8)) (C := RX5) (T := TX5) (N := 9) hx hb hw inlX5 hown hT hP 1 (Nat.le_of_ble_eq_true rfl) kd1 rfl rfl 8 (by decide) (hw _ uw270) rfl dX8_countOfHall_185 ?_
                  exact gh_iretR hx hb hr hlocks hP hS hT hres dX8_countOfHall_188
                · have hres := hres.trans (if_neg c_9)
                  have hs := hs c_9
                  by_cases c_10 : a1 = 8
                  · have hres := hres.trans (if_pos c_10)
                    refine lv_tableIn (off := 116) (tgt := 117) hx hb dX8_countOfHall_1 (by rw [c_10]; decide) (by rw [c_10]; decide) (by rw [c_10]; rfl) (by decide) ?_
                    refine lv_aload_n hx hb dX8_countOfHall_117 rfl (lv_at hl 0 rfl) ?_
                    refine gh_get (v := .ref (gA G 1)) (C := RX8) (T := TX8) (N := 5) hx hb hw inlX8 hown hT hP 0 (Nat.le_of_ble_eq_true rfl) kd0 rfl rfl 0 (by decide) (hw _ uw15) rfl dX8_countOfHall_118 ?_
                    refine gh_get (v := .int (V 1 4)) (C := RX5) (T := TX5) (N := 9) hx hb hw inlX5 hown hT hP 1 (Nat.le_of_ble_eq_true rfl) kd1 rfl rfl 4 (by decide) (hw _ uw597) rfl dX8_countOfHall_121 ?_
                    exact gh_iretR hx hb hr hlocks hP hS hT hres dX8_countOfHall_124
                  · have hres := hres.trans (if_neg c_10)
                    have hs := hs c_10
                    by_cases c_11 : a1 = 9
                    · have hres := hres.trans (if_pos c_11)
                      refine lv_tableIn (off := 124) (tgt := 125) hx hb dX8_countOfHall_1 (by rw [c_11]; decide) (by rw [c_11]; decide) (by rw [c_11]; rfl) (by decide) ?_
                      refine lv_aload_n hx hb dX8_countOfHall_125 rfl (lv_at hl 0 rfl) ?_
                      refine gh_get (v := .ref (gA G 1)) (C := RX8) (T := TX8) (N := 5) hx hb hw inlX8 hown hT hP 0 (Nat.le_of_ble_eq_true rfl) kd0 rfl rfl 0 (by decide) (hw _ uw15) rfl dX8_countOfHall_126 ?_
                      refine gh_get (v := .int (V 1 6)) (C := RX5) (T := TX5) (N := 9) hx hb hw inlX5 hown hT hP 1 (Nat.le_of_ble_eq_true rfl) kd1 rfl rfl 6 (by decide) (hw _ uw598) rfl dX8_countOfHall_129 ?_
                      exact gh_iretR hx hb hr hlocks hP hS hT hres dX8_countOfHall_132
                    · have hres := hres.trans (if_neg c_11)
                      have hs := hs c_11
                      by_cases c_12 : a1 = 10
                      · have hres := hres.trans (if_pos c_12)
                        refine lv_tableIn (off := 132) (tgt := 133) hx hb dX8_countOfHall_1 (by rw [c_12]; decide) (by rw [c_12]; decide) (by rw [c_12]; rfl) (by decide) ?_
                        refine lv_aload_n hx hb dX8_countOfHall_133 rfl (lv_at hl 0 rfl) ?_
                        refine gh_get (v := .ref (gA G 1)) (C := RX8) (T := TX8) (N := 5) hx hb hw inlX8 hown hT hP 0 (Nat.le_of_ble_eq_true rfl) kd0 rfl rfl 0 (by decide) (hw _ uw15) rfl dX8_countOfHall_134 ?_
                        refine gh_get (v := .int (V 1 7)) (C := RX5) (T := TX5) (N := 9) hx hb hw inlX5 hown hT hP 1 (Nat.le_of_ble_eq_true rfl) kd1 rfl rfl 7 (by decide) (hw _ uw279) rfl dX8_countOfHall_137 ?_
                        exact gh_iretR hx hb hr hlocks hP hS hT hres dX8_countOfHall_140
                      · have hres := hres.trans (if_neg c_12)
                        have hs := hs c_12
                        by_cases c_13 : a1 = 11
                        · have hres := hres.trans (if_pos c_13)
                          have hs := hs c_13
                          refine lv_tableIn (off := 140) (tgt := 141) hx hb dX8_countOfHall_1 (by rw [c_13]; decide) (by rw [c_13]; decide) (by rw [c_13]; rfl) (by decide) ?_
                          refine lv_aload_n hx hb dX8_countOfHall_141 rfl (lv_at hl 0 rfl) ?_
                          refine gh_get (v := .ref (gA G 1)) (C := RX8) (T := TX8) (N := 5) hx hb hw inlX8 hown hT hP 0 (Nat.le_of_ble_eq_true rfl) kd0 rfl rfl 0 (by decide) (hw _ uw15) rfl dX8_countOfHall_142 ?_
                          refine gh_get (v := .ref (gA G 2)) (C := RX5) (T := TX5) (N := 9) hx hb hw inlX5 hown hT hP 1 (Nat.le_of_ble_eq_true rfl) kd1 rfl rfl 0 (by decide) (hw _ uw126) rfl dX8_countOfHall_145 ?_
                          have ho_14 := hs
                          refine gh_kr (va_runV (As := []) (rest := []) ⟨hx, hb, hml, hown, hw⟩ (cc_X7_weightSum l G V ho_14) (cwV 0 hw gv_RX8_283 rfl rfl rfl dd_X7_weightSum ⟨Nat.le_of_ble_eq_true rfl, Nat.le_of_ble_eq_true rfl⟩) (gh_preV hT hP (Nat.le_of_ble_eq_true rfl) kd2 rfl rfl) rfl rfl hl.1 rfl (lv_room (Nat.le_of_ble_eq_true rfl)) dX8_countOfHall_148 ⟨Nat.zero_le _, Nat.zero_le _⟩) hS (fun H locs hP hS => ?_)
                          exact gh_iretR hx hb hr hlocks hP hS hT hres dX8_countOfHall_151
                        · have hres := hres.trans (if_neg c_13)
                          by_cases c_15 : a1 = 12
                          · have hres := hres.trans (if_pos c_15)
                            refine lv_tableIn (off := 151) (tgt := 152) hx hb dX8_countOfHall_1 (by rw [c_15]; decide) (by rw [c_15]; decide) (by rw [c_15]; rfl) (by decide) ?_
                            refine lv_aload_n hx hb dX8_countOfHall_152 rfl (lv_at hl 0 rfl) ?_
                            refine gh_get (v := .ref (gA G 67)) (C := RX8) (T := TX8) (N := 5) hx hb hw inlX8 hown hT hP 0 (Nat.le_of_ble_eq_true rfl) kd0 rfl rfl 2 (by decide) (hw _ uw20) rfl dX8_countOfHall_153 ?_
                            refine gh_get (v := .int (V 67 0)) (C := RX1) (T := TX1) (N := 3) hx hb hw inlX1 hown hT hP 67 (Nat.le_of_ble_eq_true rfl) kd67 rfl rfl 0 (by decide) (hw _ uw599) rfl dX8_countOfHall_156 ?_
                            exact gh_iretR hx hb hr hlocks hP hS hT hres dX8_countOfHall_159
                          · have hres := hres.trans (if_neg c_15)
                            by_cases c_16 : a1 = 13
                            · have hres := hres.trans (if_pos c_16)
                              refine lv_tableIn (off := 159) (tgt := 160) hx hb dX8_countOfHall_1 (by rw [c_16]; decide) (by rw [c_16]; decide) (by rw [c_16]; rfl) (by decide) ?_
                              refine lv_aload_n hx hb dX8_countOfHall_160 rfl (lv_at hl 0 rfl) ?_
                              refine gh_get (v := .ref (gA G 201)) (C := RX8) (T := TX8) (N := 5) hx hb hw inlX8 hown hT hP 0 (Nat.le_of_ble_eq_true rfl) kd0 rfl rfl 3 (by decide) (hw _ uw24) rfl dX8_countOfHall_161 ?_
                              refine gh_get (v := .int (V 201 0)) (C := RX6) (T := TX6) (N := 6) hx hb hw inlX6 hown hT hP 201 (Nat.le_of_ble_eq_true rfl) kd201 rfl rfl 0 (by decide) (hw _ uw600) rfl dX8_countOfHall_164 ?_
                              exact gh_iretR hx hb hr hlocks hP hS hT hres dX8_countOfHall_167
                            · have hres := hres.trans (if_neg c_16)
                              by_cases c_17 : a1 = 14
                              · have hres := hres.trans (if_pos c_17)
                                refine lv_tableIn (off := 167) (tgt := 168) hx hb dX8_countOfHall_1 (by rw [c_17]; decide) (by rw [c_17]; decide) (by rw [c_17]; rfl) (by decide) ?_
                                refine lv_aload_n hx hb dX8_countOfHall_168 rfl (lv_at hl 0 rfl) ?_
                                refine gh_get (v := .int (V 0 4)) (C := RX8) (T := TX8) (N := 5) hx hb hw inlX8 hown hT hP 0 (Nat.le_of_ble_eq_true rfl) kd0 rfl rfl 4 (by decide) (hw _ uw25) rfl dX8_countOfHall_169 ?_
                                refine lv_if_eq (tgt := 179) hx hb dX8_countOfHall_172 (by decide) (fun c_18 => ?_) (fun c_18 => ?_)
                                · have hres := hres.trans (if_pos c_18)
                                  refine lv_iconst (v := 0) hx hb dX8_countOfHall_179 (by decide) ?_
                                  exact gh_iretR hx hb hr hlocks hP hS hT hres dX8_countOfHall_180
                                have hres := hres.trans (if_neg c_18)
                                refine lv_iconst (v := 1) hx hb dX8_countOfHall_175 (by decide) ?_
                                refine lv_goto (tgt := 180) hx hb dX8_countOfHall_176 (by decide) ?_
                                exact gh_iretR hx hb hr hlocks hP hS hT hres dX8_countOfHall_180
                              · have hres := hres.trans (if_neg c_17)
                                refine lv_tableOut (tgt := 181) hx hb dX8_countOfHall_1 (gh_sw2 (a := 0) (n := 14) (by decide) (fun j hi hj => by
                                    rcases (show j = 0 ∨ j = 1 ∨ j = 2 ∨ j = 3 ∨ j = 4 ∨ j = 5 ∨ j = 6 ∨ j = 7 ∨ j = 8 ∨ j = 9 ∨ j = 10 ∨ j = 11 ∨ j = 12 ∨ j = 13 ∨ j = 14 by omega) with rfl | rfl | rfl | rfl | rfl | rfl | rfl | rfl | rfl | rfl | rfl | rfl | rfl | rfl | rfl
                                    · exact c_1
                                    · exact c_2
                                    · exact c_3
                                    · exact c_5
                                    · exact c_6
                                    · exact c_7
                                    · exact c_8
                                    · exact c_9
                                    · exact c_10
                                    · exact c_11
                                    · exact c_12
                                    · exact c_13
                                    · exact c_15
                                    · exact c_16
                                    · exact c_17)) (by decide) ?_
                                refine lv_aload_n hx hb dX8_countOfHall_181 rfl (lv_at hl 0 rfl) ?_
                                refine gh_get (v := .ref (gA G 1)) (C := RX8) (T := TX8) (N := 5) hx hb hw inlX8 hown hT hP 0 (Nat.le_of_ble_eq_true rfl) kd0 rfl rfl 0 (by decide) (hw _ uw15) rfl dX8_countOfHall_182 ?_
                                refine gh_get (v := .int (V 1 8)) (C := RX5) (T := TX5) (N := 9) hx hb hw inlX5 hown hT hP 1 (Nat.le_of_ble_eq_true rfl) kd1 rfl rfl 8 (by decide) (hw _ uw270) rfl dX8_countOfHall_185 ?_
                                exact gh_iretR hx hb hr hlocks hP hS hT hres dX8_countOfHall_188
theorem gv_RX8_41 : GoodIn wsL_law (wsV RX8 41 RX7 yX7_has wc_X7_has) := gh_gV uw130 uw131 uw132 uw31 uw133
theorem gv_RX8_139 : GoodIn wsL_law (wsV RX8 139 RX7 yX7_letterSet wc_X7_letterSet) := gh_gV uw504 uw505 uw506 uw31 uw507
theorem gv_RX8_145 : GoodIn wsL_law (wsV RX8 145 RX8 yX8_fitOf wc_X8_fitOf) := gh_gV uw508 uw509 uw510 uw2 uw511
theorem gv_RX8_148 : GoodIn wsL_law (wsV RX8 148 RX8 yX8_letterAtCode wc_X8_letterAtCode) := gh_gV uw525 uw526 uw527 uw2 uw528
def MX8_wordOf  (a1 : Int32) (a2 : Int32) (V : gV) : Int32 := if (MX7_has a1 V) = 0 then ((-1 : Int32)) else (if a2 = 0 then ((MX4_at 3 a1 V)) else (if a2 = 1 then ((MX4_at 5 a1 V)) else (if a2 = 2 then ((MX7_letterSet a1 V)) else (if a2 = 3 then ((MX4_at 7 a1 V)) else (if a2 = 4 then ((MX8_fitOf a1 V)) else ((MX8_letterAtCode a1 a2 V)))))))
def PX8_wordOf  (a1 : Int32) (a2 : Int32) (V : gV) : Prop := ((¬ (MX7_has a1 V) = 0 → ((¬ a2 = 0 → ((¬ a2 = 1 → ((a2 = 2 → (PX7_letterSet a1 V)) ∧ (¬ a2 = 2 → ((¬ a2 = 3 → ((a2 = 4 → (PX8_fitOf a1 V)))))))))))))
abbrev wc_X8_wordOf : List Cond := Cond.code yX8_wordOf cX8_wordOf 4 (some .int) :: wsL_law
abbrev r_X8_wordOf : Room := { frames := 6, cells := 0, slots := 0, locals := 136 }
theorem dd_X8_wordOf : yX8_wordOf.cls = RX8 ∧ yX8_wordOf.cls ≠ "java/lang/invoke/MethodHandle" ∧ yX8_wordOf.cls ≠ "java/lang/invoke/VarHandle" ∧ (parseMethodDescriptor yX8_wordOf.desc).map (fun d => d.parameters.length) = some 2 := by decide +kernel
set_option maxHeartbeats 8000000 in
set_option maxRecDepth 100000 in
theorem cc_X8_wordOf (l : Launch) (G : gG) (V : gV)   (a1 : Int32) (a2 : Int32) (hs : PX8_wordOf a1 a2 V) : Met l yX8_wordOf wc_X8_wordOf r_X8_wordOf (va_Pc [.ref (gA G 0), .int a1, .int a2] (gW G V)) (gQR G (MX8_wordOf a1 a2 V) V) 0 0 (gF G) := by
  refine Met.ofW (cc := cX8_wordOf) (maxL := 4) (ret := (some .int)) (by decide) rfl ?_
  intro p e s m args below meth c s₁ B hml hv
  obtain ⟨rfl, hP, hT⟩ := hv
  have hx := B.exec
  have hb := B.bytes
  have hr := B.returns
  have hw := gh_hw (atoms_spec (ws := wc_X8_wordOf) B.pre)
  have hown : s.vm.findClass RX8 = some m.cls := findClass_of_methodNamed B.named
  have hlocks := B.notSynchronized
  have hS : va_S (gF G) s.heap s.heap [] := va_S.rf
  have hl := lv_entry ([.ref (gA G 0), .int a1, .int a2]) (n := 4) (Nat.le_of_ble_eq_true rfl)
  rw [lg_entry_eq]
  generalize (lg_sl ([.ref (gA G 0), .int a1, .int a2]) ++ List.replicate (4 - (lg_sl ([.ref (gA G 0), .int a1, .int a2])).length) Slot.unset).toArray = ls at hl ⊢
  have hl : lv_has ls 4 [(0, .ref (gA G 0)), (1, .int a1), (2, .int a2)] := hl
  obtain ⟨res, hres⟩ : ∃ r, r = MX8_wordOf a1 a2 V := ⟨_, rfl⟩
  rw [← hres]
  show W p l e r_X8_wordOf s m ([.ref (gA G 0), .int a1, .int a2] : List Value).toArray below meth c s.heap [] 0 0 (MQ below (gQR G res V) ([.ref (gA G 0), .int a1, .int a2] : List Value).toArray s 0 0 (gF G)) (F0 m 0 ls [])
  have hs : ((¬ (MX7_has a1 V) = 0 → ((¬ a2 = 0 → ((¬ a2 = 1 → ((a2 = 2 → (PX7_letterSet a1 V)) ∧ (¬ a2 = 2 → ((¬ a2 = 3 → ((a2 = 4 → (PX8_fitOf a1 V))))))))))))) := hs
  have hres : res = (if (MX7_has a1 V) = 0 then ((-1 : Int32)) else (if a2 = 0 then ((MX4_at 3 a1 V)) else (if a2 = 1 then ((MX4_at 5 a1 V)) else (if a2 = 2 then ((MX7_letterSet a1 V)) else (if a2 = 3 then ((MX4_at 7 a1 V)) else (if a2 = 4 then ((MX8_fitOf a1 V)) else ((MX8_letterAtCode a1 a2 V)))))))) := hres
  refine lv_aload_n hx hb dX8_wordOf_0 rfl (lv_at hl 0 rfl) ?_
  refine gh_get (v := .ref (gA G 1)) (C := RX8) (T := TX8) (N := 5) hx hb hw inlX8 hown hT hP 0 (Nat.le_of_ble_eq_true rfl) kd0 rfl rfl 0 (by decide) (hw _ uw15) rfl dX8_wordOf_1 ?_
  refine gh_get (v := .ref (gA G 2)) (C := RX5) (T := TX5) (N := 9) hx hb hw inlX5 hown hT hP 1 (Nat.le_of_ble_eq_true rfl) kd1 rfl rfl 0 (by decide) (hw _ uw126) rfl dX8_wordOf_4 ?_
  refine lv_astore_n (lv' := [(3, .ref (gA G 2)), (0, .ref (gA G 0)), (1, .int a1), (2, .int a2)]) hx hb dX8_wordOf_7 rfl hl (by decide) rfl (fun ls hl => ?_)
  refine lv_aload_n hx hb dX8_wordOf_8 rfl (lv_at hl 0 rfl) ?_
  refine lv_iload_n hx hb dX8_wordOf_9 rfl (lv_at hl 2 rfl) ?_
  refine gh_kr (va_runV (As := [.int a1]) (rest := []) ⟨hx, hb, hml, hown, hw⟩ (cc_X7_has l G V a1) (cwV 1 hw gv_RX8_41 rfl rfl rfl dd_X7_has ⟨Nat.le_of_ble_eq_true rfl, Nat.le_of_ble_eq_true rfl⟩) (gh_preV hT hP (Nat.le_of_ble_eq_true rfl) kd2 rfl rfl) rfl rfl hl.1 rfl (lv_room (Nat.le_of_ble_eq_true rfl)) dX8_wordOf_10 ⟨Nat.zero_le _, Nat.zero_le _⟩) hS (fun H locs hP hS => ?_)
  refine lv_if_ne (tgt := 18) hx hb dX8_wordOf_13 (by decide) (fun c_1 => ?_) (fun c_1 => ?_)
  · have hres := hres.trans (if_neg c_1)
    have hs := hs c_1
    refine lv_iload_n hx hb dX8_wordOf_18 rfl (lv_at hl 3 rfl) ?_
    by_cases c_2 : a2 = 0
    · have hres := hres.trans (if_pos c_2)
      refine lv_tableIn (off := 33) (tgt := 52) hx hb dX8_wordOf_19 (by rw [c_2]; decide) (by rw [c_2]; decide) (by rw [c_2]; rfl) (by decide) ?_
      refine lv_aload_n hx hb dX8_wordOf_52 rfl (lv_at hl 0 rfl) ?_
      refine gh_get (v := .ref (gA G 3)) (C := RX7) (T := TX7) (N := 5) hx hb hw inlX7 hown hT hP 2 (Nat.le_of_ble_eq_true rfl) kd2 rfl rfl 1 (by decide) (hw _ uw288) rfl dX8_wordOf_53 ?_
      refine lv_iload_n hx hb dX8_wordOf_56 rfl (lv_at hl 2 rfl) ?_
      refine gh_kr (va_runV (As := [.int a1]) (rest := []) ⟨hx, hb, hml, hown, hw⟩ (cc_X4_at l G V 3 gi3 a1) (cwV 1 hw gv_RX8_68 rfl rfl rfl dd_X4_at ⟨Nat.le_of_ble_eq_true rfl, Nat.le_of_ble_eq_true rfl⟩) (gh_preV hT hP (Nat.le_of_ble_eq_true rfl) kd3 rfl rfl) rfl rfl hl.1 rfl (lv_room (Nat.le_of_ble_eq_true rfl)) dX8_wordOf_57 ⟨Nat.zero_le _, Nat.zero_le _⟩) hS (fun H locs hP hS => ?_)
      exact gh_iretR hx hb hr hlocks hP hS hT hres dX8_wordOf_60
    · have hres := hres.trans (if_neg c_2)
      have hs := hs c_2
      by_cases c_3 : a2 = 1
      · have hres := hres.trans (if_pos c_3)
        refine lv_tableIn (off := 42) (tgt := 61) hx hb dX8_wordOf_19 (by rw [c_3]; decide) (by rw [c_3]; decide) (by rw [c_3]; rfl) (by decide) ?_
        refine lv_aload_n hx hb dX8_wordOf_61 rfl (lv_at hl 0 rfl) ?_
        refine gh_get (v := .ref (gA G 5)) (C := RX7) (T := TX7) (N := 5) hx hb hw inlX7 hown hT hP 2 (Nat.le_of_ble_eq_true rfl) kd2 rfl rfl 2 (by decide) (hw _ uw129) rfl dX8_wordOf_62 ?_
        refine lv_iload_n hx hb dX8_wordOf_65 rfl (lv_at hl 2 rfl) ?_
        refine gh_kr (va_runV (As := [.int a1]) (rest := []) ⟨hx, hb, hml, hown, hw⟩ (cc_X4_at l G V 5 gi5 a1) (cwV 1 hw gv_RX8_68 rfl rfl rfl dd_X4_at ⟨Nat.le_of_ble_eq_true rfl, Nat.le_of_ble_eq_true rfl⟩) (gh_preV hT hP (Nat.le_of_ble_eq_true rfl) kd5 rfl rfl) rfl rfl hl.1 rfl (lv_room (Nat.le_of_ble_eq_true rfl)) dX8_wordOf_66 ⟨Nat.zero_le _, Nat.zero_le _⟩) hS (fun H locs hP hS => ?_)
        exact gh_iretR hx hb hr hlocks hP hS hT hres dX8_wordOf_69
      · have hres := hres.trans (if_neg c_3)
        have hs := hs c_3
        by_cases c_4 : a2 = 2
        · have hres := hres.trans (if_pos c_4)
          have hs := hs.1 c_4
          refine lv_tableIn (off := 51) (tgt := 70) hx hb dX8_wordOf_19 (by rw [c_4]; decide) (by rw [c_4]; decide) (by rw [c_4]; rfl) (by decide) ?_
          refine lv_aload_n hx hb dX8_wordOf_70 rfl (lv_at hl 0 rfl) ?_
          refine lv_iload_n hx hb dX8_wordOf_71 rfl (lv_at hl 2 rfl) ?_
          have ho_5 := hs
          refine gh_kr (va_runV (As := [.int a1]) (rest := []) ⟨hx, hb, hml, hown, hw⟩ (cc_X7_letterSet l G V a1 ho_5) (cwV 1 hw gv_RX8_139 rfl rfl rfl dd_X7_letterSet ⟨Nat.le_of_ble_eq_true rfl, Nat.le_of_ble_eq_true rfl⟩) (gh_preV hT hP (Nat.le_of_ble_eq_true rfl) kd2 rfl rfl) rfl rfl hl.1 rfl (lv_room (Nat.le_of_ble_eq_true rfl)) dX8_wordOf_72 ⟨Nat.zero_le _, Nat.zero_le _⟩) hS (fun H locs hP hS => ?_)
          exact gh_iretR hx hb hr hlocks hP hS hT hres dX8_wordOf_75
        · have hres := hres.trans (if_neg c_4)
          have hs := hs.2 c_4
          by_cases c_6 : a2 = 3
          · have hres := hres.trans (if_pos c_6)
            refine lv_tableIn (off := 57) (tgt := 76) hx hb dX8_wordOf_19 (by rw [c_6]; decide) (by rw [c_6]; decide) (by rw [c_6]; rfl) (by decide) ?_
            refine lv_aload_n hx hb dX8_wordOf_76 rfl (lv_at hl 0 rfl) ?_
            refine gh_get (v := .ref (gA G 7)) (C := RX7) (T := TX7) (N := 5) hx hb hw inlX7 hown hT hP 2 (Nat.le_of_ble_eq_true rfl) kd2 rfl rfl 3 (by decide) (hw _ uw503) rfl dX8_wordOf_77 ?_
            refine lv_iload_n hx hb dX8_wordOf_80 rfl (lv_at hl 2 rfl) ?_
            refine gh_kr (va_runV (As := [.int a1]) (rest := []) ⟨hx, hb, hml, hown, hw⟩ (cc_X4_at l G V 7 gi7 a1) (cwV 1 hw gv_RX8_68 rfl rfl rfl dd_X4_at ⟨Nat.le_of_ble_eq_true rfl, Nat.le_of_ble_eq_true rfl⟩) (gh_preV hT hP (Nat.le_of_ble_eq_true rfl) kd7 rfl rfl) rfl rfl hl.1 rfl (lv_room (Nat.le_of_ble_eq_true rfl)) dX8_wordOf_81 ⟨Nat.zero_le _, Nat.zero_le _⟩) hS (fun H locs hP hS => ?_)
            exact gh_iretR hx hb hr hlocks hP hS hT hres dX8_wordOf_84
          · have hres := hres.trans (if_neg c_6)
            have hs := hs c_6
            by_cases c_7 : a2 = 4
            · have hres := hres.trans (if_pos c_7)
              have hs := hs c_7
              refine lv_tableIn (off := 66) (tgt := 85) hx hb dX8_wordOf_19 (by rw [c_7]; decide) (by rw [c_7]; decide) (by rw [c_7]; rfl) (by decide) ?_
              refine lv_aload_n hx hb dX8_wordOf_85 rfl (lv_at hl 1 rfl) ?_
              refine lv_iload_n hx hb dX8_wordOf_86 rfl (lv_at hl 2 rfl) ?_
              have ho_8 := hs
              refine gh_kr (va_runV (As := [.int a1]) (rest := []) ⟨hx, hb, hml, hown, hw⟩ (cc_X8_fitOf l G V a1 ho_8) (cwV 1 hw gv_RX8_145 rfl rfl rfl dd_X8_fitOf ⟨Nat.le_of_ble_eq_true rfl, Nat.le_of_ble_eq_true rfl⟩) (gh_preV hT hP (Nat.le_of_ble_eq_true rfl) kd0 rfl rfl) rfl rfl hl.1 rfl (lv_room (Nat.le_of_ble_eq_true rfl)) dX8_wordOf_87 ⟨Nat.zero_le _, Nat.zero_le _⟩) hS (fun H locs hP hS => ?_)
              exact gh_iretR hx hb hr hlocks hP hS hT hres dX8_wordOf_90
            · have hres := hres.trans (if_neg c_7)
              refine lv_tableOut (tgt := 91) hx hb dX8_wordOf_19 (gh_sw2 (a := 0) (n := 4) (by decide) (fun j hi hj => by
                  rcases (show j = 0 ∨ j = 1 ∨ j = 2 ∨ j = 3 ∨ j = 4 by omega) with rfl | rfl | rfl | rfl | rfl
                  · exact c_2
                  · exact c_3
                  · exact c_4
                  · exact c_6
                  · exact c_7)) (by decide) ?_
              refine lv_aload_n hx hb dX8_wordOf_91 rfl (lv_at hl 1 rfl) ?_
              refine lv_iload_n hx hb dX8_wordOf_92 rfl (lv_at hl 2 rfl) ?_
              refine lv_iload_n hx hb dX8_wordOf_93 rfl (lv_at hl 3 rfl) ?_
              refine gh_kr (va_runV (As := [.int a1, .int a2]) (rest := []) ⟨hx, hb, hml, hown, hw⟩ (cc_X8_letterAtCode l G V a1 a2) (cwV 2 hw gv_RX8_148 rfl rfl rfl dd_X8_letterAtCode ⟨Nat.le_of_ble_eq_true rfl, Nat.le_of_ble_eq_true rfl⟩) (gh_preV hT hP (Nat.le_of_ble_eq_true rfl) kd0 rfl rfl) rfl rfl hl.1 rfl (lv_room (Nat.le_of_ble_eq_true rfl)) dX8_wordOf_94 ⟨Nat.zero_le _, Nat.zero_le _⟩) hS (fun H locs hP hS => ?_)
              exact gh_iretR hx hb hr hlocks hP hS hT hres dX8_wordOf_97
  have hres := hres.trans (if_pos c_1)
  refine lv_iconst (v := -1) hx hb dX8_wordOf_16 (by decide) ?_
  exact gh_iretR hx hb hr hlocks hP hS hT hres dX8_wordOf_17
theorem gv_RX8_91 : GoodIn wsL_law (wsV RX8 91 RX0 yX0_has wc_X0_has) := gh_gV uw248 uw249 uw250 uw35 uw251
theorem gv_RX8_161 : GoodIn wsL_law (wsV RX8 161 RX0 yX0_hasHint wc_X0_hasHint) := gh_gV uw549 uw550 uw551 uw35 uw552
def MX8_playerOf  (a1 : Int32) (a2 : Int32) (V : gV) : Int32 := if (MX0_has a1 V) = 0 then ((-1 : Int32)) else (if a2 = 0 then ((MX4_at 12 a1 V)) else (if a2 = 1 then ((MX4_at 14 a1 V)) else (if a2 = 2 then ((MX4_at 16 a1 V)) else (if a2 = 3 then ((MX4_at 18 a1 V)) else (if a2 = 4 then (if (MX0_hasHint a1 V) = 0 then ((-4 : Int32)) else ((MX4_at 20 a1 V))) else (if a2 = 5 then (if (MX0_hasHint a1 V) = 0 then ((-4 : Int32)) else ((MX4_at 22 a1 V))) else ((-1 : Int32))))))))
abbrev wc_X8_playerOf : List Cond := Cond.code yX8_playerOf cX8_playerOf 4 (some .int) :: wsL_law
abbrev r_X8_playerOf : Room := { frames := 2, cells := 0, slots := 0, locals := 42 }
theorem dd_X8_playerOf : yX8_playerOf.cls = RX8 ∧ yX8_playerOf.cls ≠ "java/lang/invoke/MethodHandle" ∧ yX8_playerOf.cls ≠ "java/lang/invoke/VarHandle" ∧ (parseMethodDescriptor yX8_playerOf.desc).map (fun d => d.parameters.length) = some 2 := by decide +kernel
set_option maxHeartbeats 8000000 in
set_option maxRecDepth 100000 in
theorem cc_X8_playerOf (l : Launch) (G : gG) (V : gV)   (a1 : Int32) (a2 : Int32)  : Met l yX8_playerOf wc_X8_playerOf r_X8_playerOf (va_Pc [.ref (gA G 0), .int a1, .int a2] (gW G V)) (gQR G (MX8_playerOf a1 a2 V) V) 0 0 (gF G) := by
  refine Met.ofW (cc := cX8_playerOf) (maxL := 4) (ret := (some .int)) (by decide) rfl ?_
  intro p e s m args below meth c s₁ B hml hv
  obtain ⟨rfl, hP, hT⟩ := hv
  have hx := B.exec
  have hb := B.bytes
  have hr := B.returns
  have hw := gh_hw (atoms_spec (ws := wc_X8_playerOf) B.pre)
  have hown : s.vm.findClass RX8 = some m.cls := findClass_of_methodNamed B.named
  have hlocks := B.notSynchronized
  have hS : va_S (gF G) s.heap s.heap [] := va_S.rf
  have hl := lv_entry ([.ref (gA G 0), .int a1, .int a2]) (n := 4) (Nat.le_of_ble_eq_true rfl)
  rw [lg_entry_eq]
  generalize (lg_sl ([.ref (gA G 0), .int a1, .int a2]) ++ List.replicate (4 - (lg_sl ([.ref (gA G 0), .int a1, .int a2])).length) Slot.unset).toArray = ls at hl ⊢
  have hl : lv_has ls 4 [(0, .ref (gA G 0)), (1, .int a1), (2, .int a2)] := hl
  obtain ⟨res, hres⟩ : ∃ r, r = MX8_playerOf a1 a2 V := ⟨_, rfl⟩
  rw [← hres]
  show W p l e r_X8_playerOf s m ([.ref (gA G 0), .int a1, .int a2] : List Value).toArray below meth c s.heap [] 0 0 (MQ below (gQR G res V) ([.ref (gA G 0), .int a1, .int a2] : List Value).toArray s 0 0 (gF G)) (F0 m 0 ls [])
  have hres : res = (if (MX0_has a1 V) = 0 then ((-1 : Int32)) else (if a2 = 0 then ((MX4_at 12 a1 V)) else (if a2 = 1 then ((MX4_at 14 a1 V)) else (if a2 = 2 then ((MX4_at 16 a1 V)) else (if a2 = 3 then ((MX4_at 18 a1 V)) else (if a2 = 4 then (if (MX0_hasHint a1 V) = 0 then ((-4 : Int32)) else ((MX4_at 20 a1 V))) else (if a2 = 5 then (if (MX0_hasHint a1 V) = 0 then ((-4 : Int32)) else ((MX4_at 22 a1 V))) else ((-1 : Int32))))))))) := hres
  refine lv_aload_n hx hb dX8_playerOf_0 rfl (lv_at hl 0 rfl) ?_
  refine gh_get (v := .ref (gA G 1)) (C := RX8) (T := TX8) (N := 5) hx hb hw inlX8 hown hT hP 0 (Nat.le_of_ble_eq_true rfl) kd0 rfl rfl 0 (by decide) (hw _ uw15) rfl dX8_playerOf_1 ?_
  refine gh_get (v := .ref (gA G 11)) (C := RX5) (T := TX5) (N := 9) hx hb hw inlX5 hown hT hP 1 (Nat.le_of_ble_eq_true rfl) kd1 rfl rfl 1 (by decide) (hw _ uw225) rfl dX8_playerOf_4 ?_
  refine lv_astore_n (lv' := [(3, .ref (gA G 11)), (0, .ref (gA G 0)), (1, .int a1), (2, .int a2)]) hx hb dX8_playerOf_7 rfl hl (by decide) rfl (fun ls hl => ?_)
  refine lv_aload_n hx hb dX8_playerOf_8 rfl (lv_at hl 0 rfl) ?_
  refine lv_iload_n hx hb dX8_playerOf_9 rfl (lv_at hl 2 rfl) ?_
  refine gh_kr (va_runV (As := [.int a1]) (rest := []) ⟨hx, hb, hml, hown, hw⟩ (cc_X0_has l G V a1) (cwV 1 hw gv_RX8_91 rfl rfl rfl dd_X0_has ⟨Nat.le_of_ble_eq_true rfl, Nat.le_of_ble_eq_true rfl⟩) (gh_preV hT hP (Nat.le_of_ble_eq_true rfl) kd11 rfl rfl) rfl rfl hl.1 rfl (lv_room (Nat.le_of_ble_eq_true rfl)) dX8_playerOf_10 ⟨Nat.zero_le _, Nat.zero_le _⟩) hS (fun H locs hP hS => ?_)
  refine lv_if_ne (tgt := 18) hx hb dX8_playerOf_13 (by decide) (fun c_1 => ?_) (fun c_1 => ?_)
  · have hres := hres.trans (if_neg c_1)
    refine lv_iload_n hx hb dX8_playerOf_18 rfl (lv_at hl 3 rfl) ?_
    by_cases c_2 : a2 = 0
    · have hres := hres.trans (if_pos c_2)
      refine lv_tableIn (off := 37) (tgt := 56) hx hb dX8_playerOf_19 (by rw [c_2]; decide) (by rw [c_2]; decide) (by rw [c_2]; rfl) (by decide) ?_
      refine lv_aload_n hx hb dX8_playerOf_56 rfl (lv_at hl 0 rfl) ?_
      refine gh_get (v := .ref (gA G 12)) (C := RX0) (T := TX0) (N := 7) hx hb hw inlX0 hown hT hP 11 (Nat.le_of_ble_eq_true rfl) kd11 rfl rfl 1 (by decide) (hw _ uw247) rfl dX8_playerOf_57 ?_
      refine lv_iload_n hx hb dX8_playerOf_60 rfl (lv_at hl 2 rfl) ?_
      refine gh_kr (va_runV (As := [.int a1]) (rest := []) ⟨hx, hb, hml, hown, hw⟩ (cc_X4_at l G V 12 gi12 a1) (cwV 1 hw gv_RX8_68 rfl rfl rfl dd_X4_at ⟨Nat.le_of_ble_eq_true rfl, Nat.le_of_ble_eq_true rfl⟩) (gh_preV hT hP (Nat.le_of_ble_eq_true rfl) kd12 rfl rfl) rfl rfl hl.1 rfl (lv_room (Nat.le_of_ble_eq_true rfl)) dX8_playerOf_61 ⟨Nat.zero_le _, Nat.zero_le _⟩) hS (fun H locs hP hS => ?_)
      exact gh_iretR hx hb hr hlocks hP hS hT hres dX8_playerOf_64
    · have hres := hres.trans (if_neg c_2)
      by_cases c_3 : a2 = 1
      · have hres := hres.trans (if_pos c_3)
        refine lv_tableIn (off := 46) (tgt := 65) hx hb dX8_playerOf_19 (by rw [c_3]; decide) (by rw [c_3]; decide) (by rw [c_3]; rfl) (by decide) ?_
        refine lv_aload_n hx hb dX8_playerOf_65 rfl (lv_at hl 0 rfl) ?_
        refine gh_get (v := .ref (gA G 14)) (C := RX0) (T := TX0) (N := 7) hx hb hw inlX0 hown hT hP 11 (Nat.le_of_ble_eq_true rfl) kd11 rfl rfl 2 (by decide) (hw _ uw546) rfl dX8_playerOf_66 ?_
        refine lv_iload_n hx hb dX8_playerOf_69 rfl (lv_at hl 2 rfl) ?_
        refine gh_kr (va_runV (As := [.int a1]) (rest := []) ⟨hx, hb, hml, hown, hw⟩ (cc_X4_at l G V 14 gi14 a1) (cwV 1 hw gv_RX8_68 rfl rfl rfl dd_X4_at ⟨Nat.le_of_ble_eq_true rfl, Nat.le_of_ble_eq_true rfl⟩) (gh_preV hT hP (Nat.le_of_ble_eq_true rfl) kd14 rfl rfl) rfl rfl hl.1 rfl (lv_room (Nat.le_of_ble_eq_true rfl)) dX8_playerOf_70 ⟨Nat.zero_le _, Nat.zero_le _⟩) hS (fun H locs hP hS => ?_)
        exact gh_iretR hx hb hr hlocks hP hS hT hres dX8_playerOf_73
      · have hres := hres.trans (if_neg c_3)
        by_cases c_4 : a2 = 2
        · have hres := hres.trans (if_pos c_4)
          refine lv_tableIn (off := 55) (tgt := 74) hx hb dX8_playerOf_19 (by rw [c_4]; decide) (by rw [c_4]; decide) (by rw [c_4]; rfl) (by decide) ?_
          refine lv_aload_n hx hb dX8_playerOf_74 rfl (lv_at hl 0 rfl) ?_
          refine gh_get (v := .ref (gA G 16)) (C := RX0) (T := TX0) (N := 7) hx hb hw inlX0 hown hT hP 11 (Nat.le_of_ble_eq_true rfl) kd11 rfl rfl 3 (by decide) (hw _ uw547) rfl dX8_playerOf_75 ?_
          refine lv_iload_n hx hb dX8_playerOf_78 rfl (lv_at hl 2 rfl) ?_
          refine gh_kr (va_runV (As := [.int a1]) (rest := []) ⟨hx, hb, hml, hown, hw⟩ (cc_X4_at l G V 16 gi16 a1) (cwV 1 hw gv_RX8_68 rfl rfl rfl dd_X4_at ⟨Nat.le_of_ble_eq_true rfl, Nat.le_of_ble_eq_true rfl⟩) (gh_preV hT hP (Nat.le_of_ble_eq_true rfl) kd16 rfl rfl) rfl rfl hl.1 rfl (lv_room (Nat.le_of_ble_eq_true rfl)) dX8_playerOf_79 ⟨Nat.zero_le _, Nat.zero_le _⟩) hS (fun H locs hP hS => ?_)
          exact gh_iretR hx hb hr hlocks hP hS hT hres dX8_playerOf_82
        · have hres := hres.trans (if_neg c_4)
          by_cases c_5 : a2 = 3
          · have hres := hres.trans (if_pos c_5)
            refine lv_tableIn (off := 64) (tgt := 83) hx hb dX8_playerOf_19 (by rw [c_5]; decide) (by rw [c_5]; decide) (by rw [c_5]; rfl) (by decide) ?_
            refine lv_aload_n hx hb dX8_playerOf_83 rfl (lv_at hl 0 rfl) ?_
            refine gh_get (v := .ref (gA G 18)) (C := RX0) (T := TX0) (N := 7) hx hb hw inlX0 hown hT hP 11 (Nat.le_of_ble_eq_true rfl) kd11 rfl rfl 4 (by decide) (hw _ uw548) rfl dX8_playerOf_84 ?_
            refine lv_iload_n hx hb dX8_playerOf_87 rfl (lv_at hl 2 rfl) ?_
            refine gh_kr (va_runV (As := [.int a1]) (rest := []) ⟨hx, hb, hml, hown, hw⟩ (cc_X4_at l G V 18 gi18 a1) (cwV 1 hw gv_RX8_68 rfl rfl rfl dd_X4_at ⟨Nat.le_of_ble_eq_true rfl, Nat.le_of_ble_eq_true rfl⟩) (gh_preV hT hP (Nat.le_of_ble_eq_true rfl) kd18 rfl rfl) rfl rfl hl.1 rfl (lv_room (Nat.le_of_ble_eq_true rfl)) dX8_playerOf_88 ⟨Nat.zero_le _, Nat.zero_le _⟩) hS (fun H locs hP hS => ?_)
            exact gh_iretR hx hb hr hlocks hP hS hT hres dX8_playerOf_91
          · have hres := hres.trans (if_neg c_5)
            by_cases c_6 : a2 = 4
            · have hres := hres.trans (if_pos c_6)
              refine lv_tableIn (off := 73) (tgt := 92) hx hb dX8_playerOf_19 (by rw [c_6]; decide) (by rw [c_6]; decide) (by rw [c_6]; rfl) (by decide) ?_
              refine lv_aload_n hx hb dX8_playerOf_92 rfl (lv_at hl 0 rfl) ?_
              refine lv_iload_n hx hb dX8_playerOf_93 rfl (lv_at hl 2 rfl) ?_
              refine gh_kr (va_runV (As := [.int a1]) (rest := []) ⟨hx, hb, hml, hown, hw⟩ (cc_X0_hasHint l G V a1) (cwV 1 hw gv_RX8_161 rfl rfl rfl dd_X0_hasHint ⟨Nat.le_of_ble_eq_true rfl, Nat.le_of_ble_eq_true rfl⟩) (gh_preV hT hP (Nat.le_of_ble_eq_true rfl) kd11 rfl rfl) rfl rfl hl.1 rfl (lv_room (Nat.le_of_ble_eq_true rfl)) dX8_playerOf_94 ⟨Nat.zero_le _, Nat.zero_le _⟩) hS (fun H locs hP hS => ?_)
              refine lv_if_eq (tgt := 111) hx hb dX8_playerOf_97 (by decide) (fun c_7 => ?_) (fun c_7 => ?_)
              · have hres := hres.trans (if_pos c_7)
                refine lv_bipush (v := -4) hx hb dX8_playerOf_111 (by decide) ?_
                exact gh_iretR hx hb hr hlocks hP hS hT hres dX8_playerOf_113
              have hres := hres.trans (if_neg c_7)
              refine lv_aload_n hx hb dX8_playerOf_100 rfl (lv_at hl 0 rfl) ?_
              refine gh_get (v := .ref (gA G 20)) (C := RX0) (T := TX0) (N := 7) hx hb hw inlX0 hown hT hP 11 (Nat.le_of_ble_eq_true rfl) kd11 rfl rfl 5 (by decide) (hw _ uw493) rfl dX8_playerOf_101 ?_
              refine lv_iload_n hx hb dX8_playerOf_104 rfl (lv_at hl 2 rfl) ?_
              refine gh_kr (va_runV (As := [.int a1]) (rest := []) ⟨hx, hb, hml, hown, hw⟩ (cc_X4_at l G V 20 gi20 a1) (cwV 1 hw gv_RX8_68 rfl rfl rfl dd_X4_at ⟨Nat.le_of_ble_eq_true rfl, Nat.le_of_ble_eq_true rfl⟩) (gh_preV hT hP (Nat.le_of_ble_eq_true rfl) kd20 rfl rfl) rfl rfl hl.1 rfl (lv_room (Nat.le_of_ble_eq_true rfl)) dX8_playerOf_105 ⟨Nat.zero_le _, Nat.zero_le _⟩) hS (fun H locs hP hS => ?_)
              refine lv_goto (tgt := 113) hx hb dX8_playerOf_108 (by decide) ?_
              exact gh_iretR hx hb hr hlocks hP hS hT hres dX8_playerOf_113
            · have hres := hres.trans (if_neg c_6)
              by_cases c_8 : a2 = 5
              · have hres := hres.trans (if_pos c_8)
                refine lv_tableIn (off := 95) (tgt := 114) hx hb dX8_playerOf_19 (by rw [c_8]; decide) (by rw [c_8]; decide) (by rw [c_8]; rfl) (by decide) ?_
                refine lv_aload_n hx hb dX8_playerOf_114 rfl (lv_at hl 0 rfl) ?_
                refine lv_iload_n hx hb dX8_playerOf_115 rfl (lv_at hl 2 rfl) ?_
                refine gh_kr (va_runV (As := [.int a1]) (rest := []) ⟨hx, hb, hml, hown, hw⟩ (cc_X0_hasHint l G V a1) (cwV 1 hw gv_RX8_161 rfl rfl rfl dd_X0_hasHint ⟨Nat.le_of_ble_eq_true rfl, Nat.le_of_ble_eq_true rfl⟩) (gh_preV hT hP (Nat.le_of_ble_eq_true rfl) kd11 rfl rfl) rfl rfl hl.1 rfl (lv_room (Nat.le_of_ble_eq_true rfl)) dX8_playerOf_116 ⟨Nat.zero_le _, Nat.zero_le _⟩) hS (fun H locs hP hS => ?_)
                refine lv_if_eq (tgt := 133) hx hb dX8_playerOf_119 (by decide) (fun c_9 => ?_) (fun c_9 => ?_)
                · have hres := hres.trans (if_pos c_9)
                  refine lv_bipush (v := -4) hx hb dX8_playerOf_133 (by decide) ?_
                  exact gh_iretR hx hb hr hlocks hP hS hT hres dX8_playerOf_135
                have hres := hres.trans (if_neg c_9)
                refine lv_aload_n hx hb dX8_playerOf_122 rfl (lv_at hl 0 rfl) ?_
                refine gh_get (v := .ref (gA G 22)) (C := RX0) (T := TX0) (N := 7) hx hb hw inlX0 hown hT hP 11 (Nat.le_of_ble_eq_true rfl) kd11 rfl rfl 6 (by decide) (hw _ uw494) rfl dX8_playerOf_123 ?_
                refine lv_iload_n hx hb dX8_playerOf_126 rfl (lv_at hl 2 rfl) ?_
                refine gh_kr (va_runV (As := [.int a1]) (rest := []) ⟨hx, hb, hml, hown, hw⟩ (cc_X4_at l G V 22 gi22 a1) (cwV 1 hw gv_RX8_68 rfl rfl rfl dd_X4_at ⟨Nat.le_of_ble_eq_true rfl, Nat.le_of_ble_eq_true rfl⟩) (gh_preV hT hP (Nat.le_of_ble_eq_true rfl) kd22 rfl rfl) rfl rfl hl.1 rfl (lv_room (Nat.le_of_ble_eq_true rfl)) dX8_playerOf_127 ⟨Nat.zero_le _, Nat.zero_le _⟩) hS (fun H locs hP hS => ?_)
                refine lv_goto (tgt := 135) hx hb dX8_playerOf_130 (by decide) ?_
                exact gh_iretR hx hb hr hlocks hP hS hT hres dX8_playerOf_135
              · have hres := hres.trans (if_neg c_8)
                refine lv_tableOut (tgt := 136) hx hb dX8_playerOf_19 (gh_sw2 (a := 0) (n := 5) (by decide) (fun j hi hj => by
                    rcases (show j = 0 ∨ j = 1 ∨ j = 2 ∨ j = 3 ∨ j = 4 ∨ j = 5 by omega) with rfl | rfl | rfl | rfl | rfl | rfl
                    · exact c_2
                    · exact c_3
                    · exact c_4
                    · exact c_5
                    · exact c_6
                    · exact c_8)) (by decide) ?_
                refine lv_iconst (v := -1) hx hb dX8_playerOf_136 (by decide) ?_
                exact gh_iretR hx hb hr hlocks hP hS hT hres dX8_playerOf_137
  have hres := hres.trans (if_pos c_1)
  refine lv_iconst (v := -1) hx hb dX8_playerOf_16 (by decide) ?_
  exact gh_iretR hx hb hr hlocks hP hS hT hres dX8_playerOf_17
def MX8_open  (a1 : Int32) (V : gV) : Int32 := if 0 ≤ a1 then (if (V 24 0) = 0 then ((-2 : Int32)) else (if a1 < (MX4_at 3 (V 24 1) V) then (if (MX8_holds (V 24 6) (MX7_letterAt 2 (V 24 1) a1 V) V) = 0 then ((26 : Int32)) else ((MX7_letterAt 2 (V 24 1) a1 V))) else ((-4 : Int32)))) else ((-1 : Int32))
abbrev wc_X8_open : List Cond := Cond.code yX8_open cX8_open 3 (some .int) :: wsL_law
abbrev r_X8_open : Room := { frames := 2, cells := 0, slots := 0, locals := 43 }
theorem dd_X8_open : yX8_open.cls = RX8 ∧ yX8_open.cls ≠ "java/lang/invoke/MethodHandle" ∧ yX8_open.cls ≠ "java/lang/invoke/VarHandle" ∧ (parseMethodDescriptor yX8_open.desc).map (fun d => d.parameters.length) = some 1 := by decide +kernel
set_option maxHeartbeats 8000000 in
set_option maxRecDepth 100000 in
theorem cc_X8_open (l : Launch) (G : gG) (V : gV)   (a1 : Int32)  : Met l yX8_open wc_X8_open r_X8_open (va_Pc [.ref (gA G 0), .int a1] (gW G V)) (gQR G (MX8_open a1 V) V) 0 0 (gF G) := by
  refine Met.ofW (cc := cX8_open) (maxL := 3) (ret := (some .int)) (by decide) rfl ?_
  intro p e s m args below meth c s₁ B hml hv
  obtain ⟨rfl, hP, hT⟩ := hv
  have hx := B.exec
  have hb := B.bytes
  have hr := B.returns
  have hw := gh_hw (atoms_spec (ws := wc_X8_open) B.pre)
  have hown : s.vm.findClass RX8 = some m.cls := findClass_of_methodNamed B.named
  have hlocks := B.notSynchronized
  have hS : va_S (gF G) s.heap s.heap [] := va_S.rf
  have hl := lv_entry ([.ref (gA G 0), .int a1]) (n := 3) (Nat.le_of_ble_eq_true rfl)
  rw [lg_entry_eq]
  generalize (lg_sl ([.ref (gA G 0), .int a1]) ++ List.replicate (3 - (lg_sl ([.ref (gA G 0), .int a1])).length) Slot.unset).toArray = ls at hl ⊢
  have hl : lv_has ls 3 [(0, .ref (gA G 0)), (1, .int a1)] := hl
  obtain ⟨res, hres⟩ : ∃ r, r = MX8_open a1 V := ⟨_, rfl⟩
  rw [← hres]
  show W p l e r_X8_open s m ([.ref (gA G 0), .int a1] : List Value).toArray below meth c s.heap [] 0 0 (MQ below (gQR G res V) ([.ref (gA G 0), .int a1] : List Value).toArray s 0 0 (gF G)) (F0 m 0 ls [])
  have hres : res = (if 0 ≤ a1 then (if (V 24 0) = 0 then ((-2 : Int32)) else (if a1 < (MX4_at 3 (V 24 1) V) then (if (MX8_holds (V 24 6) (MX7_letterAt 2 (V 24 1) a1 V) V) = 0 then ((26 : Int32)) else ((MX7_letterAt 2 (V 24 1) a1 V))) else ((-4 : Int32)))) else ((-1 : Int32))) := hres
  refine lv_iload_n hx hb dX8_open_0 rfl (lv_at hl 1 rfl) ?_
  refine lv_if_ge (tgt := 6) hx hb dX8_open_1 (by decide) (fun c_1 => ?_) (fun c_1 => ?_)
  · have hres := hres.trans (if_pos c_1)
    refine lv_aload_n hx hb dX8_open_6 rfl (lv_at hl 0 rfl) ?_
    refine gh_get (v := .ref (gA G 1)) (C := RX8) (T := TX8) (N := 5) hx hb hw inlX8 hown hT hP 0 (Nat.le_of_ble_eq_true rfl) kd0 rfl rfl 0 (by decide) (hw _ uw15) rfl dX8_open_7 ?_
    refine gh_get (v := .ref (gA G 24)) (C := RX5) (T := TX5) (N := 9) hx hb hw inlX5 hown hT hP 1 (Nat.le_of_ble_eq_true rfl) kd1 rfl rfl 2 (by decide) (hw _ uw127) rfl dX8_open_10 ?_
    refine gh_get (v := .int (V 24 0)) (C := RX3) (T := TX3) (N := 7) hx hb hw inlX3 hown hT hP 24 (Nat.le_of_ble_eq_true rfl) kd24 rfl rfl 0 (by decide) (hw _ uw128) rfl dX8_open_13 ?_
    refine lv_if_ne (tgt := 22) hx hb dX8_open_16 (by decide) (fun c_2 => ?_) (fun c_2 => ?_)
    · have hres := hres.trans (if_neg c_2)
      refine lv_iload_n hx hb dX8_open_22 rfl (lv_at hl 1 rfl) ?_
      refine lv_aload_n hx hb dX8_open_23 rfl (lv_at hl 0 rfl) ?_
      refine gh_get (v := .ref (gA G 1)) (C := RX8) (T := TX8) (N := 5) hx hb hw inlX8 hown hT hP 0 (Nat.le_of_ble_eq_true rfl) kd0 rfl rfl 0 (by decide) (hw _ uw15) rfl dX8_open_24 ?_
      refine gh_get (v := .ref (gA G 2)) (C := RX5) (T := TX5) (N := 9) hx hb hw inlX5 hown hT hP 1 (Nat.le_of_ble_eq_true rfl) kd1 rfl rfl 0 (by decide) (hw _ uw126) rfl dX8_open_27 ?_
      refine gh_get (v := .ref (gA G 3)) (C := RX7) (T := TX7) (N := 5) hx hb hw inlX7 hown hT hP 2 (Nat.le_of_ble_eq_true rfl) kd2 rfl rfl 1 (by decide) (hw _ uw288) rfl dX8_open_30 ?_
      refine lv_aload_n hx hb dX8_open_33 rfl (lv_at hl 0 rfl) ?_
      refine gh_get (v := .ref (gA G 1)) (C := RX8) (T := TX8) (N := 5) hx hb hw inlX8 hown hT hP 0 (Nat.le_of_ble_eq_true rfl) kd0 rfl rfl 0 (by decide) (hw _ uw15) rfl dX8_open_34 ?_
      refine gh_get (v := .ref (gA G 24)) (C := RX5) (T := TX5) (N := 9) hx hb hw inlX5 hown hT hP 1 (Nat.le_of_ble_eq_true rfl) kd1 rfl rfl 2 (by decide) (hw _ uw127) rfl dX8_open_37 ?_
      refine gh_get (v := .int (V 24 1)) (C := RX3) (T := TX3) (N := 7) hx hb hw inlX3 hown hT hP 24 (Nat.le_of_ble_eq_true rfl) kd24 rfl rfl 1 (by decide) (hw _ uw289) rfl dX8_open_40 ?_
      refine gh_kr (va_runV (As := [.int (V 24 1)]) (rest := [.int a1]) ⟨hx, hb, hml, hown, hw⟩ (cc_X4_at l G V 3 gi3 (V 24 1)) (cwV 1 hw gv_RX8_68 rfl rfl rfl dd_X4_at ⟨Nat.le_of_ble_eq_true rfl, Nat.le_of_ble_eq_true rfl⟩) (gh_preV hT hP (Nat.le_of_ble_eq_true rfl) kd3 rfl rfl) rfl rfl hl.1 rfl (lv_room (Nat.le_of_ble_eq_true rfl)) dX8_open_43 ⟨Nat.zero_le _, Nat.zero_le _⟩) hS (fun H locs hP hS => ?_)
      refine lv_icmp_lt (tgt := 52) hx hb dX8_open_46 (by decide) (fun c_3 => ?_) (fun c_3 => ?_)
      · have hres := hres.trans (if_pos c_3)
        refine lv_aload_n hx hb dX8_open_52 rfl (lv_at hl 0 rfl) ?_
        refine gh_get (v := .ref (gA G 1)) (C := RX8) (T := TX8) (N := 5) hx hb hw inlX8 hown hT hP 0 (Nat.le_of_ble_eq_true rfl) kd0 rfl rfl 0 (by decide) (hw _ uw15) rfl dX8_open_53 ?_
        refine gh_get (v := .ref (gA G 2)) (C := RX5) (T := TX5) (N := 9) hx hb hw inlX5 hown hT hP 1 (Nat.le_of_ble_eq_true rfl) kd1 rfl rfl 0 (by decide) (hw _ uw126) rfl dX8_open_56 ?_
        refine lv_aload_n hx hb dX8_open_59 rfl (lv_at hl 0 rfl) ?_
        refine gh_get (v := .ref (gA G 1)) (C := RX8) (T := TX8) (N := 5) hx hb hw inlX8 hown hT hP 0 (Nat.le_of_ble_eq_true rfl) kd0 rfl rfl 0 (by decide) (hw _ uw15) rfl dX8_open_60 ?_
        refine gh_get (v := .ref (gA G 24)) (C := RX5) (T := TX5) (N := 9) hx hb hw inlX5 hown hT hP 1 (Nat.le_of_ble_eq_true rfl) kd1 rfl rfl 2 (by decide) (hw _ uw127) rfl dX8_open_63 ?_
        refine gh_get (v := .int (V 24 1)) (C := RX3) (T := TX3) (N := 7) hx hb hw inlX3 hown hT hP 24 (Nat.le_of_ble_eq_true rfl) kd24 rfl rfl 1 (by decide) (hw _ uw289) rfl dX8_open_66 ?_
        refine lv_iload_n hx hb dX8_open_69 rfl (lv_at hl 1 rfl) ?_
        refine gh_kr (va_runV (As := [.int (V 24 1), .int a1]) (rest := []) ⟨hx, hb, hml, hown, hw⟩ (cc_X7_letterAt l G V 2 gi2 (V 24 1) a1) (cwV 2 hw gv_RX8_164 rfl rfl rfl dd_X7_letterAt ⟨Nat.le_of_ble_eq_true rfl, Nat.le_of_ble_eq_true rfl⟩) (gh_preV hT hP (Nat.le_of_ble_eq_true rfl) kd2 rfl rfl) rfl rfl hl.1 rfl (lv_room (Nat.le_of_ble_eq_true rfl)) dX8_open_70 ⟨Nat.zero_le _, Nat.zero_le _⟩) hS (fun H locs hP hS => ?_)
        refine lv_istore_n (lv' := [(2, .int (MX7_letterAt 2 (V 24 1) a1 V)), (0, .ref (gA G 0)), (1, .int a1)]) hx hb dX8_open_73 rfl hl (by decide) rfl (fun ls hl => ?_)
        refine lv_aload_n hx hb dX8_open_74 rfl (lv_at hl 1 rfl) ?_
        refine gh_get (v := .ref (gA G 1)) (C := RX8) (T := TX8) (N := 5) hx hb hw inlX8 hown hT hP 0 (Nat.le_of_ble_eq_true rfl) kd0 rfl rfl 0 (by decide) (hw _ uw15) rfl dX8_open_75 ?_
        refine gh_get (v := .ref (gA G 24)) (C := RX5) (T := TX5) (N := 9) hx hb hw inlX5 hown hT hP 1 (Nat.le_of_ble_eq_true rfl) kd1 rfl rfl 2 (by decide) (hw _ uw127) rfl dX8_open_78 ?_
        refine gh_get (v := .int (V 24 6)) (C := RX3) (T := TX3) (N := 7) hx hb hw inlX3 hown hT hP 24 (Nat.le_of_ble_eq_true rfl) kd24 rfl rfl 6 (by decide) (hw _ uw561) rfl dX8_open_81 ?_
        refine lv_iload_n hx hb dX8_open_84 rfl (lv_at hl 0 rfl) ?_
        refine gh_kr (va_runS (As := [.int (V 24 6), .int (MX7_letterAt 2 (V 24 1) a1 V)]) (rest := []) ⟨hx, hb, hml, hown, hw⟩ (cc_X8_holds l G V (V 24 6) (MX7_letterAt 2 (V 24 1) a1 V)) (va_cwS 2 hw gv_RX8_170 rfl rfl rfl dd_X8_holds.2 ⟨Nat.le_of_ble_eq_true rfl, Nat.le_of_ble_eq_true rfl⟩) (gh_pre hT hP) rfl rfl hl.1 rfl (lv_room (Nat.le_of_ble_eq_true rfl)) dX8_open_85 ⟨Nat.zero_le _, Nat.zero_le _⟩) hS (fun H locs hP hS => ?_)
        refine lv_if_eq (tgt := 95) hx hb dX8_open_88 (by decide) (fun c_4 => ?_) (fun c_4 => ?_)
        · have hres := hres.trans (if_pos c_4)
          refine lv_bipush (v := 26) hx hb dX8_open_95 (by decide) ?_
          exact gh_iretR hx hb hr hlocks hP hS hT hres dX8_open_97
        have hres := hres.trans (if_neg c_4)
        refine lv_iload_n hx hb dX8_open_91 rfl (lv_at hl 0 rfl) ?_
        refine lv_goto (tgt := 97) hx hb dX8_open_92 (by decide) ?_
        exact gh_iretR hx hb hr hlocks hP hS hT hres dX8_open_97
      have hres := hres.trans (if_neg c_3)
      refine lv_bipush (v := -4) hx hb dX8_open_49 (by decide) ?_
      exact gh_iretR hx hb hr hlocks hP hS hT hres dX8_open_51
    have hres := hres.trans (if_pos c_2)
    refine lv_bipush (v := -2) hx hb dX8_open_19 (by decide) ?_
    exact gh_iretR hx hb hr hlocks hP hS hT hres dX8_open_21
  have hres := hres.trans (if_neg c_1)
  refine lv_iconst (v := -1) hx hb dX8_open_4 (by decide) ?_
  exact gh_iretR hx hb hr hlocks hP hS hT hres dX8_open_5
def MX8_round  (a1 : Int32) (a2 : Int32) (V : gV) : Int32 := if a1 < 0 then ((-1 : Int32)) else (if (MX8_isBetween a2 (0 : Int32) (3 : Int32) V) = 0 then ((-1 : Int32)) else (if a1 < (V 25 0) then (if a2 = 0 then ((MX4_at 26 a1 V)) else (if a2 = 1 then ((MX4_at 28 a1 V)) else (if a2 = 2 then ((MX4_at 30 a1 V)) else ((MX4_at 32 a1 V))))) else ((-4 : Int32))))
abbrev wc_X8_round : List Cond := Cond.code yX8_round cX8_round 3 (some .int) :: wsL_law
abbrev r_X8_round : Room := { frames := 1, cells := 0, slots := 0, locals := 22 }
theorem dd_X8_round : yX8_round.cls = RX8 ∧ yX8_round.cls ≠ "java/lang/invoke/MethodHandle" ∧ yX8_round.cls ≠ "java/lang/invoke/VarHandle" ∧ (parseMethodDescriptor yX8_round.desc).map (fun d => d.parameters.length) = some 2 := by decide +kernel
set_option maxHeartbeats 8000000 in
set_option maxRecDepth 100000 in
theorem cc_X8_round (l : Launch) (G : gG) (V : gV)   (a1 : Int32) (a2 : Int32)  : Met l yX8_round wc_X8_round r_X8_round (va_Pc [.ref (gA G 0), .int a1, .int a2] (gW G V)) (gQR G (MX8_round a1 a2 V) V) 0 0 (gF G) := by
  refine Met.ofW (cc := cX8_round) (maxL := 3) (ret := (some .int)) (by decide) rfl ?_
  intro p e s m args below meth c s₁ B hml hv
  obtain ⟨rfl, hP, hT⟩ := hv
  have hx := B.exec
  have hb := B.bytes
  have hr := B.returns
  have hw := gh_hw (atoms_spec (ws := wc_X8_round) B.pre)
  have hown : s.vm.findClass RX8 = some m.cls := findClass_of_methodNamed B.named
  have hlocks := B.notSynchronized
  have hS : va_S (gF G) s.heap s.heap [] := va_S.rf
  have hl := lv_entry ([.ref (gA G 0), .int a1, .int a2]) (n := 3) (Nat.le_of_ble_eq_true rfl)
  rw [lg_entry_eq]
  generalize (lg_sl ([.ref (gA G 0), .int a1, .int a2]) ++ List.replicate (3 - (lg_sl ([.ref (gA G 0), .int a1, .int a2])).length) Slot.unset).toArray = ls at hl ⊢
  have hl : lv_has ls 3 [(0, .ref (gA G 0)), (1, .int a1), (2, .int a2)] := hl
  obtain ⟨res, hres⟩ : ∃ r, r = MX8_round a1 a2 V := ⟨_, rfl⟩
  rw [← hres]
  show W p l e r_X8_round s m ([.ref (gA G 0), .int a1, .int a2] : List Value).toArray below meth c s.heap [] 0 0 (MQ below (gQR G res V) ([.ref (gA G 0), .int a1, .int a2] : List Value).toArray s 0 0 (gF G)) (F0 m 0 ls [])
  have hres : res = (if a1 < 0 then ((-1 : Int32)) else (if (MX8_isBetween a2 (0 : Int32) (3 : Int32) V) = 0 then ((-1 : Int32)) else (if a1 < (V 25 0) then (if a2 = 0 then ((MX4_at 26 a1 V)) else (if a2 = 1 then ((MX4_at 28 a1 V)) else (if a2 = 2 then ((MX4_at 30 a1 V)) else ((MX4_at 32 a1 V))))) else ((-4 : Int32))))) := hres
  refine lv_iload_n hx hb dX8_round_0 rfl (lv_at hl 1 rfl) ?_
  refine lv_if_lt (tgt := 13) hx hb dX8_round_1 (by decide) (fun c_1 => ?_) (fun c_1 => ?_)
  · have hres := hres.trans (if_pos c_1)
    refine lv_iconst (v := -1) hx hb dX8_round_13 (by decide) ?_
    exact gh_iretR hx hb hr hlocks hP hS hT hres dX8_round_14
  have hres := hres.trans (if_neg c_1)
  refine lv_iload_n hx hb dX8_round_4 rfl (lv_at hl 2 rfl) ?_
  refine lv_iconst (v := 0) hx hb dX8_round_5 (by decide) ?_
  refine lv_iconst (v := 3) hx hb dX8_round_6 (by decide) ?_
  refine gh_kr (va_runS (As := [.int a2, .int (0 : Int32), .int (3 : Int32)]) (rest := []) ⟨hx, hb, hml, hown, hw⟩ (cc_X8_isBetween l G V a2 (0 : Int32) (3 : Int32)) (va_cwS 3 hw gv_RX8_47 rfl rfl rfl dd_X8_isBetween.2 ⟨Nat.le_of_ble_eq_true rfl, Nat.le_of_ble_eq_true rfl⟩) (gh_pre hT hP) rfl rfl hl.1 rfl (lv_room (Nat.le_of_ble_eq_true rfl)) dX8_round_7 ⟨Nat.zero_le _, Nat.zero_le _⟩) hS (fun H locs hP hS => ?_)
  refine lv_if_ne (tgt := 15) hx hb dX8_round_10 (by decide) (fun c_2 => ?_) (fun c_2 => ?_)
  · have hres := hres.trans (if_neg c_2)
    refine lv_iload_n hx hb dX8_round_15 rfl (lv_at hl 1 rfl) ?_
    refine lv_aload_n hx hb dX8_round_16 rfl (lv_at hl 0 rfl) ?_
    refine gh_get (v := .ref (gA G 1)) (C := RX8) (T := TX8) (N := 5) hx hb hw inlX8 hown hT hP 0 (Nat.le_of_ble_eq_true rfl) kd0 rfl rfl 0 (by decide) (hw _ uw15) rfl dX8_round_17 ?_
    refine gh_get (v := .ref (gA G 25)) (C := RX5) (T := TX5) (N := 9) hx hb hw inlX5 hown hT hP 1 (Nat.le_of_ble_eq_true rfl) kd1 rfl rfl 3 (by decide) (hw _ uw570) rfl dX8_round_20 ?_
    refine gh_get (v := .int (V 25 0)) (C := RX2) (T := TX2) (N := 5) hx hb hw inlX2 hown hT hP 25 (Nat.le_of_ble_eq_true rfl) kd25 rfl rfl 0 (by decide) (hw _ uw571) rfl dX8_round_23 ?_
    refine lv_icmp_lt (tgt := 32) hx hb dX8_round_26 (by decide) (fun c_3 => ?_) (fun c_3 => ?_)
    · have hres := hres.trans (if_pos c_3)
      refine lv_iload_n hx hb dX8_round_32 rfl (lv_at hl 2 rfl) ?_
      by_cases c_4 : a2 = 0
      · have hres := hres.trans (if_pos c_4)
        refine lv_tableIn (off := 27) (tgt := 60) hx hb dX8_round_33 (by rw [c_4]; decide) (by rw [c_4]; decide) (by rw [c_4]; rfl) (by decide) ?_
        refine lv_aload_n hx hb dX8_round_60 rfl (lv_at hl 0 rfl) ?_
        refine gh_get (v := .ref (gA G 1)) (C := RX8) (T := TX8) (N := 5) hx hb hw inlX8 hown hT hP 0 (Nat.le_of_ble_eq_true rfl) kd0 rfl rfl 0 (by decide) (hw _ uw15) rfl dX8_round_61 ?_
        refine gh_get (v := .ref (gA G 25)) (C := RX5) (T := TX5) (N := 9) hx hb hw inlX5 hown hT hP 1 (Nat.le_of_ble_eq_true rfl) kd1 rfl rfl 3 (by decide) (hw _ uw570) rfl dX8_round_64 ?_
        refine gh_get (v := .ref (gA G 26)) (C := RX2) (T := TX2) (N := 5) hx hb hw inlX2 hown hT hP 25 (Nat.le_of_ble_eq_true rfl) kd25 rfl rfl 1 (by decide) (hw _ uw572) rfl dX8_round_67 ?_
        refine lv_iload_n hx hb dX8_round_70 rfl (lv_at hl 1 rfl) ?_
        refine gh_kr (va_runV (As := [.int a1]) (rest := []) ⟨hx, hb, hml, hown, hw⟩ (cc_X4_at l G V 26 gi26 a1) (cwV 1 hw gv_RX8_68 rfl rfl rfl dd_X4_at ⟨Nat.le_of_ble_eq_true rfl, Nat.le_of_ble_eq_true rfl⟩) (gh_preV hT hP (Nat.le_of_ble_eq_true rfl) kd26 rfl rfl) rfl rfl hl.1 rfl (lv_room (Nat.le_of_ble_eq_true rfl)) dX8_round_71 ⟨Nat.zero_le _, Nat.zero_le _⟩) hS (fun H locs hP hS => ?_)
        exact gh_iretR hx hb hr hlocks hP hS hT hres dX8_round_74
      · have hres := hres.trans (if_neg c_4)
        by_cases c_5 : a2 = 1
        · have hres := hres.trans (if_pos c_5)
          refine lv_tableIn (off := 42) (tgt := 75) hx hb dX8_round_33 (by rw [c_5]; decide) (by rw [c_5]; decide) (by rw [c_5]; rfl) (by decide) ?_
          refine lv_aload_n hx hb dX8_round_75 rfl (lv_at hl 0 rfl) ?_
          refine gh_get (v := .ref (gA G 1)) (C := RX8) (T := TX8) (N := 5) hx hb hw inlX8 hown hT hP 0 (Nat.le_of_ble_eq_true rfl) kd0 rfl rfl 0 (by decide) (hw _ uw15) rfl dX8_round_76 ?_
          refine gh_get (v := .ref (gA G 25)) (C := RX5) (T := TX5) (N := 9) hx hb hw inlX5 hown hT hP 1 (Nat.le_of_ble_eq_true rfl) kd1 rfl rfl 3 (by decide) (hw _ uw570) rfl dX8_round_79 ?_
          refine gh_get (v := .ref (gA G 28)) (C := RX2) (T := TX2) (N := 5) hx hb hw inlX2 hown hT hP 25 (Nat.le_of_ble_eq_true rfl) kd25 rfl rfl 2 (by decide) (hw _ uw573) rfl dX8_round_82 ?_
          refine lv_iload_n hx hb dX8_round_85 rfl (lv_at hl 1 rfl) ?_
          refine gh_kr (va_runV (As := [.int a1]) (rest := []) ⟨hx, hb, hml, hown, hw⟩ (cc_X4_at l G V 28 gi28 a1) (cwV 1 hw gv_RX8_68 rfl rfl rfl dd_X4_at ⟨Nat.le_of_ble_eq_true rfl, Nat.le_of_ble_eq_true rfl⟩) (gh_preV hT hP (Nat.le_of_ble_eq_true rfl) kd28 rfl rfl) rfl rfl hl.1 rfl (lv_room (Nat.le_of_ble_eq_true rfl)) dX8_round_86 ⟨Nat.zero_le _, Nat.zero_le _⟩) hS (fun H locs hP hS => ?_)
          exact gh_iretR hx hb hr hlocks hP hS hT hres dX8_round_89
        · have hres := hres.trans (if_neg c_5)
          by_cases c_6 : a2 = 2
          · have hres := hres.trans (if_pos c_6)
            refine lv_tableIn (off := 57) (tgt := 90) hx hb dX8_round_33 (by rw [c_6]; decide) (by rw [c_6]; decide) (by rw [c_6]; rfl) (by decide) ?_
            refine lv_aload_n hx hb dX8_round_90 rfl (lv_at hl 0 rfl) ?_
            refine gh_get (v := .ref (gA G 1)) (C := RX8) (T := TX8) (N := 5) hx hb hw inlX8 hown hT hP 0 (Nat.le_of_ble_eq_true rfl) kd0 rfl rfl 0 (by decide) (hw _ uw15) rfl dX8_round_91 ?_
            refine gh_get (v := .ref (gA G 25)) (C := RX5) (T := TX5) (N := 9) hx hb hw inlX5 hown hT hP 1 (Nat.le_of_ble_eq_true rfl) kd1 rfl rfl 3 (by decide) (hw _ uw570) rfl dX8_round_94 ?_
            refine gh_get (v := .ref (gA G 30)) (C := RX2) (T := TX2) (N := 5) hx hb hw inlX2 hown hT hP 25 (Nat.le_of_ble_eq_true rfl) kd25 rfl rfl 3 (by decide) (hw _ uw574) rfl dX8_round_97 ?_
            refine lv_iload_n hx hb dX8_round_100 rfl (lv_at hl 1 rfl) ?_
            refine gh_kr (va_runV (As := [.int a1]) (rest := []) ⟨hx, hb, hml, hown, hw⟩ (cc_X4_at l G V 30 gi30 a1) (cwV 1 hw gv_RX8_68 rfl rfl rfl dd_X4_at ⟨Nat.le_of_ble_eq_true rfl, Nat.le_of_ble_eq_true rfl⟩) (gh_preV hT hP (Nat.le_of_ble_eq_true rfl) kd30 rfl rfl) rfl rfl hl.1 rfl (lv_room (Nat.le_of_ble_eq_true rfl)) dX8_round_101 ⟨Nat.zero_le _, Nat.zero_le _⟩) hS (fun H locs hP hS => ?_)
            exact gh_iretR hx hb hr hlocks hP hS hT hres dX8_round_104
          · have hres := hres.trans (if_neg c_6)
            refine lv_tableOut (tgt := 105) hx hb dX8_round_33 (gh_sw2 (a := 0) (n := 2) (by decide) (fun j hi hj => by
                rcases (show j = 0 ∨ j = 1 ∨ j = 2 by omega) with rfl | rfl | rfl
                · exact c_4
                · exact c_5
                · exact c_6)) (by decide) ?_
            refine lv_aload_n hx hb dX8_round_105 rfl (lv_at hl 0 rfl) ?_
            refine gh_get (v := .ref (gA G 1)) (C := RX8) (T := TX8) (N := 5) hx hb hw inlX8 hown hT hP 0 (Nat.le_of_ble_eq_true rfl) kd0 rfl rfl 0 (by decide) (hw _ uw15) rfl dX8_round_106 ?_
            refine gh_get (v := .ref (gA G 25)) (C := RX5) (T := TX5) (N := 9) hx hb hw inlX5 hown hT hP 1 (Nat.le_of_ble_eq_true rfl) kd1 rfl rfl 3 (by decide) (hw _ uw570) rfl dX8_round_109 ?_
            refine gh_get (v := .ref (gA G 32)) (C := RX2) (T := TX2) (N := 5) hx hb hw inlX2 hown hT hP 25 (Nat.le_of_ble_eq_true rfl) kd25 rfl rfl 4 (by decide) (hw _ uw575) rfl dX8_round_112 ?_
            refine lv_iload_n hx hb dX8_round_115 rfl (lv_at hl 1 rfl) ?_
            refine gh_kr (va_runV (As := [.int a1]) (rest := []) ⟨hx, hb, hml, hown, hw⟩ (cc_X4_at l G V 32 gi32 a1) (cwV 1 hw gv_RX8_68 rfl rfl rfl dd_X4_at ⟨Nat.le_of_ble_eq_true rfl, Nat.le_of_ble_eq_true rfl⟩) (gh_preV hT hP (Nat.le_of_ble_eq_true rfl) kd32 rfl rfl) rfl rfl hl.1 rfl (lv_room (Nat.le_of_ble_eq_true rfl)) dX8_round_116 ⟨Nat.zero_le _, Nat.zero_le _⟩) hS (fun H locs hP hS => ?_)
            exact gh_iretR hx hb hr hlocks hP hS hT hres dX8_round_119
    have hres := hres.trans (if_neg c_3)
    refine lv_bipush (v := -4) hx hb dX8_round_29 (by decide) ?_
    exact gh_iretR hx hb hr hlocks hP hS hT hres dX8_round_31
  have hres := hres.trans (if_pos c_2)
  refine lv_iconst (v := -1) hx hb dX8_round_13 (by decide) ?_
  exact gh_iretR hx hb hr hlocks hP hS hT hres dX8_round_14
theorem gv_RX8_193 : GoodIn wsL_law (wsV RX8 193 RX8 yX8_countOfHall wc_X8_countOfHall) := gh_gV uw592 uw593 uw594 uw2 uw595
theorem gv_RX8_190 : GoodIn wsL_law (wsV RX8 190 RX8 yX8_countOfRound wc_X8_countOfRound) := gh_gV uw584 uw585 uw586 uw2 uw587
def MX8_count  (a1 : Int32) (V : gV) : Int32 := if (MX8_isBetween a1 (0 : Int32) (15 : Int32) V) = 0 then ((-1 : Int32)) else (if (MX8_isBetween a1 (3 : Int32) (7 : Int32) V) = 0 then ((MX8_countOfHall a1 V)) else (if (V 24 0) = 0 then ((-4 : Int32)) else ((MX8_countOfRound a1 V))))
def PX8_count  (a1 : Int32) (V : gV) : Prop := ((¬ (MX8_isBetween a1 (0 : Int32) (15 : Int32) V) = 0 → (((MX8_isBetween a1 (3 : Int32) (7 : Int32) V) = 0 → (PX8_countOfHall a1 V)) ∧ (¬ (MX8_isBetween a1 (3 : Int32) (7 : Int32) V) = 0 → ((¬ (V 24 0) = 0 → (PX8_countOfRound a1 V)))))))
abbrev wc_X8_count : List Cond := Cond.code yX8_count cX8_count 2 (some .int) :: wsL_law
abbrev r_X8_count : Room := { frames := 4, cells := 0, slots := 0, locals := 87 }
theorem dd_X8_count : yX8_count.cls = RX8 ∧ yX8_count.cls ≠ "java/lang/invoke/MethodHandle" ∧ yX8_count.cls ≠ "java/lang/invoke/VarHandle" ∧ (parseMethodDescriptor yX8_count.desc).map (fun d => d.parameters.length) = some 1 := by decide +kernel
set_option maxHeartbeats 8000000 in
set_option maxRecDepth 100000 in
theorem cc_X8_count (l : Launch) (G : gG) (V : gV)   (a1 : Int32) (hs : PX8_count a1 V) : Met l yX8_count wc_X8_count r_X8_count (va_Pc [.ref (gA G 0), .int a1] (gW G V)) (gQR G (MX8_count a1 V) V) 0 0 (gF G) := by
  refine Met.ofW (cc := cX8_count) (maxL := 2) (ret := (some .int)) (by decide) rfl ?_
  intro p e s m args below meth c s₁ B hml hv
  obtain ⟨rfl, hP, hT⟩ := hv
  have hx := B.exec
  have hb := B.bytes
  have hr := B.returns
  have hw := gh_hw (atoms_spec (ws := wc_X8_count) B.pre)
  have hown : s.vm.findClass RX8 = some m.cls := findClass_of_methodNamed B.named
  have hlocks := B.notSynchronized
  have hS : va_S (gF G) s.heap s.heap [] := va_S.rf
  have hl := lv_entry ([.ref (gA G 0), .int a1]) (n := 2) (Nat.le_of_ble_eq_true rfl)
  rw [lg_entry_eq]
  generalize (lg_sl ([.ref (gA G 0), .int a1]) ++ List.replicate (2 - (lg_sl ([.ref (gA G 0), .int a1])).length) Slot.unset).toArray = ls at hl ⊢
  have hl : lv_has ls 2 [(0, .ref (gA G 0)), (1, .int a1)] := hl
  obtain ⟨res, hres⟩ : ∃ r, r = MX8_count a1 V := ⟨_, rfl⟩
  rw [← hres]
  show W p l e r_X8_count s m ([.ref (gA G 0), .int a1] : List Value).toArray below meth c s.heap [] 0 0 (MQ below (gQR G res V) ([.ref (gA G 0), .int a1] : List Value).toArray s 0 0 (gF G)) (F0 m 0 ls [])
  have hs : ((¬ (MX8_isBetween a1 (0 : Int32) (15 : Int32) V) = 0 → (((MX8_isBetween a1 (3 : Int32) (7 : Int32) V) = 0 → (PX8_countOfHall a1 V)) ∧ (¬ (MX8_isBetween a1 (3 : Int32) (7 : Int32) V) = 0 → ((¬ (V 24 0) = 0 → (PX8_countOfRound a1 V))))))) := hs
  have hres : res = (if (MX8_isBetween a1 (0 : Int32) (15 : Int32) V) = 0 then ((-1 : Int32)) else (if (MX8_isBetween a1 (3 : Int32) (7 : Int32) V) = 0 then ((MX8_countOfHall a1 V)) else (if (V 24 0) = 0 then ((-4 : Int32)) else ((MX8_countOfRound a1 V))))) := hres
  refine lv_iload_n hx hb dX8_count_0 rfl (lv_at hl 1 rfl) ?_
  refine lv_iconst (v := 0) hx hb dX8_count_1 (by decide) ?_
  refine lv_bipush (v := 15) hx hb dX8_count_2 (by decide) ?_
  refine gh_kr (va_runS (As := [.int a1, .int (0 : Int32), .int (15 : Int32)]) (rest := []) ⟨hx, hb, hml, hown, hw⟩ (cc_X8_isBetween l G V a1 (0 : Int32) (15 : Int32)) (va_cwS 3 hw gv_RX8_47 rfl rfl rfl dd_X8_isBetween.2 ⟨Nat.le_of_ble_eq_true rfl, Nat.le_of_ble_eq_true rfl⟩) (gh_pre hT hP) rfl rfl hl.1 rfl (lv_room (Nat.le_of_ble_eq_true rfl)) dX8_count_4 ⟨Nat.zero_le _, Nat.zero_le _⟩) hS (fun H locs hP hS => ?_)
  refine lv_if_ne (tgt := 12) hx hb dX8_count_7 (by decide) (fun c_1 => ?_) (fun c_1 => ?_)
  · have hres := hres.trans (if_neg c_1)
    have hs := hs c_1
    refine lv_iload_n hx hb dX8_count_12 rfl (lv_at hl 1 rfl) ?_
    refine lv_iconst (v := 3) hx hb dX8_count_13 (by decide) ?_
    refine lv_bipush (v := 7) hx hb dX8_count_14 (by decide) ?_
    refine gh_kr (va_runS (As := [.int a1, .int (3 : Int32), .int (7 : Int32)]) (rest := []) ⟨hx, hb, hml, hown, hw⟩ (cc_X8_isBetween l G V a1 (3 : Int32) (7 : Int32)) (va_cwS 3 hw gv_RX8_47 rfl rfl rfl dd_X8_isBetween.2 ⟨Nat.le_of_ble_eq_true rfl, Nat.le_of_ble_eq_true rfl⟩) (gh_pre hT hP) rfl rfl hl.1 rfl (lv_room (Nat.le_of_ble_eq_true rfl)) dX8_count_16 ⟨Nat.zero_le _, Nat.zero_le _⟩) hS (fun H locs hP hS => ?_)
    refine lv_if_eq (tgt := 46) hx hb dX8_count_19 (by decide) (fun c_2 => ?_) (fun c_2 => ?_)
    · have hres := hres.trans (if_pos c_2)
      have hs := hs.1 c_2
      refine lv_aload_n hx hb dX8_count_46 rfl (lv_at hl 0 rfl) ?_
      refine lv_iload_n hx hb dX8_count_47 rfl (lv_at hl 1 rfl) ?_
      have ho_3 := hs
      refine gh_kr (va_runV (As := [.int a1]) (rest := []) ⟨hx, hb, hml, hown, hw⟩ (cc_X8_countOfHall l G V a1 ho_3) (cwV 1 hw gv_RX8_193 rfl rfl rfl dd_X8_countOfHall ⟨Nat.le_of_ble_eq_true rfl, Nat.le_of_ble_eq_true rfl⟩) (gh_preV hT hP (Nat.le_of_ble_eq_true rfl) kd0 rfl rfl) rfl rfl hl.1 rfl (lv_room (Nat.le_of_ble_eq_true rfl)) dX8_count_48 ⟨Nat.zero_le _, Nat.zero_le _⟩) hS (fun H locs hP hS => ?_)
      exact gh_iretR hx hb hr hlocks hP hS hT hres dX8_count_51
    have hres := hres.trans (if_neg c_2)
    have hs := hs.2 c_2
    refine lv_aload_n hx hb dX8_count_22 rfl (lv_at hl 0 rfl) ?_
    refine gh_get (v := .ref (gA G 1)) (C := RX8) (T := TX8) (N := 5) hx hb hw inlX8 hown hT hP 0 (Nat.le_of_ble_eq_true rfl) kd0 rfl rfl 0 (by decide) (hw _ uw15) rfl dX8_count_23 ?_
    refine gh_get (v := .ref (gA G 24)) (C := RX5) (T := TX5) (N := 9) hx hb hw inlX5 hown hT hP 1 (Nat.le_of_ble_eq_true rfl) kd1 rfl rfl 2 (by decide) (hw _ uw127) rfl dX8_count_26 ?_
    refine gh_get (v := .int (V 24 0)) (C := RX3) (T := TX3) (N := 7) hx hb hw inlX3 hown hT hP 24 (Nat.le_of_ble_eq_true rfl) kd24 rfl rfl 0 (by decide) (hw _ uw128) rfl dX8_count_29 ?_
    refine lv_if_eq (tgt := 43) hx hb dX8_count_32 (by decide) (fun c_4 => ?_) (fun c_4 => ?_)
    · have hres := hres.trans (if_pos c_4)
      refine lv_bipush (v := -4) hx hb dX8_count_43 (by decide) ?_
      exact gh_iretR hx hb hr hlocks hP hS hT hres dX8_count_45
    have hres := hres.trans (if_neg c_4)
    have hs := hs c_4
    refine lv_aload_n hx hb dX8_count_35 rfl (lv_at hl 0 rfl) ?_
    refine lv_iload_n hx hb dX8_count_36 rfl (lv_at hl 1 rfl) ?_
    have ho_5 := hs
    refine gh_kr (va_runV (As := [.int a1]) (rest := []) ⟨hx, hb, hml, hown, hw⟩ (cc_X8_countOfRound l G V a1 ho_5) (cwV 1 hw gv_RX8_190 rfl rfl rfl dd_X8_countOfRound ⟨Nat.le_of_ble_eq_true rfl, Nat.le_of_ble_eq_true rfl⟩) (gh_preV hT hP (Nat.le_of_ble_eq_true rfl) kd0 rfl rfl) rfl rfl hl.1 rfl (lv_room (Nat.le_of_ble_eq_true rfl)) dX8_count_37 ⟨Nat.zero_le _, Nat.zero_le _⟩) hS (fun H locs hP hS => ?_)
    refine lv_goto (tgt := 45) hx hb dX8_count_40 (by decide) ?_
    exact gh_iretR hx hb hr hlocks hP hS hT hres dX8_count_45
  have hres := hres.trans (if_pos c_1)
  refine lv_iconst (v := -1) hx hb dX8_count_10 (by decide) ?_
  exact gh_iretR hx hb hr hlocks hP hS hT hres dX8_count_11
theorem gv_RX8_200 : GoodIn wsL_law (va_wsS RX8 200 yJ6_bitCount_0f7a4 wc_J6_bitCount_0f7a4) := gh_gS uw612 uw397 uw398 uw399
theorem gv_RX8_205 : GoodIn wsL_law (wsV RX8 205 RX7 yX7_weightOf wc_X7_weightOf) := gh_gV uw613 uw332 uw333 uw31 uw334
theorem gv_RX8_208 : GoodIn wsL_law (wsV RX8 208 RX5 yX5_likeliestLetter wc_X5_likeliestLetter) := gh_gV uw614 uw615 uw616 uw14 uw617
theorem gv_RX8_211 : GoodIn wsL_law (wsV RX8 211 RX7 yX7_weightHaving wc_X7_weightHaving) := gh_gV uw624 uw620 uw621 uw31 uw622
def MX8_fits  (a1 : Int32) (V : gV) : Int32 := if (MX8_isBetween a1 (0 : Int32) (4 : Int32) V) = 0 then ((-1 : Int32)) else (if (V 24 0) = 0 then ((-2 : Int32)) else (if a1 = 0 then ((MX5_fitting V)) else (if a1 = 1 then ((MJ6_bitCount_0f7a4 (MX5_fitting V) V)) else (if a1 = 2 then ((MX7_weightOf (MX5_fitting V) V)) else (if a1 = 3 then ((MX5_likeliestLetter (MX5_fitting V) V)) else ((MX7_weightHaving (MX5_fitting V) (MX5_likeliestLetter (MX5_fitting V) V) V)))))))
def PX8_fits  (a1 : Int32) (V : gV) : Prop := ((¬ (MX8_isBetween a1 (0 : Int32) (4 : Int32) V) = 0 → ((¬ (V 24 0) = 0 → (PX5_fitting V) ∧ ((¬ a1 = 0 → ((¬ a1 = 1 → ((a1 = 2 → (PX7_weightOf (MX5_fitting V) V)) ∧ (¬ a1 = 2 → ((a1 = 3 → (PX5_likeliestLetter (MX5_fitting V) V)) ∧ (¬ a1 = 3 → (PX5_likeliestLetter (MX5_fitting V) V) ∧ (PX7_weightHaving (MX5_fitting V) (MX5_likeliestLetter (MX5_fitting V) V) V)))))))))))))
abbrev wc_X8_fits : List Cond := Cond.code yX8_fits cX8_fits 3 (some .int) :: wsL_law
abbrev r_X8_fits : Room := { frames := 5, cells := 0, slots := 0, locals := 117 }
theorem dd_X8_fits : yX8_fits.cls = RX8 ∧ yX8_fits.cls ≠ "java/lang/invoke/MethodHandle" ∧ yX8_fits.cls ≠ "java/lang/invoke/VarHandle" ∧ (parseMethodDescriptor yX8_fits.desc).map (fun d => d.parameters.length) = some 1 := by decide +kernel
set_option maxHeartbeats 8000000 in
set_option maxRecDepth 100000 in
theorem cc_X8_fits (l : Launch) (G : gG) (V : gV)   (a1 : Int32) (hs : PX8_fits a1 V) : Met l yX8_fits wc_X8_fits r_X8_fits (va_Pc [.ref (gA G 0), .int a1] (gW G V)) (gQR G (MX8_fits a1 V) V) 0 0 (gF G) := by
  refine Met.ofW (cc := cX8_fits) (maxL := 3) (ret := (some .int)) (by decide) rfl ?_
  intro p e s m args below meth c s₁ B hml hv
  obtain ⟨rfl, hP, hT⟩ := hv
  have hx := B.exec
  have hb := B.bytes
  have hr := B.returns
  have hw := gh_hw (atoms_spec (ws := wc_X8_fits) B.pre)
  have hown : s.vm.findClass RX8 = some m.cls := findClass_of_methodNamed B.named
  have hlocks := B.notSynchronized
  have hS : va_S (gF G) s.heap s.heap [] := va_S.rf
  have hl := lv_entry ([.ref (gA G 0), .int a1]) (n := 3) (Nat.le_of_ble_eq_true rfl)
  rw [lg_entry_eq]
  generalize (lg_sl ([.ref (gA G 0), .int a1]) ++ List.replicate (3 - (lg_sl ([.ref (gA G 0), .int a1])).length) Slot.unset).toArray = ls at hl ⊢
  have hl : lv_has ls 3 [(0, .ref (gA G 0)), (1, .int a1)] := hl
  obtain ⟨res, hres⟩ : ∃ r, r = MX8_fits a1 V := ⟨_, rfl⟩
  rw [← hres]
  show W p l e r_X8_fits s m ([.ref (gA G 0), .int a1] : List Value).toArray below meth c s.heap [] 0 0 (MQ below (gQR G res V) ([.ref (gA G 0), .int a1] : List Value).toArray s 0 0 (gF G)) (F0 m 0 ls [])
  have hs : ((¬ (MX8_isBetween a1 (0 : Int32) (4 : Int32) V) = 0 → ((¬ (V 24 0) = 0 → (PX5_fitting V) ∧ ((¬ a1 = 0 → ((¬ a1 = 1 → ((a1 = 2 → (PX7_weightOf (MX5_fitting V) V)) ∧ (¬ a1 = 2 → ((a1 = 3 → (PX5_likeliestLetter (MX5_fitting V) V)) ∧ (¬ a1 = 3 → (PX5_likeliestLetter (MX5_fitting V) V) ∧ (PX7_weightHaving (MX5_fitting V) (MX5_likeliestLetter (MX5_fitting V) V) V))))))))))))) := hs
  have hres : res = (if (MX8_isBetween a1 (0 : Int32) (4 : Int32) V) = 0 then ((-1 : Int32)) else (if (V 24 0) = 0 then ((-2 : Int32)) else (if a1 = 0 then ((MX5_fitting V)) else (if a1 = 1 then ((MJ6_bitCount_0f7a4 (MX5_fitting V) V)) else (if a1 = 2 then ((MX7_weightOf (MX5_fitting V) V)) else (if a1 = 3 then ((MX5_likeliestLetter (MX5_fitting V) V)) else ((MX7_weightHaving (MX5_fitting V) (MX5_likeliestLetter (MX5_fitting V) V) V)))))))) := hres
  refine lv_iload_n hx hb dX8_fits_0 rfl (lv_at hl 1 rfl) ?_
  refine lv_iconst (v := 0) hx hb dX8_fits_1 (by decide) ?_
  refine lv_iconst (v := 4) hx hb dX8_fits_2 (by decide) ?_
  refine gh_kr (va_runS (As := [.int a1, .int (0 : Int32), .int (4 : Int32)]) (rest := []) ⟨hx, hb, hml, hown, hw⟩ (cc_X8_isBetween l G V a1 (0 : Int32) (4 : Int32)) (va_cwS 3 hw gv_RX8_47 rfl rfl rfl dd_X8_isBetween.2 ⟨Nat.le_of_ble_eq_true rfl, Nat.le_of_ble_eq_true rfl⟩) (gh_pre hT hP) rfl rfl hl.1 rfl (lv_room (Nat.le_of_ble_eq_true rfl)) dX8_fits_3 ⟨Nat.zero_le _, Nat.zero_le _⟩) hS (fun H locs hP hS => ?_)
  refine lv_if_ne (tgt := 11) hx hb dX8_fits_6 (by decide) (fun c_1 => ?_) (fun c_1 => ?_)
  · have hres := hres.trans (if_neg c_1)
    have hs := hs c_1
    refine lv_aload_n hx hb dX8_fits_11 rfl (lv_at hl 0 rfl) ?_
    refine gh_get (v := .ref (gA G 1)) (C := RX8) (T := TX8) (N := 5) hx hb hw inlX8 hown hT hP 0 (Nat.le_of_ble_eq_true rfl) kd0 rfl rfl 0 (by decide) (hw _ uw15) rfl dX8_fits_12 ?_
    refine gh_get (v := .ref (gA G 24)) (C := RX5) (T := TX5) (N := 9) hx hb hw inlX5 hown hT hP 1 (Nat.le_of_ble_eq_true rfl) kd1 rfl rfl 2 (by decide) (hw _ uw127) rfl dX8_fits_15 ?_
    refine gh_get (v := .int (V 24 0)) (C := RX3) (T := TX3) (N := 7) hx hb hw inlX3 hown hT hP 24 (Nat.le_of_ble_eq_true rfl) kd24 rfl rfl 0 (by decide) (hw _ uw128) rfl dX8_fits_18 ?_
    refine lv_if_ne (tgt := 27) hx hb dX8_fits_21 (by decide) (fun c_2 => ?_) (fun c_2 => ?_)
    · have hres := hres.trans (if_neg c_2)
      have hs := hs c_2
      refine lv_aload_n hx hb dX8_fits_27 rfl (lv_at hl 0 rfl) ?_
      refine gh_get (v := .ref (gA G 1)) (C := RX8) (T := TX8) (N := 5) hx hb hw inlX8 hown hT hP 0 (Nat.le_of_ble_eq_true rfl) kd0 rfl rfl 0 (by decide) (hw _ uw15) rfl dX8_fits_28 ?_
      obtain ⟨ho_3, hs⟩ := hs
      refine gh_kr (va_runV (As := []) (rest := []) ⟨hx, hb, hml, hown, hw⟩ (cc_X5_fitting l G V ho_3) (cwV 0 hw gv_RX8_196 rfl rfl rfl dd_X5_fitting ⟨Nat.le_of_ble_eq_true rfl, Nat.le_of_ble_eq_true rfl⟩) (gh_preV hT hP (Nat.le_of_ble_eq_true rfl) kd1 rfl rfl) rfl rfl hl.1 rfl (lv_room (Nat.le_of_ble_eq_true rfl)) dX8_fits_31 ⟨Nat.zero_le _, Nat.zero_le _⟩) hS (fun H locs hP hS => ?_)
      refine lv_istore_n (lv' := [(2, .int (MX5_fitting V)), (0, .ref (gA G 0)), (1, .int a1)]) hx hb dX8_fits_34 rfl hl (by decide) rfl (fun ls hl => ?_)
      refine lv_iload_n hx hb dX8_fits_35 rfl (lv_at hl 2 rfl) ?_
      by_cases c_4 : a1 = 0
      · have hres := hres.trans (if_pos c_4)
        refine lv_tableIn (off := 32) (tgt := 68) hx hb dX8_fits_36 (by rw [c_4]; decide) (by rw [c_4]; decide) (by rw [c_4]; rfl) (by decide) ?_
        refine lv_iload_n hx hb dX8_fits_68 rfl (lv_at hl 0 rfl) ?_
        exact gh_iretR hx hb hr hlocks hP hS hT hres dX8_fits_69
      · have hres := hres.trans (if_neg c_4)
        have hs := hs c_4
        by_cases c_5 : a1 = 1
        · have hres := hres.trans (if_pos c_5)
          refine lv_tableIn (off := 34) (tgt := 70) hx hb dX8_fits_36 (by rw [c_5]; decide) (by rw [c_5]; decide) (by rw [c_5]; rfl) (by decide) ?_
          refine lv_iload_n hx hb dX8_fits_70 rfl (lv_at hl 0 rfl) ?_
          refine gh_kr (va_runS (As := [.int (MX5_fitting V)]) (rest := []) ⟨hx, hb, hml, hown, hw⟩ (cc_J6_bitCount_0f7a4 l G V (MX5_fitting V)) (va_cwS 1 hw gv_RX8_200 rfl rfl rfl dd_J6_bitCount_0f7a4.2 ⟨Nat.le_of_ble_eq_true rfl, Nat.le_of_ble_eq_true rfl⟩) (gh_pre hT hP) rfl rfl hl.1 rfl (lv_room (Nat.le_of_ble_eq_true rfl)) dX8_fits_71 ⟨Nat.zero_le _, Nat.zero_le _⟩) hS (fun H locs hP hS => ?_)
          exact gh_iretR hx hb hr hlocks hP hS hT hres dX8_fits_74
        · have hres := hres.trans (if_neg c_5)
          have hs := hs c_5
          by_cases c_6 : a1 = 2
          · have hres := hres.trans (if_pos c_6)
            have hs := hs.1 c_6
            refine lv_tableIn (off := 39) (tgt := 75) hx hb dX8_fits_36 (by rw [c_6]; decide) (by rw [c_6]; decide) (by rw [c_6]; rfl) (by decide) ?_
            refine lv_aload_n hx hb dX8_fits_75 rfl (lv_at hl 1 rfl) ?_
            refine gh_get (v := .ref (gA G 1)) (C := RX8) (T := TX8) (N := 5) hx hb hw inlX8 hown hT hP 0 (Nat.le_of_ble_eq_true rfl) kd0 rfl rfl 0 (by decide) (hw _ uw15) rfl dX8_fits_76 ?_
            refine gh_get (v := .ref (gA G 2)) (C := RX5) (T := TX5) (N := 9) hx hb hw inlX5 hown hT hP 1 (Nat.le_of_ble_eq_true rfl) kd1 rfl rfl 0 (by decide) (hw _ uw126) rfl dX8_fits_79 ?_
            refine lv_iload_n hx hb dX8_fits_82 rfl (lv_at hl 0 rfl) ?_
            have ho_7 := hs
            refine gh_kr (va_runV (As := [.int (MX5_fitting V)]) (rest := []) ⟨hx, hb, hml, hown, hw⟩ (cc_X7_weightOf l G V (MX5_fitting V) ho_7) (cwV 1 hw gv_RX8_205 rfl rfl rfl dd_X7_weightOf ⟨Nat.le_of_ble_eq_true rfl, Nat.le_of_ble_eq_true rfl⟩) (gh_preV hT hP (Nat.le_of_ble_eq_true rfl) kd2 rfl rfl) rfl rfl hl.1 rfl (lv_room (Nat.le_of_ble_eq_true rfl)) dX8_fits_83 ⟨Nat.zero_le _, Nat.zero_le _⟩) hS (fun H locs hP hS => ?_)
            exact gh_iretR hx hb hr hlocks hP hS hT hres dX8_fits_86
          · have hres := hres.trans (if_neg c_6)
            have hs := hs.2 c_6
            by_cases c_8 : a1 = 3
            · have hres := hres.trans (if_pos c_8)
              have hs := hs.1 c_8
              refine lv_tableIn (off := 51) (tgt := 87) hx hb dX8_fits_36 (by rw [c_8]; decide) (by rw [c_8]; decide) (by rw [c_8]; rfl) (by decide) ?_
              refine lv_aload_n hx hb dX8_fits_87 rfl (lv_at hl 1 rfl) ?_
              refine gh_get (v := .ref (gA G 1)) (C := RX8) (T := TX8) (N := 5) hx hb hw inlX8 hown hT hP 0 (Nat.le_of_ble_eq_true rfl) kd0 rfl rfl 0 (by decide) (hw _ uw15) rfl dX8_fits_88 ?_
              refine lv_iload_n hx hb dX8_fits_91 rfl (lv_at hl 0 rfl) ?_
              have ho_9 := hs
              refine gh_kr (va_runV (As := [.int (MX5_fitting V)]) (rest := []) ⟨hx, hb, hml, hown, hw⟩ (cc_X5_likeliestLetter l G V (MX5_fitting V) ho_9) (cwV 1 hw gv_RX8_208 rfl rfl rfl dd_X5_likeliestLetter ⟨Nat.le_of_ble_eq_true rfl, Nat.le_of_ble_eq_true rfl⟩) (gh_preV hT hP (Nat.le_of_ble_eq_true rfl) kd1 rfl rfl) rfl rfl hl.1 rfl (lv_room (Nat.le_of_ble_eq_true rfl)) dX8_fits_92 ⟨Nat.zero_le _, Nat.zero_le _⟩) hS (fun H locs hP hS => ?_)
              exact gh_iretR hx hb hr hlocks hP hS hT hres dX8_fits_95
            · have hres := hres.trans (if_neg c_8)
              have hs := hs.2 c_8
              refine lv_tableOut (tgt := 96) hx hb dX8_fits_36 (gh_sw2 (a := 0) (n := 3) (by decide) (fun j hi hj => by
                  rcases (show j = 0 ∨ j = 1 ∨ j = 2 ∨ j = 3 by omega) with rfl | rfl | rfl | rfl
                  · exact c_4
                  · exact c_5
                  · exact c_6
                  · exact c_8)) (by decide) ?_
              refine lv_aload_n hx hb dX8_fits_96 rfl (lv_at hl 1 rfl) ?_
              refine gh_get (v := .ref (gA G 1)) (C := RX8) (T := TX8) (N := 5) hx hb hw inlX8 hown hT hP 0 (Nat.le_of_ble_eq_true rfl) kd0 rfl rfl 0 (by decide) (hw _ uw15) rfl dX8_fits_97 ?_
              refine gh_get (v := .ref (gA G 2)) (C := RX5) (T := TX5) (N := 9) hx hb hw inlX5 hown hT hP 1 (Nat.le_of_ble_eq_true rfl) kd1 rfl rfl 0 (by decide) (hw _ uw126) rfl dX8_fits_100 ?_
              refine lv_iload_n hx hb dX8_fits_103 rfl (lv_at hl 0 rfl) ?_
              refine lv_aload_n hx hb dX8_fits_104 rfl (lv_at hl 1 rfl) ?_
              refine gh_get (v := .ref (gA G 1)) (C := RX8) (T := TX8) (N := 5) hx hb hw inlX8 hown hT hP 0 (Nat.le_of_ble_eq_true rfl) kd0 rfl rfl 0 (by decide) (hw _ uw15) rfl dX8_fits_105 ?_
              refine lv_iload_n hx hb dX8_fits_108 rfl (lv_at hl 0 rfl) ?_
              obtain ⟨ho_10, hs⟩ := hs
              refine gh_kr (va_runV (As := [.int (MX5_fitting V)]) (rest := [.int (MX5_fitting V), .ref (gA G 2)]) ⟨hx, hb, hml, hown, hw⟩ (cc_X5_likeliestLetter l G V (MX5_fitting V) ho_10) (cwV 1 hw gv_RX8_208 rfl rfl rfl dd_X5_likeliestLetter ⟨Nat.le_of_ble_eq_true rfl, Nat.le_of_ble_eq_true rfl⟩) (gh_preV hT hP (Nat.le_of_ble_eq_true rfl) kd1 rfl rfl) rfl rfl hl.1 rfl (lv_room (Nat.le_of_ble_eq_true rfl)) dX8_fits_109 ⟨Nat.zero_le _, Nat.zero_le _⟩) hS (fun H locs hP hS => ?_)
              have ho_11 := hs
              refine gh_kr (va_runV (As := [.int (MX5_fitting V), .int (MX5_likeliestLetter (MX5_fitting V) V)]) (rest := []) ⟨hx, hb, hml, hown, hw⟩ (cc_X7_weightHaving l G V (MX5_fitting V) (MX5_likeliestLetter (MX5_fitting V) V) ho_11) (cwV 2 hw gv_RX8_211 rfl rfl rfl dd_X7_weightHaving ⟨Nat.le_of_ble_eq_true rfl, Nat.le_of_ble_eq_true rfl⟩) (gh_preV hT hP (Nat.le_of_ble_eq_true rfl) kd2 rfl rfl) rfl rfl hl.1 rfl (lv_room (Nat.le_of_ble_eq_true rfl)) dX8_fits_112 ⟨Nat.zero_le _, Nat.zero_le _⟩) hS (fun H locs hP hS => ?_)
              exact gh_iretR hx hb hr hlocks hP hS hT hres dX8_fits_115
    have hres := hres.trans (if_pos c_2)
    refine lv_bipush (v := -2) hx hb dX8_fits_24 (by decide) ?_
    exact gh_iretR hx hb hr hlocks hP hS hT hres dX8_fits_26
  have hres := hres.trans (if_pos c_1)
  refine lv_iconst (v := -1) hx hb dX8_fits_9 (by decide) ?_
  exact gh_iretR hx hb hr hlocks hP hS hT hres dX8_fits_10
theorem gv_RX8_116 : GoodIn wsL_law (va_wsS RX8 116 yX8_isLetter wc_X8_isLetter) := gh_gS uw372 uw373 uw2 uw374
theorem gv_RX8_119 : GoodIn wsL_law (wsV RX8 119 RX3 yX3_takes wc_X3_takes) := gh_gV uw375 uw376 uw377 uw39 uw378
theorem gv_RX8_214 : GoodIn wsL_law (va_wsS RX8 214 yX8_chanceOf wc_X8_chanceOf) := gh_gS uw645 uw646 uw2 uw647
theorem gv_RX8_218 : GoodIn wsL_law (va_wsS RX8 218 yX8_bitsOf wc_X8_bitsOf) := gh_gS uw648 uw649 uw2 uw650
theorem gv_RX8_222 : GoodIn wsL_law (wsV RX8 222 RX7 yX7_largestGroup wc_X7_largestGroup) := gh_gV uw652 uw653 uw654 uw31 uw655
def MX8_letterOf  (a1 : Int32) (a2 : Int32) (V : gV) : Int32 := if (MX8_isLetter a1 V) = 0 then ((-1 : Int32)) else (if (MX8_isBetween a2 (0 : Int32) (2 : Int32) V) = 0 then ((-1 : Int32)) else (if (MX3_takes a1 V) = 0 then ((-2 : Int32)) else (if a2 = 0 then ((MX7_weightHaving (MX5_fitting V) a1 V)) else (if a2 = 1 then ((MX8_bitsOf (MX8_chanceOf (MX7_weightHaving (MX5_fitting V) a1 V) (MX7_weightOf (MX5_fitting V) V) V) V)) else ((MX7_largestGroup (MX5_fitting V) a1 V))))))
def PX8_letterOf  (a1 : Int32) (a2 : Int32) (V : gV) : Prop := ((¬ (MX8_isLetter a1 V) = 0 → ((¬ (MX8_isBetween a2 (0 : Int32) (2 : Int32) V) = 0 → ((¬ (MX3_takes a1 V) = 0 → (PX5_fitting V) ∧ ((a2 = 0 → (PX7_weightHaving (MX5_fitting V) a1 V)) ∧ (¬ a2 = 0 → ((a2 = 1 → (PX7_weightHaving (MX5_fitting V) a1 V) ∧ (PX7_weightOf (MX5_fitting V) V) ∧ (PX8_chanceOf (MX7_weightHaving (MX5_fitting V) a1 V) (MX7_weightOf (MX5_fitting V) V) V) ∧ (PX8_bitsOf (MX8_chanceOf (MX7_weightHaving (MX5_fitting V) a1 V) (MX7_weightOf (MX5_fitting V) V) V) V)) ∧ (¬ a2 = 1 → (PX7_largestGroup (MX5_fitting V) a1 V)))))))))))
abbrev wc_X8_letterOf : List Cond := Cond.code yX8_letterOf cX8_letterOf 4 (some .int) :: wsL_law
abbrev r_X8_letterOf : Room := { frames := 5, cells := 0, slots := 0, locals := 118 }
theorem dd_X8_letterOf : yX8_letterOf.cls = RX8 ∧ yX8_letterOf.cls ≠ "java/lang/invoke/MethodHandle" ∧ yX8_letterOf.cls ≠ "java/lang/invoke/VarHandle" ∧ (parseMethodDescriptor yX8_letterOf.desc).map (fun d => d.parameters.length) = some 2 := by decide +kernel
set_option maxHeartbeats 8000000 in
set_option maxRecDepth 100000 in
theorem cc_X8_letterOf (l : Launch) (G : gG) (V : gV)   (a1 : Int32) (a2 : Int32) (hs : PX8_letterOf a1 a2 V) : Met l yX8_letterOf wc_X8_letterOf r_X8_letterOf (va_Pc [.ref (gA G 0), .int a1, .int a2] (gW G V)) (gQR G (MX8_letterOf a1 a2 V) V) 0 0 (gF G) := by
  refine Met.ofW (cc := cX8_letterOf) (maxL := 4) (ret := (some .int)) (by decide) rfl ?_
  intro p e s m args below meth c s₁ B hml hv
  obtain ⟨rfl, hP, hT⟩ := hv
  have hx := B.exec
  have hb := B.bytes
  have hr := B.returns
  have hw := gh_hw (atoms_spec (ws := wc_X8_letterOf) B.pre)
  have hown : s.vm.findClass RX8 = some m.cls := findClass_of_methodNamed B.named
  have hlocks := B.notSynchronized
  have hS : va_S (gF G) s.heap s.heap [] := va_S.rf
  have hl := lv_entry ([.ref (gA G 0), .int a1, .int a2]) (n := 4) (Nat.le_of_ble_eq_true rfl)
  rw [lg_entry_eq]
  generalize (lg_sl ([.ref (gA G 0), .int a1, .int a2]) ++ List.replicate (4 - (lg_sl ([.ref (gA G 0), .int a1, .int a2])).length) Slot.unset).toArray = ls at hl ⊢
  have hl : lv_has ls 4 [(0, .ref (gA G 0)), (1, .int a1), (2, .int a2)] := hl
  obtain ⟨res, hres⟩ : ∃ r, r = MX8_letterOf a1 a2 V := ⟨_, rfl⟩
  rw [← hres]
  show W p l e r_X8_letterOf s m ([.ref (gA G 0), .int a1, .int a2] : List Value).toArray below meth c s.heap [] 0 0 (MQ below (gQR G res V) ([.ref (gA G 0), .int a1, .int a2] : List Value).toArray s 0 0 (gF G)) (F0 m 0 ls [])
  have hs : ((¬ (MX8_isLetter a1 V) = 0 → ((¬ (MX8_isBetween a2 (0 : Int32) (2 : Int32) V) = 0 → ((¬ (MX3_takes a1 V) = 0 → (PX5_fitting V) ∧ ((a2 = 0 → (PX7_weightHaving (MX5_fitting V) a1 V)) ∧ (¬ a2 = 0 → ((a2 = 1 → (PX7_weightHaving (MX5_fitting V) a1 V) ∧ (PX7_weightOf (MX5_fitting V) V) ∧ (PX8_chanceOf (MX7_weightHaving (MX5_fitting V) a1 V) (MX7_weightOf (MX5_fitting V) V) V) ∧ (PX8_bitsOf (MX8_chanceOf (MX7_weightHaving (MX5_fitting V) a1 V) (MX7_weightOf (MX5_fitting V) V) V) V)) ∧ (¬ a2 = 1 → (PX7_largestGroup (MX5_fitting V) a1 V))))))))))) := hs
  have hres : res = (if (MX8_isLetter a1 V) = 0 then ((-1 : Int32)) else (if (MX8_isBetween a2 (0 : Int32) (2 : Int32) V) = 0 then ((-1 : Int32)) else (if (MX3_takes a1 V) = 0 then ((-2 : Int32)) else (if a2 = 0 then ((MX7_weightHaving (MX5_fitting V) a1 V)) else (if a2 = 1 then ((MX8_bitsOf (MX8_chanceOf (MX7_weightHaving (MX5_fitting V) a1 V) (MX7_weightOf (MX5_fitting V) V) V) V)) else ((MX7_largestGroup (MX5_fitting V) a1 V))))))) := hres
  refine lv_iload_n hx hb dX8_letterOf_0 rfl (lv_at hl 1 rfl) ?_
  refine gh_kr (va_runS (As := [.int a1]) (rest := []) ⟨hx, hb, hml, hown, hw⟩ (cc_X8_isLetter l G V a1) (va_cwS 1 hw gv_RX8_116 rfl rfl rfl dd_X8_isLetter.2 ⟨Nat.le_of_ble_eq_true rfl, Nat.le_of_ble_eq_true rfl⟩) (gh_pre hT hP) rfl rfl hl.1 rfl (lv_room (Nat.le_of_ble_eq_true rfl)) dX8_letterOf_1 ⟨Nat.zero_le _, Nat.zero_le _⟩) hS (fun H locs hP hS => ?_)
  refine lv_if_eq (tgt := 16) hx hb dX8_letterOf_4 (by decide) (fun c_1 => ?_) (fun c_1 => ?_)
  · have hres := hres.trans (if_pos c_1)
    refine lv_iconst (v := -1) hx hb dX8_letterOf_16 (by decide) ?_
    exact gh_iretR hx hb hr hlocks hP hS hT hres dX8_letterOf_17
  have hres := hres.trans (if_neg c_1)
  have hs := hs c_1
  refine lv_iload_n hx hb dX8_letterOf_7 rfl (lv_at hl 2 rfl) ?_
  refine lv_iconst (v := 0) hx hb dX8_letterOf_8 (by decide) ?_
  refine lv_iconst (v := 2) hx hb dX8_letterOf_9 (by decide) ?_
  refine gh_kr (va_runS (As := [.int a2, .int (0 : Int32), .int (2 : Int32)]) (rest := []) ⟨hx, hb, hml, hown, hw⟩ (cc_X8_isBetween l G V a2 (0 : Int32) (2 : Int32)) (va_cwS 3 hw gv_RX8_47 rfl rfl rfl dd_X8_isBetween.2 ⟨Nat.le_of_ble_eq_true rfl, Nat.le_of_ble_eq_true rfl⟩) (gh_pre hT hP) rfl rfl hl.1 rfl (lv_room (Nat.le_of_ble_eq_true rfl)) dX8_letterOf_10 ⟨Nat.zero_le _, Nat.zero_le _⟩) hS (fun H locs hP hS => ?_)
  refine lv_if_ne (tgt := 18) hx hb dX8_letterOf_13 (by decide) (fun c_2 => ?_) (fun c_2 => ?_)
  · have hres := hres.trans (if_neg c_2)
    have hs := hs c_2
    refine lv_aload_n hx hb dX8_letterOf_18 rfl (lv_at hl 0 rfl) ?_
    refine gh_get (v := .ref (gA G 1)) (C := RX8) (T := TX8) (N := 5) hx hb hw inlX8 hown hT hP 0 (Nat.le_of_ble_eq_true rfl) kd0 rfl rfl 0 (by decide) (hw _ uw15) rfl dX8_letterOf_19 ?_
    refine gh_get (v := .ref (gA G 24)) (C := RX5) (T := TX5) (N := 9) hx hb hw inlX5 hown hT hP 1 (Nat.le_of_ble_eq_true rfl) kd1 rfl rfl 2 (by decide) (hw _ uw127) rfl dX8_letterOf_22 ?_
    refine lv_iload_n hx hb dX8_letterOf_25 rfl (lv_at hl 1 rfl) ?_
    refine gh_kr (va_runV (As := [.int a1]) (rest := []) ⟨hx, hb, hml, hown, hw⟩ (cc_X3_takes l G V a1) (cwV 1 hw gv_RX8_119 rfl rfl rfl dd_X3_takes ⟨Nat.le_of_ble_eq_true rfl, Nat.le_of_ble_eq_true rfl⟩) (gh_preV hT hP (Nat.le_of_ble_eq_true rfl) kd24 rfl rfl) rfl rfl hl.1 rfl (lv_room (Nat.le_of_ble_eq_true rfl)) dX8_letterOf_26 ⟨Nat.zero_le _, Nat.zero_le _⟩) hS (fun H locs hP hS => ?_)
    refine lv_if_ne (tgt := 35) hx hb dX8_letterOf_29 (by decide) (fun c_3 => ?_) (fun c_3 => ?_)
    · have hres := hres.trans (if_neg c_3)
      have hs := hs c_3
      refine lv_aload_n hx hb dX8_letterOf_35 rfl (lv_at hl 0 rfl) ?_
      refine gh_get (v := .ref (gA G 1)) (C := RX8) (T := TX8) (N := 5) hx hb hw inlX8 hown hT hP 0 (Nat.le_of_ble_eq_true rfl) kd0 rfl rfl 0 (by decide) (hw _ uw15) rfl dX8_letterOf_36 ?_
      obtain ⟨ho_4, hs⟩ := hs
      refine gh_kr (va_runV (As := []) (rest := []) ⟨hx, hb, hml, hown, hw⟩ (cc_X5_fitting l G V ho_4) (cwV 0 hw gv_RX8_196 rfl rfl rfl dd_X5_fitting ⟨Nat.le_of_ble_eq_true rfl, Nat.le_of_ble_eq_true rfl⟩) (gh_preV hT hP (Nat.le_of_ble_eq_true rfl) kd1 rfl rfl) rfl rfl hl.1 rfl (lv_room (Nat.le_of_ble_eq_true rfl)) dX8_letterOf_39 ⟨Nat.zero_le _, Nat.zero_le _⟩) hS (fun H locs hP hS => ?_)
      refine lv_istore_n (lv' := [(3, .int (MX5_fitting V)), (0, .ref (gA G 0)), (1, .int a1), (2, .int a2)]) hx hb dX8_letterOf_42 rfl hl (by decide) rfl (fun ls hl => ?_)
      refine lv_iload_n hx hb dX8_letterOf_43 rfl (lv_at hl 3 rfl) ?_
      by_cases c_5 : a2 = 0
      · have hres := hres.trans (if_pos c_5)
        have hs := hs.1 c_5
        refine lv_lookup (off := 28) (tgt := 72) hx hb dX8_letterOf_44 (by decide) (by rw [c_5]; rfl) (by decide) ?_
        refine lv_aload_n hx hb dX8_letterOf_72 rfl (lv_at hl 1 rfl) ?_
        refine gh_get (v := .ref (gA G 1)) (C := RX8) (T := TX8) (N := 5) hx hb hw inlX8 hown hT hP 0 (Nat.le_of_ble_eq_true rfl) kd0 rfl rfl 0 (by decide) (hw _ uw15) rfl dX8_letterOf_73 ?_
        refine gh_get (v := .ref (gA G 2)) (C := RX5) (T := TX5) (N := 9) hx hb hw inlX5 hown hT hP 1 (Nat.le_of_ble_eq_true rfl) kd1 rfl rfl 0 (by decide) (hw _ uw126) rfl dX8_letterOf_76 ?_
        refine lv_iload_n hx hb dX8_letterOf_79 rfl (lv_at hl 0 rfl) ?_
        refine lv_iload_n hx hb dX8_letterOf_80 rfl (lv_at hl 2 rfl) ?_
        have ho_6 := hs
        refine gh_kr (va_runV (As := [.int (MX5_fitting V), .int a1]) (rest := []) ⟨hx, hb, hml, hown, hw⟩ (cc_X7_weightHaving l G V (MX5_fitting V) a1 ho_6) (cwV 2 hw gv_RX8_211 rfl rfl rfl dd_X7_weightHaving ⟨Nat.le_of_ble_eq_true rfl, Nat.le_of_ble_eq_true rfl⟩) (gh_preV hT hP (Nat.le_of_ble_eq_true rfl) kd2 rfl rfl) rfl rfl hl.1 rfl (lv_room (Nat.le_of_ble_eq_true rfl)) dX8_letterOf_81 ⟨Nat.zero_le _, Nat.zero_le _⟩) hS (fun H locs hP hS => ?_)
        exact gh_iretR hx hb hr hlocks hP hS hT hres dX8_letterOf_84
      · have hres := hres.trans (if_neg c_5)
        have hs := hs.2 c_5
        by_cases c_7 : a2 = 1
        · have hres := hres.trans (if_pos c_7)
          have hs := hs.1 c_7
          refine lv_lookup (off := 41) (tgt := 85) hx hb dX8_letterOf_44 (by decide) (by rw [c_7]; rfl) (by decide) ?_
          refine lv_aload_n hx hb dX8_letterOf_85 rfl (lv_at hl 1 rfl) ?_
          refine gh_get (v := .ref (gA G 1)) (C := RX8) (T := TX8) (N := 5) hx hb hw inlX8 hown hT hP 0 (Nat.le_of_ble_eq_true rfl) kd0 rfl rfl 0 (by decide) (hw _ uw15) rfl dX8_letterOf_86 ?_
          refine gh_get (v := .ref (gA G 2)) (C := RX5) (T := TX5) (N := 9) hx hb hw inlX5 hown hT hP 1 (Nat.le_of_ble_eq_true rfl) kd1 rfl rfl 0 (by decide) (hw _ uw126) rfl dX8_letterOf_89 ?_
          refine lv_iload_n hx hb dX8_letterOf_92 rfl (lv_at hl 0 rfl) ?_
          refine lv_iload_n hx hb dX8_letterOf_93 rfl (lv_at hl 2 rfl) ?_
          obtain ⟨ho_8, hs⟩ := hs
          refine gh_kr (va_runV (As := [.int (MX5_fitting V), .int a1]) (rest := []) ⟨hx, hb, hml, hown, hw⟩ (cc_X7_weightHaving l G V (MX5_fitting V) a1 ho_8) (cwV 2 hw gv_RX8_211 rfl rfl rfl dd_X7_weightHaving ⟨Nat.le_of_ble_eq_true rfl, Nat.le_of_ble_eq_true rfl⟩) (gh_preV hT hP (Nat.le_of_ble_eq_true rfl) kd2 rfl rfl) rfl rfl hl.1 rfl (lv_room (Nat.le_of_ble_eq_true rfl)) dX8_letterOf_94 ⟨Nat.zero_le _, Nat.zero_le _⟩) hS (fun H locs hP hS => ?_)
          refine lv_aload_n hx hb dX8_letterOf_97 rfl (lv_at hl 1 rfl) ?_
          refine gh_get (v := .ref (gA G 1)) (C := RX8) (T := TX8) (N := 5) hx hb hw inlX8 hown hT hP 0 (Nat.le_of_ble_eq_true rfl) kd0 rfl rfl 0 (by decide) (hw _ uw15) rfl dX8_letterOf_98 ?_
          refine gh_get (v := .ref (gA G 2)) (C := RX5) (T := TX5) (N := 9) hx hb hw inlX5 hown hT hP 1 (Nat.le_of_ble_eq_true rfl) kd1 rfl rfl 0 (by decide) (hw _ uw126) rfl dX8_letterOf_101 ?_
          refine lv_iload_n hx hb dX8_letterOf_104 rfl (lv_at hl 0 rfl) ?_
          obtain ⟨ho_9, hs⟩ := hs
          refine gh_kr (va_runV (As := [.int (MX5_fitting V)]) (rest := [.int (MX7_weightHaving (MX5_fitting V) a1 V)]) ⟨hx, hb, hml, hown, hw⟩ (cc_X7_weightOf l G V (MX5_fitting V) ho_9) (cwV 1 hw gv_RX8_205 rfl rfl rfl dd_X7_weightOf ⟨Nat.le_of_ble_eq_true rfl, Nat.le_of_ble_eq_true rfl⟩) (gh_preV hT hP (Nat.le_of_ble_eq_true rfl) kd2 rfl rfl) rfl rfl hl.1 rfl (lv_room (Nat.le_of_ble_eq_true rfl)) dX8_letterOf_105 ⟨Nat.zero_le _, Nat.zero_le _⟩) hS (fun H locs hP hS => ?_)
          obtain ⟨ho_10, hs⟩ := hs
          refine gh_kf (va_runS (As := [.int (MX7_weightHaving (MX5_fitting V) a1 V), .int (MX7_weightOf (MX5_fitting V) V)]) (rest := []) ⟨hx, hb, hml, hown, hw⟩ (cc_X8_chanceOf l G V (MX7_weightHaving (MX5_fitting V) a1 V) (MX7_weightOf (MX5_fitting V) V) ho_10) (va_cwS 2 hw gv_RX8_214 rfl rfl rfl dd_X8_chanceOf.2 ⟨Nat.le_of_ble_eq_true rfl, Nat.le_of_ble_eq_true rfl⟩) (gh_pre hT hP) rfl rfl hl.1 rfl (lv_room (Nat.le_of_ble_eq_true rfl)) dX8_letterOf_108 ⟨Nat.zero_le _, Nat.zero_le _⟩) hS (fun H locs hP hS => ?_)
          have ho_11 := hs
          refine gh_kr (va_runS (As := [.float (MX8_chanceOf (MX7_weightHaving (MX5_fitting V) a1 V) (MX7_weightOf (MX5_fitting V) V) V)]) (rest := []) ⟨hx, hb, hml, hown, hw⟩ (cc_X8_bitsOf l G V (MX8_chanceOf (MX7_weightHaving (MX5_fitting V) a1 V) (MX7_weightOf (MX5_fitting V) V) V) ho_11) (va_cwS 1 hw gv_RX8_218 rfl rfl rfl dd_X8_bitsOf.2 ⟨Nat.le_of_ble_eq_true rfl, Nat.le_of_ble_eq_true rfl⟩) (gh_pre hT hP) rfl rfl hl.1 rfl (lv_room (Nat.le_of_ble_eq_true rfl)) dX8_letterOf_111 ⟨Nat.zero_le _, Nat.zero_le _⟩) hS (fun H locs hP hS => ?_)
          exact gh_iretR hx hb hr hlocks hP hS hT hres dX8_letterOf_114
        · have hres := hres.trans (if_neg c_7)
          have hs := hs.2 c_7
          refine lv_lookup (off := 71) (tgt := 115) hx hb dX8_letterOf_44 (by decide) (by show Op.lookupswitch.offset [(0, 28), (1, 41)] 71 _ = _; rw [lv_osw (a := 0) c_5 rfl, lv_osw (a := 1) c_7 rfl]; rfl) (by decide) ?_
          refine lv_aload_n hx hb dX8_letterOf_115 rfl (lv_at hl 1 rfl) ?_
          refine gh_get (v := .ref (gA G 1)) (C := RX8) (T := TX8) (N := 5) hx hb hw inlX8 hown hT hP 0 (Nat.le_of_ble_eq_true rfl) kd0 rfl rfl 0 (by decide) (hw _ uw15) rfl dX8_letterOf_116 ?_
          refine gh_get (v := .ref (gA G 2)) (C := RX5) (T := TX5) (N := 9) hx hb hw inlX5 hown hT hP 1 (Nat.le_of_ble_eq_true rfl) kd1 rfl rfl 0 (by decide) (hw _ uw126) rfl dX8_letterOf_119 ?_
          refine lv_iload_n hx hb dX8_letterOf_122 rfl (lv_at hl 0 rfl) ?_
          refine lv_iload_n hx hb dX8_letterOf_123 rfl (lv_at hl 2 rfl) ?_
          have ho_12 := hs
          refine gh_kr (va_runV (As := [.int (MX5_fitting V), .int a1]) (rest := []) ⟨hx, hb, hml, hown, hw⟩ (cc_X7_largestGroup l G V (MX5_fitting V) a1 ho_12) (cwV 2 hw gv_RX8_222 rfl rfl rfl dd_X7_largestGroup ⟨Nat.le_of_ble_eq_true rfl, Nat.le_of_ble_eq_true rfl⟩) (gh_preV hT hP (Nat.le_of_ble_eq_true rfl) kd2 rfl rfl) rfl rfl hl.1 rfl (lv_room (Nat.le_of_ble_eq_true rfl)) dX8_letterOf_124 ⟨Nat.zero_le _, Nat.zero_le _⟩) hS (fun H locs hP hS => ?_)
          exact gh_iretR hx hb hr hlocks hP hS hT hres dX8_letterOf_127
    have hres := hres.trans (if_pos c_3)
    refine lv_bipush (v := -2) hx hb dX8_letterOf_32 (by decide) ?_
    exact gh_iretR hx hb hr hlocks hP hS hT hres dX8_letterOf_34
  have hres := hres.trans (if_pos c_2)
  refine lv_iconst (v := -1) hx hb dX8_letterOf_16 (by decide) ?_
  exact gh_iretR hx hb hr hlocks hP hS hT hres dX8_letterOf_17
theorem gv_RX8_225 : GoodIn wsL_law (wsV RX8 225 RX5 yX5_sharpestLetter wc_X5_sharpestLetter) := gh_gV uw685 uw686 uw687 uw14 uw688
def MX8_sharpest   (V : gV) : Int32 := if (V 24 0) = 0 then ((-2 : Int32)) else ((MX5_sharpestLetter (MX5_fitting V) V))
def PX8_sharpest   (V : gV) : Prop := ((¬ (V 24 0) = 0 → (PX5_fitting V) ∧ (PX5_sharpestLetter (MX5_fitting V) V)))
abbrev wc_X8_sharpest : List Cond := Cond.code yX8_sharpest cX8_sharpest 1 (some .int) :: wsL_law
abbrev r_X8_sharpest : Room := { frames := 6, cells := 0, slots := 0, locals := 143 }
theorem dd_X8_sharpest : yX8_sharpest.cls = RX8 ∧ yX8_sharpest.cls ≠ "java/lang/invoke/MethodHandle" ∧ yX8_sharpest.cls ≠ "java/lang/invoke/VarHandle" ∧ (parseMethodDescriptor yX8_sharpest.desc).map (fun d => d.parameters.length) = some 0 := by decide +kernel
set_option maxHeartbeats 8000000 in
set_option maxRecDepth 100000 in
theorem cc_X8_sharpest (l : Launch) (G : gG) (V : gV)    (hs : PX8_sharpest V) : Met l yX8_sharpest wc_X8_sharpest r_X8_sharpest (va_Pc [.ref (gA G 0)] (gW G V)) (gQR G (MX8_sharpest V) V) 0 0 (gF G) := by
  refine Met.ofW (cc := cX8_sharpest) (maxL := 1) (ret := (some .int)) (by decide) rfl ?_
  intro p e s m args below meth c s₁ B hml hv
  obtain ⟨rfl, hP, hT⟩ := hv
  have hx := B.exec
  have hb := B.bytes
  have hr := B.returns
  have hw := gh_hw (atoms_spec (ws := wc_X8_sharpest) B.pre)
  have hown : s.vm.findClass RX8 = some m.cls := findClass_of_methodNamed B.named
  have hlocks := B.notSynchronized
  have hS : va_S (gF G) s.heap s.heap [] := va_S.rf
  have hl := lv_entry ([.ref (gA G 0)]) (n := 1) (Nat.le_of_ble_eq_true rfl)
  rw [lg_entry_eq]
  generalize (lg_sl ([.ref (gA G 0)]) ++ List.replicate (1 - (lg_sl ([.ref (gA G 0)])).length) Slot.unset).toArray = ls at hl ⊢
  have hl : lv_has ls 1 [(0, .ref (gA G 0))] := hl
  obtain ⟨res, hres⟩ : ∃ r, r = MX8_sharpest V := ⟨_, rfl⟩
  rw [← hres]
  show W p l e r_X8_sharpest s m ([.ref (gA G 0)] : List Value).toArray below meth c s.heap [] 0 0 (MQ below (gQR G res V) ([.ref (gA G 0)] : List Value).toArray s 0 0 (gF G)) (F0 m 0 ls [])
  have hs : ((¬ (V 24 0) = 0 → (PX5_fitting V) ∧ (PX5_sharpestLetter (MX5_fitting V) V))) := hs
  have hres : res = (if (V 24 0) = 0 then ((-2 : Int32)) else ((MX5_sharpestLetter (MX5_fitting V) V))) := hres
  refine lv_aload_n hx hb dX8_sharpest_0 rfl (lv_at hl 0 rfl) ?_
  refine gh_get (v := .ref (gA G 1)) (C := RX8) (T := TX8) (N := 5) hx hb hw inlX8 hown hT hP 0 (Nat.le_of_ble_eq_true rfl) kd0 rfl rfl 0 (by decide) (hw _ uw15) rfl dX8_sharpest_1 ?_
  refine gh_get (v := .ref (gA G 24)) (C := RX5) (T := TX5) (N := 9) hx hb hw inlX5 hown hT hP 1 (Nat.le_of_ble_eq_true rfl) kd1 rfl rfl 2 (by decide) (hw _ uw127) rfl dX8_sharpest_4 ?_
  refine gh_get (v := .int (V 24 0)) (C := RX3) (T := TX3) (N := 7) hx hb hw inlX3 hown hT hP 24 (Nat.le_of_ble_eq_true rfl) kd24 rfl rfl 0 (by decide) (hw _ uw128) rfl dX8_sharpest_7 ?_
  refine lv_if_eq (tgt := 30) hx hb dX8_sharpest_10 (by decide) (fun c_1 => ?_) (fun c_1 => ?_)
  · have hres := hres.trans (if_pos c_1)
    refine lv_bipush (v := -2) hx hb dX8_sharpest_30 (by decide) ?_
    exact gh_iretR hx hb hr hlocks hP hS hT hres dX8_sharpest_32
  have hres := hres.trans (if_neg c_1)
  have hs := hs c_1
  refine lv_aload_n hx hb dX8_sharpest_13 rfl (lv_at hl 0 rfl) ?_
  refine gh_get (v := .ref (gA G 1)) (C := RX8) (T := TX8) (N := 5) hx hb hw inlX8 hown hT hP 0 (Nat.le_of_ble_eq_true rfl) kd0 rfl rfl 0 (by decide) (hw _ uw15) rfl dX8_sharpest_14 ?_
  refine lv_aload_n hx hb dX8_sharpest_17 rfl (lv_at hl 0 rfl) ?_
  refine gh_get (v := .ref (gA G 1)) (C := RX8) (T := TX8) (N := 5) hx hb hw inlX8 hown hT hP 0 (Nat.le_of_ble_eq_true rfl) kd0 rfl rfl 0 (by decide) (hw _ uw15) rfl dX8_sharpest_18 ?_
  obtain ⟨ho_2, hs⟩ := hs
  refine gh_kr (va_runV (As := []) (rest := [.ref (gA G 1)]) ⟨hx, hb, hml, hown, hw⟩ (cc_X5_fitting l G V ho_2) (cwV 0 hw gv_RX8_196 rfl rfl rfl dd_X5_fitting ⟨Nat.le_of_ble_eq_true rfl, Nat.le_of_ble_eq_true rfl⟩) (gh_preV hT hP (Nat.le_of_ble_eq_true rfl) kd1 rfl rfl) rfl rfl hl.1 rfl (lv_room (Nat.le_of_ble_eq_true rfl)) dX8_sharpest_21 ⟨Nat.zero_le _, Nat.zero_le _⟩) hS (fun H locs hP hS => ?_)
  have ho_3 := hs
  refine gh_kr (va_runV (As := [.int (MX5_fitting V)]) (rest := []) ⟨hx, hb, hml, hown, hw⟩ (cc_X5_sharpestLetter l G V (MX5_fitting V) ho_3) (cwV 1 hw gv_RX8_225 rfl rfl rfl dd_X5_sharpestLetter ⟨Nat.le_of_ble_eq_true rfl, Nat.le_of_ble_eq_true rfl⟩) (gh_preV hT hP (Nat.le_of_ble_eq_true rfl) kd1 rfl rfl) rfl rfl hl.1 rfl (lv_room (Nat.le_of_ble_eq_true rfl)) dX8_sharpest_24 ⟨Nat.zero_le _, Nat.zero_le _⟩) hS (fun H locs hP hS => ?_)
  refine lv_goto (tgt := 32) hx hb dX8_sharpest_27 (by decide) ?_
  exact gh_iretR hx hb hr hlocks hP hS hT hres dX8_sharpest_32
theorem gv_RX8_229 : GoodIn wsL_law (va_wsS RX8 229 yX8_numberBehind wc_X8_numberBehind) := gh_gS uw698 uw313 uw2 uw314
theorem gv_RX8_232 : GoodIn wsL_law (wsV RX8 232 RX7 yX7_drawnBy wc_X7_drawnBy) := gh_gV uw699 uw323 uw324 uw31 uw325
def MX8_next   (V : gV) : Int32 := if (V 24 0) = 0 then (if (V 2 0) = 0 then ((-2 : Int32)) else ((MX7_drawnBy (MX8_numberBehind (V 1 7) V) V))) else ((-2 : Int32))
def PX8_next   (V : gV) : Prop := (((V 24 0) = 0 → ((¬ (V 2 0) = 0 → (PX7_drawnBy (MX8_numberBehind (V 1 7) V) V)))))
abbrev wc_X8_next : List Cond := Cond.code yX8_next cX8_next 1 (some .int) :: wsL_law
abbrev r_X8_next : Room := { frames := 4, cells := 0, slots := 0, locals := 89 }
theorem dd_X8_next : yX8_next.cls = RX8 ∧ yX8_next.cls ≠ "java/lang/invoke/MethodHandle" ∧ yX8_next.cls ≠ "java/lang/invoke/VarHandle" ∧ (parseMethodDescriptor yX8_next.desc).map (fun d => d.parameters.length) = some 0 := by decide +kernel
set_option maxHeartbeats 8000000 in
set_option maxRecDepth 100000 in
theorem cc_X8_next (l : Launch) (G : gG) (V : gV)    (hs : PX8_next V) : Met l yX8_next wc_X8_next r_X8_next (va_Pc [.ref (gA G 0)] (gW G V)) (gQR G (MX8_next V) V) 0 0 (gF G) := by
  refine Met.ofW (cc := cX8_next) (maxL := 1) (ret := (some .int)) (by decide) rfl ?_
  intro p e s m args below meth c s₁ B hml hv
  obtain ⟨rfl, hP, hT⟩ := hv
  have hx := B.exec
  have hb := B.bytes
  have hr := B.returns
  have hw := gh_hw (atoms_spec (ws := wc_X8_next) B.pre)
  have hown : s.vm.findClass RX8 = some m.cls := findClass_of_methodNamed B.named
  have hlocks := B.notSynchronized
  have hS : va_S (gF G) s.heap s.heap [] := va_S.rf
  have hl := lv_entry ([.ref (gA G 0)]) (n := 1) (Nat.le_of_ble_eq_true rfl)
  rw [lg_entry_eq]
  generalize (lg_sl ([.ref (gA G 0)]) ++ List.replicate (1 - (lg_sl ([.ref (gA G 0)])).length) Slot.unset).toArray = ls at hl ⊢
  have hl : lv_has ls 1 [(0, .ref (gA G 0))] := hl
  obtain ⟨res, hres⟩ : ∃ r, r = MX8_next V := ⟨_, rfl⟩
  rw [← hres]
  show W p l e r_X8_next s m ([.ref (gA G 0)] : List Value).toArray below meth c s.heap [] 0 0 (MQ below (gQR G res V) ([.ref (gA G 0)] : List Value).toArray s 0 0 (gF G)) (F0 m 0 ls [])
  have hs : (((V 24 0) = 0 → ((¬ (V 2 0) = 0 → (PX7_drawnBy (MX8_numberBehind (V 1 7) V) V))))) := hs
  have hres : res = (if (V 24 0) = 0 then (if (V 2 0) = 0 then ((-2 : Int32)) else ((MX7_drawnBy (MX8_numberBehind (V 1 7) V) V))) else ((-2 : Int32))) := hres
  refine lv_aload_n hx hb dX8_next_0 rfl (lv_at hl 0 rfl) ?_
  refine gh_get (v := .ref (gA G 1)) (C := RX8) (T := TX8) (N := 5) hx hb hw inlX8 hown hT hP 0 (Nat.le_of_ble_eq_true rfl) kd0 rfl rfl 0 (by decide) (hw _ uw15) rfl dX8_next_1 ?_
  refine gh_get (v := .ref (gA G 24)) (C := RX5) (T := TX5) (N := 9) hx hb hw inlX5 hown hT hP 1 (Nat.le_of_ble_eq_true rfl) kd1 rfl rfl 2 (by decide) (hw _ uw127) rfl dX8_next_4 ?_
  refine gh_get (v := .int (V 24 0)) (C := RX3) (T := TX3) (N := 7) hx hb hw inlX3 hown hT hP 24 (Nat.le_of_ble_eq_true rfl) kd24 rfl rfl 0 (by decide) (hw _ uw128) rfl dX8_next_7 ?_
  refine lv_if_ne (tgt := 26) hx hb dX8_next_10 (by decide) (fun c_1 => ?_) (fun c_1 => ?_)
  · have hres := hres.trans (if_neg c_1)
    refine lv_bipush (v := -2) hx hb dX8_next_26 (by decide) ?_
    exact gh_iretR hx hb hr hlocks hP hS hT hres dX8_next_28
  have hres := hres.trans (if_pos c_1)
  have hs := hs c_1
  refine lv_aload_n hx hb dX8_next_13 rfl (lv_at hl 0 rfl) ?_
  refine gh_get (v := .ref (gA G 1)) (C := RX8) (T := TX8) (N := 5) hx hb hw inlX8 hown hT hP 0 (Nat.le_of_ble_eq_true rfl) kd0 rfl rfl 0 (by decide) (hw _ uw15) rfl dX8_next_14 ?_
  refine gh_get (v := .ref (gA G 2)) (C := RX5) (T := TX5) (N := 9) hx hb hw inlX5 hown hT hP 1 (Nat.le_of_ble_eq_true rfl) kd1 rfl rfl 0 (by decide) (hw _ uw126) rfl dX8_next_17 ?_
  refine gh_get (v := .int (V 2 0)) (C := RX7) (T := TX7) (N := 5) hx hb hw inlX7 hown hT hP 2 (Nat.le_of_ble_eq_true rfl) kd2 rfl rfl 0 (by decide) (hw _ uw596) rfl dX8_next_20 ?_
  refine lv_if_ne (tgt := 29) hx hb dX8_next_23 (by decide) (fun c_2 => ?_) (fun c_2 => ?_)
  · have hres := hres.trans (if_neg c_2)
    have hs := hs c_2
    refine lv_aload_n hx hb dX8_next_29 rfl (lv_at hl 0 rfl) ?_
    refine gh_get (v := .ref (gA G 1)) (C := RX8) (T := TX8) (N := 5) hx hb hw inlX8 hown hT hP 0 (Nat.le_of_ble_eq_true rfl) kd0 rfl rfl 0 (by decide) (hw _ uw15) rfl dX8_next_30 ?_
    refine gh_get (v := .ref (gA G 2)) (C := RX5) (T := TX5) (N := 9) hx hb hw inlX5 hown hT hP 1 (Nat.le_of_ble_eq_true rfl) kd1 rfl rfl 0 (by decide) (hw _ uw126) rfl dX8_next_33 ?_
    refine lv_aload_n hx hb dX8_next_36 rfl (lv_at hl 0 rfl) ?_
    refine gh_get (v := .ref (gA G 1)) (C := RX8) (T := TX8) (N := 5) hx hb hw inlX8 hown hT hP 0 (Nat.le_of_ble_eq_true rfl) kd0 rfl rfl 0 (by decide) (hw _ uw15) rfl dX8_next_37 ?_
    refine gh_get (v := .int (V 1 7)) (C := RX5) (T := TX5) (N := 9) hx hb hw inlX5 hown hT hP 1 (Nat.le_of_ble_eq_true rfl) kd1 rfl rfl 7 (by decide) (hw _ uw279) rfl dX8_next_40 ?_
    refine gh_kr (va_runS (As := [.int (V 1 7)]) (rest := [.ref (gA G 2)]) ⟨hx, hb, hml, hown, hw⟩ (cc_X8_numberBehind l G V (V 1 7)) (va_cwS 1 hw gv_RX8_229 rfl rfl rfl dd_X8_numberBehind.2 ⟨Nat.le_of_ble_eq_true rfl, Nat.le_of_ble_eq_true rfl⟩) (gh_pre hT hP) rfl rfl hl.1 rfl (lv_room (Nat.le_of_ble_eq_true rfl)) dX8_next_43 ⟨Nat.zero_le _, Nat.zero_le _⟩) hS (fun H locs hP hS => ?_)
    have ho_3 := hs
    refine gh_kr (va_runV (As := [.int (MX8_numberBehind (V 1 7) V)]) (rest := []) ⟨hx, hb, hml, hown, hw⟩ (cc_X7_drawnBy l G V (MX8_numberBehind (V 1 7) V) ho_3) (cwV 1 hw gv_RX8_232 rfl rfl rfl dd_X7_drawnBy ⟨Nat.le_of_ble_eq_true rfl, Nat.le_of_ble_eq_true rfl⟩) (gh_preV hT hP (Nat.le_of_ble_eq_true rfl) kd2 rfl rfl) rfl rfl hl.1 rfl (lv_room (Nat.le_of_ble_eq_true rfl)) dX8_next_46 ⟨Nat.zero_le _, Nat.zero_le _⟩) hS (fun H locs hP hS => ?_)
    exact gh_iretR hx hb hr hlocks hP hS hT hres dX8_next_49
  have hres := hres.trans (if_pos c_2)
  refine lv_bipush (v := -2) hx hb dX8_next_26 (by decide) ?_
  exact gh_iretR hx hb hr hlocks hP hS hT hres dX8_next_28
theorem gv_RX8_235 : GoodIn wsL_law (wsV RX8 235 RX5 yX5_copyFrom wc_X5_copyFrom) := gh_gV uw708 uw150 uw151 uw14 uw152
def BX8_keep_16    (V : gV) : Int32 × gV := ((V 11 0), V)
def BX8_keep_11    (V : gV) : Int32 × gV := BX8_keep_16 (gu V 0 4 (1 : Int32))
def MX8_keep   (V : gV) : Int32 × gV := BX8_keep_11 (MX5_copyFrom 34 1 V)
def PX8_keep   (V : gV) : Prop := (PX5_copyFrom 34 1 V)
abbrev wc_X8_keep : List Cond := Cond.code yX8_keep cX8_keep 1 (some .int) :: wsL_law
abbrev r_X8_keep : Room := { frames := 4, cells := 0, slots := 0, locals := 103 }
theorem dd_X8_keep : yX8_keep.cls = RX8 ∧ yX8_keep.cls ≠ "java/lang/invoke/MethodHandle" ∧ yX8_keep.cls ≠ "java/lang/invoke/VarHandle" ∧ (parseMethodDescriptor yX8_keep.desc).map (fun d => d.parameters.length) = some 0 := by decide +kernel
set_option maxHeartbeats 8000000 in
set_option maxRecDepth 100000 in
theorem cc_X8_keep (l : Launch) (G : gG) (V : gV)    (hs : PX8_keep V) : Met l yX8_keep wc_X8_keep r_X8_keep (va_Pc [.ref (gA G 0)] (gW G V)) (gQI G (MX8_keep V)) 0 0 (gF G) := by
  refine Met.ofW (cc := cX8_keep) (maxL := 1) (ret := (some .int)) (by decide) rfl ?_
  intro p e s m args below meth c s₁ B hml hv
  obtain ⟨rfl, hP, hT⟩ := hv
  have hx := B.exec
  have hb := B.bytes
  have hr := B.returns
  have hw := gh_hw (atoms_spec (ws := wc_X8_keep) B.pre)
  have hown : s.vm.findClass RX8 = some m.cls := findClass_of_methodNamed B.named
  have hlocks := B.notSynchronized
  have hS : va_S (gF G) s.heap s.heap [] := va_S.rf
  have hl := lv_entry ([.ref (gA G 0)]) (n := 1) (Nat.le_of_ble_eq_true rfl)
  rw [lg_entry_eq]
  generalize (lg_sl ([.ref (gA G 0)]) ++ List.replicate (1 - (lg_sl ([.ref (gA G 0)])).length) Slot.unset).toArray = ls at hl ⊢
  have hl : lv_has ls 1 [(0, .ref (gA G 0))] := hl
  obtain ⟨res, hres⟩ : ∃ r, r = MX8_keep V := ⟨_, rfl⟩
  rw [← hres]
  show W p l e r_X8_keep s m ([.ref (gA G 0)] : List Value).toArray below meth c s.heap [] 0 0 (MQ below (gQI G res) ([.ref (gA G 0)] : List Value).toArray s 0 0 (gF G)) (F0 m 0 ls [])
  have hs : (PX5_copyFrom 34 1 V) := hs
  have hres : res = (BX8_keep_11 (MX5_copyFrom 34 1 V)) := hres
  have b_16 : ∀  (V : gV) (H : Heap) (locs : List Loc) (ls : Array Slot), lv_has ls 1 [(0, .ref (gA G 0))] → va_P (gD G) vwCl (gL G V) H → va_S (gF G) s.heap H locs → res = BX8_keep_16   V → W p l e r_X8_keep s m ([.ref (gA G 0)] : List Value).toArray below meth c H locs 0 0 (MQ below (gQI G res) ([.ref (gA G 0)] : List Value).toArray s 0 0 (gF G)) (F0 m 16 ls []) := by
    intro  V H locs ls hl hP hS hres
    have hres : res = (((V 11 0), V)) := hres
    refine lv_aload_n hx hb dX8_keep_16 rfl (lv_at hl 0 rfl) ?_
    refine gh_get (v := .ref (gA G 1)) (C := RX8) (T := TX8) (N := 5) hx hb hw inlX8 hown hT hP 0 (Nat.le_of_ble_eq_true rfl) kd0 rfl rfl 0 (by decide) (hw _ uw15) rfl dX8_keep_17 ?_
    refine gh_get (v := .ref (gA G 11)) (C := RX5) (T := TX5) (N := 9) hx hb hw inlX5 hown hT hP 1 (Nat.le_of_ble_eq_true rfl) kd1 rfl rfl 1 (by decide) (hw _ uw225) rfl dX8_keep_20 ?_
    refine gh_get (v := .int (V 11 0)) (C := RX0) (T := TX0) (N := 7) hx hb hw inlX0 hown hT hP 11 (Nat.le_of_ble_eq_true rfl) kd11 rfl rfl 0 (by decide) (hw _ uw226) rfl dX8_keep_23 ?_
    exact gh_iret hx hb hr hlocks hP hS hT hres dX8_keep_26
  have b_11 : ∀  (V : gV) (H : Heap) (locs : List Loc) (ls : Array Slot), lv_has ls 1 [(0, .ref (gA G 0))] → va_P (gD G) vwCl (gL G V) H → va_S (gF G) s.heap H locs → res = BX8_keep_11   V → W p l e r_X8_keep s m ([.ref (gA G 0)] : List Value).toArray below meth c H locs 0 0 (MQ below (gQI G res) ([.ref (gA G 0)] : List Value).toArray s 0 0 (gF G)) (F0 m 11 ls []) := by
    intro  V H locs ls hl hP hS hres
    have hres : res = (BX8_keep_16 (gu V 0 4 (1 : Int32))) := hres
    refine lv_aload_n hx hb dX8_keep_11 rfl (lv_at hl 0 rfl) ?_
    refine lv_iconst (v := 1) hx hb dX8_keep_12 (by decide) ?_
    refine gh_put (ty := .boolean) (x := (1 : Int32)) (C := RX8) (T := TX8) (N := 5) hx hb hw inlX8 tyX8_ok nmX8 hown hT hP hS 0 (Nat.le_of_ble_eq_true rfl) kd0 rfl rfl 4 (by decide) (hw _ uw25) rfl (by decide +kernel) rfl rfl (Nat.le_of_ble_eq_true rfl) rfl dX8_keep_13 (fun H locs hP hS => ?_)
    exact b_16 (gu V 0 4 (1 : Int32)) _ _ _ (lv_sub hl [0] rfl) hP hS hres
  refine lv_aload_n hx hb dX8_keep_0 rfl (lv_at hl 0 rfl) ?_
  refine gh_get (v := .ref (gA G 34)) (C := RX8) (T := TX8) (N := 5) hx hb hw inlX8 hown hT hP 0 (Nat.le_of_ble_eq_true rfl) kd0 rfl rfl 1 (by decide) (hw _ uw16) rfl dX8_keep_1 ?_
  refine lv_aload_n hx hb dX8_keep_4 rfl (lv_at hl 0 rfl) ?_
  refine gh_get (v := .ref (gA G 1)) (C := RX8) (T := TX8) (N := 5) hx hb hw inlX8 hown hT hP 0 (Nat.le_of_ble_eq_true rfl) kd0 rfl rfl 0 (by decide) (hw _ uw15) rfl dX8_keep_5 ?_
  have ho_1 := hs
  refine gh_kv (va_runV (As := [.ref (gA G 1)]) (rest := []) ⟨hx, hb, hml, hown, hw⟩ (cc_X5_copyFrom l G V 34 gi34 1 gi1 ho_1) (cwV 1 hw gv_RX8_235 rfl rfl rfl dd_X5_copyFrom ⟨Nat.le_of_ble_eq_true rfl, Nat.le_of_ble_eq_true rfl⟩) (gh_preV hT hP (Nat.le_of_ble_eq_true rfl) kd34 rfl rfl) rfl rfl hl.1 rfl (lv_room (Nat.le_of_ble_eq_true rfl)) dX8_keep_8 ⟨Nat.zero_le _, Nat.zero_le _⟩) hS (fun H locs hP hS => ?_)
  exact b_11 (MX5_copyFrom 34 1 V) _ _ _ (lv_sub hl [0] rfl) hP hS hres
theorem gv_RX8_244 : GoodIn wsL_law (wsV RX8 244 RX6 yX6_append wc_X6_append) := gh_gV uw741 uw742 uw743 uw23 uw744
def MX8_type  (a1 : Int32) (V : gV) : Int32 × gV := if (MX8_isBetween a1 (32 : Int32) (126 : Int32) V) = 0 then (((-1 : Int32), V)) else (if (V 201 0) < (120 : Int32) then ((((MX6_append a1 V) 201 0), (MX6_append a1 V))) else (((-3 : Int32), V)))
abbrev wc_X8_type : List Cond := Cond.code yX8_type cX8_type 2 (some .int) :: wsL_law
abbrev r_X8_type : Room := { frames := 2, cells := 0, slots := 0, locals := 43 }
theorem dd_X8_type : yX8_type.cls = RX8 ∧ yX8_type.cls ≠ "java/lang/invoke/MethodHandle" ∧ yX8_type.cls ≠ "java/lang/invoke/VarHandle" ∧ (parseMethodDescriptor yX8_type.desc).map (fun d => d.parameters.length) = some 1 := by decide +kernel
set_option maxHeartbeats 8000000 in
set_option maxRecDepth 100000 in
theorem cc_X8_type (l : Launch) (G : gG) (V : gV)   (a1 : Int32)  : Met l yX8_type wc_X8_type r_X8_type (va_Pc [.ref (gA G 0), .int a1] (gW G V)) (gQI G (MX8_type a1 V)) 0 0 (gF G) := by
  refine Met.ofW (cc := cX8_type) (maxL := 2) (ret := (some .int)) (by decide) rfl ?_
  intro p e s m args below meth c s₁ B hml hv
  obtain ⟨rfl, hP, hT⟩ := hv
  have hx := B.exec
  have hb := B.bytes
  have hr := B.returns
  have hw := gh_hw (atoms_spec (ws := wc_X8_type) B.pre)
  have hown : s.vm.findClass RX8 = some m.cls := findClass_of_methodNamed B.named
  have hlocks := B.notSynchronized
  have hS : va_S (gF G) s.heap s.heap [] := va_S.rf
  have hl := lv_entry ([.ref (gA G 0), .int a1]) (n := 2) (Nat.le_of_ble_eq_true rfl)
  rw [lg_entry_eq]
  generalize (lg_sl ([.ref (gA G 0), .int a1]) ++ List.replicate (2 - (lg_sl ([.ref (gA G 0), .int a1])).length) Slot.unset).toArray = ls at hl ⊢
  have hl : lv_has ls 2 [(0, .ref (gA G 0)), (1, .int a1)] := hl
  obtain ⟨res, hres⟩ : ∃ r, r = MX8_type a1 V := ⟨_, rfl⟩
  rw [← hres]
  show W p l e r_X8_type s m ([.ref (gA G 0), .int a1] : List Value).toArray below meth c s.heap [] 0 0 (MQ below (gQI G res) ([.ref (gA G 0), .int a1] : List Value).toArray s 0 0 (gF G)) (F0 m 0 ls [])
  have hres : res = (if (MX8_isBetween a1 (32 : Int32) (126 : Int32) V) = 0 then (((-1 : Int32), V)) else (if (V 201 0) < (120 : Int32) then ((((MX6_append a1 V) 201 0), (MX6_append a1 V))) else (((-3 : Int32), V)))) := hres
  refine lv_iload_n hx hb dX8_type_0 rfl (lv_at hl 1 rfl) ?_
  refine lv_bipush (v := 32) hx hb dX8_type_1 (by decide) ?_
  refine lv_bipush (v := 126) hx hb dX8_type_3 (by decide) ?_
  refine gh_kr (va_runS (As := [.int a1, .int (32 : Int32), .int (126 : Int32)]) (rest := []) ⟨hx, hb, hml, hown, hw⟩ (cc_X8_isBetween l G V a1 (32 : Int32) (126 : Int32)) (va_cwS 3 hw gv_RX8_47 rfl rfl rfl dd_X8_isBetween.2 ⟨Nat.le_of_ble_eq_true rfl, Nat.le_of_ble_eq_true rfl⟩) (gh_pre hT hP) rfl rfl hl.1 rfl (lv_room (Nat.le_of_ble_eq_true rfl)) dX8_type_5 ⟨Nat.zero_le _, Nat.zero_le _⟩) hS (fun H locs hP hS => ?_)
  refine lv_if_ne (tgt := 13) hx hb dX8_type_8 (by decide) (fun c_1 => ?_) (fun c_1 => ?_)
  · have hres := hres.trans (if_neg c_1)
    refine lv_aload_n hx hb dX8_type_13 rfl (lv_at hl 0 rfl) ?_
    refine gh_get (v := .ref (gA G 201)) (C := RX8) (T := TX8) (N := 5) hx hb hw inlX8 hown hT hP 0 (Nat.le_of_ble_eq_true rfl) kd0 rfl rfl 3 (by decide) (hw _ uw24) rfl dX8_type_14 ?_
    refine gh_get (v := .int (V 201 0)) (C := RX6) (T := TX6) (N := 6) hx hb hw inlX6 hown hT hP 201 (Nat.le_of_ble_eq_true rfl) kd201 rfl rfl 0 (by decide) (hw _ uw600) rfl dX8_type_17 ?_
    refine lv_bipush (v := 120) hx hb dX8_type_20 (by decide) ?_
    refine lv_icmp_lt (tgt := 28) hx hb dX8_type_22 (by decide) (fun c_2 => ?_) (fun c_2 => ?_)
    · have hres := hres.trans (if_pos c_2)
      refine lv_aload_n hx hb dX8_type_28 rfl (lv_at hl 0 rfl) ?_
      refine gh_get (v := .ref (gA G 201)) (C := RX8) (T := TX8) (N := 5) hx hb hw inlX8 hown hT hP 0 (Nat.le_of_ble_eq_true rfl) kd0 rfl rfl 3 (by decide) (hw _ uw24) rfl dX8_type_29 ?_
      refine lv_iload_n hx hb dX8_type_32 rfl (lv_at hl 1 rfl) ?_
      refine gh_kv (va_runV (As := [.int a1]) (rest := []) ⟨hx, hb, hml, hown, hw⟩ (cc_X6_append l G V a1) (cwV 1 hw gv_RX8_244 rfl rfl rfl dd_X6_append ⟨Nat.le_of_ble_eq_true rfl, Nat.le_of_ble_eq_true rfl⟩) (gh_preV hT hP (Nat.le_of_ble_eq_true rfl) kd201 rfl rfl) rfl rfl hl.1 rfl (lv_room (Nat.le_of_ble_eq_true rfl)) dX8_type_33 ⟨Nat.zero_le _, Nat.zero_le _⟩) hS (fun H locs hP hS => ?_)
      refine lv_aload_n hx hb dX8_type_36 rfl (lv_at hl 0 rfl) ?_
      refine gh_get (v := .ref (gA G 201)) (C := RX8) (T := TX8) (N := 5) hx hb hw inlX8 hown hT hP 0 (Nat.le_of_ble_eq_true rfl) kd0 rfl rfl 3 (by decide) (hw _ uw24) rfl dX8_type_37 ?_
      refine gh_get (v := .int ((MX6_append a1 V) 201 0)) (C := RX6) (T := TX6) (N := 6) hx hb hw inlX6 hown hT hP 201 (Nat.le_of_ble_eq_true rfl) kd201 rfl rfl 0 (by decide) (hw _ uw600) rfl dX8_type_40 ?_
      exact gh_iret hx hb hr hlocks hP hS hT hres dX8_type_43
    have hres := hres.trans (if_neg c_2)
    refine lv_bipush (v := -3) hx hb dX8_type_25 (by decide) ?_
    exact gh_iret hx hb hr hlocks hP hS hT hres dX8_type_27
  have hres := hres.trans (if_pos c_1)
  refine lv_iconst (v := -1) hx hb dX8_type_11 (by decide) ?_
  exact gh_iret hx hb hr hlocks hP hS hT hres dX8_type_12
def MX8_clearText   (V : gV) : Int32 × gV := ((V 201 0), (gu V 201 0 (0 : Int32)))
abbrev wc_X8_clearText : List Cond := Cond.code yX8_clearText cX8_clearText 2 (some .int) :: wsL_law
abbrev r_X8_clearText : Room := { frames := 0, cells := 0, slots := 0, locals := 0 }
theorem dd_X8_clearText : yX8_clearText.cls = RX8 ∧ yX8_clearText.cls ≠ "java/lang/invoke/MethodHandle" ∧ yX8_clearText.cls ≠ "java/lang/invoke/VarHandle" ∧ (parseMethodDescriptor yX8_clearText.desc).map (fun d => d.parameters.length) = some 0 := by decide +kernel
set_option maxHeartbeats 8000000 in
set_option maxRecDepth 100000 in
theorem cc_X8_clearText (l : Launch) (G : gG) (V : gV)     : Met l yX8_clearText wc_X8_clearText r_X8_clearText (va_Pc [.ref (gA G 0)] (gW G V)) (gQI G (MX8_clearText V)) 0 0 (gF G) := by
  refine Met.ofW (cc := cX8_clearText) (maxL := 2) (ret := (some .int)) (by decide) rfl ?_
  intro p e s m args below meth c s₁ B hml hv
  obtain ⟨rfl, hP, hT⟩ := hv
  have hx := B.exec
  have hb := B.bytes
  have hr := B.returns
  have hw := gh_hw (atoms_spec (ws := wc_X8_clearText) B.pre)
  have hown : s.vm.findClass RX8 = some m.cls := findClass_of_methodNamed B.named
  have hlocks := B.notSynchronized
  have hS : va_S (gF G) s.heap s.heap [] := va_S.rf
  have hl := lv_entry ([.ref (gA G 0)]) (n := 2) (Nat.le_of_ble_eq_true rfl)
  rw [lg_entry_eq]
  generalize (lg_sl ([.ref (gA G 0)]) ++ List.replicate (2 - (lg_sl ([.ref (gA G 0)])).length) Slot.unset).toArray = ls at hl ⊢
  have hl : lv_has ls 2 [(0, .ref (gA G 0))] := hl
  obtain ⟨res, hres⟩ : ∃ r, r = MX8_clearText V := ⟨_, rfl⟩
  rw [← hres]
  show W p l e r_X8_clearText s m ([.ref (gA G 0)] : List Value).toArray below meth c s.heap [] 0 0 (MQ below (gQI G res) ([.ref (gA G 0)] : List Value).toArray s 0 0 (gF G)) (F0 m 0 ls [])
  have hres : res = (((V 201 0), (gu V 201 0 (0 : Int32)))) := hres
  refine lv_aload_n hx hb dX8_clearText_0 rfl (lv_at hl 0 rfl) ?_
  refine gh_get (v := .ref (gA G 201)) (C := RX8) (T := TX8) (N := 5) hx hb hw inlX8 hown hT hP 0 (Nat.le_of_ble_eq_true rfl) kd0 rfl rfl 3 (by decide) (hw _ uw24) rfl dX8_clearText_1 ?_
  refine gh_get (v := .int (V 201 0)) (C := RX6) (T := TX6) (N := 6) hx hb hw inlX6 hown hT hP 201 (Nat.le_of_ble_eq_true rfl) kd201 rfl rfl 0 (by decide) (hw _ uw600) rfl dX8_clearText_4 ?_
  refine lv_istore_n (lv' := [(1, .int (V 201 0)), (0, .ref (gA G 0))]) hx hb dX8_clearText_7 rfl hl (by decide) rfl (fun ls hl => ?_)
  refine lv_aload_n hx hb dX8_clearText_8 rfl (lv_at hl 1 rfl) ?_
  refine gh_get (v := .ref (gA G 201)) (C := RX8) (T := TX8) (N := 5) hx hb hw inlX8 hown hT hP 0 (Nat.le_of_ble_eq_true rfl) kd0 rfl rfl 3 (by decide) (hw _ uw24) rfl dX8_clearText_9 ?_
  refine lv_iconst (v := 0) hx hb dX8_clearText_12 (by decide) ?_
  refine gh_put (ty := .int) (x := (0 : Int32)) (C := RX6) (T := TX6) (N := 6) hx hb hw inlX6 tyX6_ok nmX6 hown hT hP hS 201 (Nat.le_of_ble_eq_true rfl) kd201 rfl rfl 0 (by decide) (hw _ uw600) rfl (by decide +kernel) rfl rfl (Nat.le_of_ble_eq_true rfl) rfl dX8_clearText_13 (fun H locs hP hS => ?_)
  refine lv_iload_n hx hb dX8_clearText_16 rfl (lv_at hl 0 rfl) ?_
  exact gh_iret hx hb hr hlocks hP hS hT hres dX8_clearText_17
theorem gv_RX8_247 : GoodIn wsL_law (wsV RX8 247 RX6 yX6_scan wc_X6_scan) := gh_gV uw764 uw765 uw766 uw23 uw767
theorem gv_RX8_250 : GoodIn wsL_law (wsV RX8 250 RX6 yX6_hasFault wc_X6_hasFault) := gh_gV uw816 uw813 uw814 uw23 uw815
def BX8_fault_18   (x1 : Int32) (V : gV) : Int32 × gV := if (MX6_hasFault V) = 0 then (((-4 : Int32), V)) else (if x1 = 0 then (((V 201 1), V)) else (((V 201 2), V)))
def MX8_fault  (a1 : Int32) (V : gV) : Int32 × gV := if (MX8_isBetween a1 (0 : Int32) (1 : Int32) V) = 0 then (((-1 : Int32), V)) else (BX8_fault_18 a1 (MX6_scan V))
def PX8_fault  (a1 : Int32) (V : gV) : Prop := ((¬ (MX8_isBetween a1 (0 : Int32) (1 : Int32) V) = 0 → (PX6_scan V)))
abbrev wc_X8_fault : List Cond := Cond.code yX8_fault cX8_fault 2 (some .int) :: wsL_law
abbrev r_X8_fault : Room := { frames := 6, cells := 0, slots := 0, locals := 131 }
theorem dd_X8_fault : yX8_fault.cls = RX8 ∧ yX8_fault.cls ≠ "java/lang/invoke/MethodHandle" ∧ yX8_fault.cls ≠ "java/lang/invoke/VarHandle" ∧ (parseMethodDescriptor yX8_fault.desc).map (fun d => d.parameters.length) = some 1 := by decide +kernel
set_option maxHeartbeats 8000000 in
set_option maxRecDepth 100000 in
theorem cc_X8_fault (l : Launch) (G : gG) (V : gV)   (a1 : Int32) (hs : PX8_fault a1 V) : Met l yX8_fault wc_X8_fault r_X8_fault (va_Pc [.ref (gA G 0), .int a1] (gW G V)) (gQI G (MX8_fault a1 V)) 0 0 (gF G) := by
  refine Met.ofW (cc := cX8_fault) (maxL := 2) (ret := (some .int)) (by decide) rfl ?_
  intro p e s m args below meth c s₁ B hml hv
  obtain ⟨rfl, hP, hT⟩ := hv
  have hx := B.exec
  have hb := B.bytes
  have hr := B.returns
  have hw := gh_hw (atoms_spec (ws := wc_X8_fault) B.pre)
  have hown : s.vm.findClass RX8 = some m.cls := findClass_of_methodNamed B.named
  have hlocks := B.notSynchronized
  have hS : va_S (gF G) s.heap s.heap [] := va_S.rf
  have hl := lv_entry ([.ref (gA G 0), .int a1]) (n := 2) (Nat.le_of_ble_eq_true rfl)
  rw [lg_entry_eq]
  generalize (lg_sl ([.ref (gA G 0), .int a1]) ++ List.replicate (2 - (lg_sl ([.ref (gA G 0), .int a1])).length) Slot.unset).toArray = ls at hl ⊢
  have hl : lv_has ls 2 [(0, .ref (gA G 0)), (1, .int a1)] := hl
  obtain ⟨res, hres⟩ : ∃ r, r = MX8_fault a1 V := ⟨_, rfl⟩
  rw [← hres]
  show W p l e r_X8_fault s m ([.ref (gA G 0), .int a1] : List Value).toArray below meth c s.heap [] 0 0 (MQ below (gQI G res) ([.ref (gA G 0), .int a1] : List Value).toArray s 0 0 (gF G)) (F0 m 0 ls [])
  have hs : ((¬ (MX8_isBetween a1 (0 : Int32) (1 : Int32) V) = 0 → (PX6_scan V))) := hs
  have hres : res = (if (MX8_isBetween a1 (0 : Int32) (1 : Int32) V) = 0 then (((-1 : Int32), V)) else (BX8_fault_18 a1 (MX6_scan V))) := hres
  have b_18 : ∀ (x1 : Int32) (V : gV) (H : Heap) (locs : List Loc) (ls : Array Slot), lv_has ls 2 [(0, .ref (gA G 0)), (1, .int x1)] → va_P (gD G) vwCl (gL G V) H → va_S (gF G) s.heap H locs → res = BX8_fault_18  x1 V → W p l e r_X8_fault s m ([.ref (gA G 0), .int a1] : List Value).toArray below meth c H locs 0 0 (MQ below (gQI G res) ([.ref (gA G 0), .int a1] : List Value).toArray s 0 0 (gF G)) (F0 m 18 ls []) := by
    intro x1 V H locs ls hl hP hS hres
    have hres : res = (if (MX6_hasFault V) = 0 then (((-4 : Int32), V)) else (if x1 = 0 then (((V 201 1), V)) else (((V 201 2), V)))) := hres
    refine lv_aload_n hx hb dX8_fault_18 rfl (lv_at hl 0 rfl) ?_
    refine gh_get (v := .ref (gA G 201)) (C := RX8) (T := TX8) (N := 5) hx hb hw inlX8 hown hT hP 0 (Nat.le_of_ble_eq_true rfl) kd0 rfl rfl 3 (by decide) (hw _ uw24) rfl dX8_fault_19 ?_
    refine gh_kr (va_runV (As := []) (rest := []) ⟨hx, hb, hml, hown, hw⟩ (cc_X6_hasFault l G V) (cwV 0 hw gv_RX8_250 rfl rfl rfl dd_X6_hasFault ⟨Nat.le_of_ble_eq_true rfl, Nat.le_of_ble_eq_true rfl⟩) (gh_preV hT hP (Nat.le_of_ble_eq_true rfl) kd201 rfl rfl) rfl rfl hl.1 rfl (lv_room (Nat.le_of_ble_eq_true rfl)) dX8_fault_22 ⟨Nat.zero_le _, Nat.zero_le _⟩) hS (fun H locs hP hS => ?_)
    refine lv_if_ne (tgt := 31) hx hb dX8_fault_25 (by decide) (fun c_3 => ?_) (fun c_3 => ?_)
    · have hres := hres.trans (if_neg c_3)
      refine lv_iload_n hx hb dX8_fault_31 rfl (lv_at hl 1 rfl) ?_
      refine lv_if_ne (tgt := 45) hx hb dX8_fault_32 (by decide) (fun c_4 => ?_) (fun c_4 => ?_)
      · have hres := hres.trans (if_neg c_4)
        refine lv_aload_n hx hb dX8_fault_45 rfl (lv_at hl 0 rfl) ?_
        refine gh_get (v := .ref (gA G 201)) (C := RX8) (T := TX8) (N := 5) hx hb hw inlX8 hown hT hP 0 (Nat.le_of_ble_eq_true rfl) kd0 rfl rfl 3 (by decide) (hw _ uw24) rfl dX8_fault_46 ?_
        refine gh_get (v := .int (V 201 2)) (C := RX6) (T := TX6) (N := 6) hx hb hw inlX6 hown hT hP 201 (Nat.le_of_ble_eq_true rfl) kd201 rfl rfl 2 (by decide) (hw _ uw763) rfl dX8_fault_49 ?_
        exact gh_iret hx hb hr hlocks hP hS hT hres dX8_fault_52
      have hres := hres.trans (if_pos c_4)
      refine lv_aload_n hx hb dX8_fault_35 rfl (lv_at hl 0 rfl) ?_
      refine gh_get (v := .ref (gA G 201)) (C := RX8) (T := TX8) (N := 5) hx hb hw inlX8 hown hT hP 0 (Nat.le_of_ble_eq_true rfl) kd0 rfl rfl 3 (by decide) (hw _ uw24) rfl dX8_fault_36 ?_
      refine gh_get (v := .int (V 201 1)) (C := RX6) (T := TX6) (N := 6) hx hb hw inlX6 hown hT hP 201 (Nat.le_of_ble_eq_true rfl) kd201 rfl rfl 1 (by decide) (hw _ uw762) rfl dX8_fault_39 ?_
      refine lv_goto (tgt := 52) hx hb dX8_fault_42 (by decide) ?_
      exact gh_iret hx hb hr hlocks hP hS hT hres dX8_fault_52
    have hres := hres.trans (if_pos c_3)
    refine lv_bipush (v := -4) hx hb dX8_fault_28 (by decide) ?_
    exact gh_iret hx hb hr hlocks hP hS hT hres dX8_fault_30
  refine lv_iload_n hx hb dX8_fault_0 rfl (lv_at hl 1 rfl) ?_
  refine lv_iconst (v := 0) hx hb dX8_fault_1 (by decide) ?_
  refine lv_iconst (v := 1) hx hb dX8_fault_2 (by decide) ?_
  refine gh_kr (va_runS (As := [.int a1, .int (0 : Int32), .int (1 : Int32)]) (rest := []) ⟨hx, hb, hml, hown, hw⟩ (cc_X8_isBetween l G V a1 (0 : Int32) (1 : Int32)) (va_cwS 3 hw gv_RX8_47 rfl rfl rfl dd_X8_isBetween.2 ⟨Nat.le_of_ble_eq_true rfl, Nat.le_of_ble_eq_true rfl⟩) (gh_pre hT hP) rfl rfl hl.1 rfl (lv_room (Nat.le_of_ble_eq_true rfl)) dX8_fault_3 ⟨Nat.zero_le _, Nat.zero_le _⟩) hS (fun H locs hP hS => ?_)
  refine lv_if_ne (tgt := 11) hx hb dX8_fault_6 (by decide) (fun c_1 => ?_) (fun c_1 => ?_)
  · have hres := hres.trans (if_neg c_1)
    have hs := hs c_1
    refine lv_aload_n hx hb dX8_fault_11 rfl (lv_at hl 0 rfl) ?_
    refine gh_get (v := .ref (gA G 201)) (C := RX8) (T := TX8) (N := 5) hx hb hw inlX8 hown hT hP 0 (Nat.le_of_ble_eq_true rfl) kd0 rfl rfl 3 (by decide) (hw _ uw24) rfl dX8_fault_12 ?_
    have ho_2 := hs
    refine gh_kv (va_runV (As := []) (rest := []) ⟨hx, hb, hml, hown, hw⟩ (cc_X6_scan l G V ho_2) (cwV 0 hw gv_RX8_247 rfl rfl rfl dd_X6_scan ⟨Nat.le_of_ble_eq_true rfl, Nat.le_of_ble_eq_true rfl⟩) (gh_preV hT hP (Nat.le_of_ble_eq_true rfl) kd201 rfl rfl) rfl rfl hl.1 rfl (lv_room (Nat.le_of_ble_eq_true rfl)) dX8_fault_15 ⟨Nat.zero_le _, Nat.zero_le _⟩) hS (fun H locs hP hS => ?_)
    exact b_18 a1 (MX6_scan V) _ _ _ (lv_sub hl [0, 1] rfl) hP hS hres
  have hres := hres.trans (if_pos c_1)
  refine lv_iconst (v := -1) hx hb dX8_fault_9 (by decide) ?_
  exact gh_iret hx hb hr hlocks hP hS hT hres dX8_fault_10
