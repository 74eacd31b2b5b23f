abbrev wc_X1_slotAt : List Cond := Cond.code yX1_slotAt cX1_slotAt 2 (some (.object "GuessingHall$State")) :: wsL_law
abbrev r_X1_slotAt : Room := { frames := 0, cells := 0, slots := 0, locals := 0 }
theorem dd_X1_slotAt : yX1_slotAt.cls = RX1 ∧ yX1_slotAt.cls ≠ "java/lang/invoke/MethodHandle" ∧ yX1_slotAt.cls ≠ "java/lang/invoke/VarHandle" ∧ (parseMethodDescriptor yX1_slotAt.desc).map (fun d => d.parameters.length) = some 1 := by decide +kernel
set_option maxHeartbeats 8000000 in
set_option maxRecDepth 100000 in
theorem cc_X1_slotAt (l : Launch) (G : gG) (V : gV) (j : Nat) (hj : j < 4) : Met l yX1_slotAt wc_X1_slotAt r_X1_slotAt (va_Pc [.ref (gA G 67), .int (nI j)] (gW G V)) (gQA G (69 + 33 * j) V) 0 0 (gF G) := by
  refine Met.ofW (cc := cX1_slotAt) (maxL := 2) (ret := (some (.object "GuessingHall$State"))) (by decide) rfl ?_
  intro p e s m args below meth c s₁ B hml hv
  obtain ⟨rfl, hP, hT⟩ := hv
  have hx := B.exec
  have hb := B.bytes
  have hr := B.returns
  have hw := gh_hw (atoms_spec (ws := wc_X1_slotAt) B.pre)
  have hown : s.vm.findClass RX1 = some m.cls := findClass_of_methodNamed B.named
  have hlocks := B.notSynchronized
  have hS : va_S (gF G) s.heap s.heap [] := va_S.rf
  have hl := lv_entry ([.ref (gA G 67), .int (nI j)]) (n := 2) (Nat.le_of_ble_eq_true rfl)
  rw [lg_entry_eq]
  generalize (lg_sl ([.ref (gA G 67), .int (nI j)]) ++ List.replicate (2 - (lg_sl ([.ref (gA G 67), .int (nI j)])).length) Slot.unset).toArray = ls at hl ⊢
  have hl : lv_has ls 2 [(0, .ref (gA G 67)), (1, .int (nI j))] := hl
  refine lv_iload_n hx hb dX1_slotAt_0 rfl (lv_at hl 1 rfl) ?_
  refine lv_if_lt (tgt := 22) hx hb dX1_slotAt_1 (by decide) (fun c_1 => absurd c_1 (nI_pos (by omega))) (fun c_1 => ?_)
  refine lv_iload_n hx hb dX1_slotAt_4 rfl (lv_at hl 1 rfl) ?_
  refine lv_aload_n hx hb dX1_slotAt_5 rfl (lv_at hl 0 rfl) ?_
  refine gh_get (v := .ref (gA G 68)) (C := RX1) (T := TX1) (N := 3) hx hb hw inlX1 hown hT hP 67 (Nat.le_of_ble_eq_true rfl) kd67 rfl rfl 2 (by decide) (hw _ uw100) rfl dX1_slotAt_6 ?_
  refine gh_rlen hx hb hT hP dX1_slotAt_9 ?_
  refine lv_icmp_ge (tgt := 22) hx hb dX1_slotAt_10 (by decide) (fun c_2 => absurd c_2 (nI_ge (a := j) (b := 4) hj (by omega))) (fun c_2 => ?_)
  refine lv_aload_n hx hb dX1_slotAt_13 rfl (lv_at hl 0 rfl) ?_
  refine gh_get (v := .ref (gA G 68)) (C := RX1) (T := TX1) (N := 3) hx hb hw inlX1 hown hT hP 67 (Nat.le_of_ble_eq_true rfl) kd67 rfl rfl 2 (by decide) (hw _ uw100) rfl dX1_slotAt_14 ?_
  refine lv_iload_n hx hb dX1_slotAt_17 rfl (lv_at hl 1 rfl) ?_
  refine gh_rald hx hb hT hP hj dX1_slotAt_18 ?_
  refine lv_goto (tgt := 23) hx hb dX1_slotAt_19 (by decide) ?_
  exact W.aret hx hb hr (Or.inl ⟨_, rfl⟩) (Or.inr ⟨_, rfl⟩) (fun t ht hW => ⟨⟨V, gA G (69 + 33 * j), rfl, rfl, rfl, by rw [ht]; exact hP, hT.warm hW⟩, hS.F ht⟩) hS.2.2 dX1_slotAt_23 hlocks
theorem gv_RX1_25 : GoodIn wsL_law (wsV RX1 25 RX1 yX1_slotAt wc_X1_slotAt) := gh_gV uw145 uw146 uw147 uw19 uw148
theorem gv_RX1_29 : GoodIn wsL_law (wsV RX1 29 RX5 yX5_copyFrom wc_X5_copyFrom) := gh_gV uw149 uw150 uw151 uw14 uw152
def BX1_record_30 (j : Nat) (q : Nat)   (V : gV) : gV := (gu V 67 0 (if (4 : Int32) < ((V 67 0) + (1 : Int32)) then (4 : Int32) else ((V 67 0) + (1 : Int32))))
def BX1_record_18 (j : Nat) (q : Nat)   (V : gV) : gV := BX1_record_30 j q (gu V 67 1 (((V 67 1) + (1 : Int32)) - ((V 67 1) + (1 : Int32)) / (4 : Int32) * (4 : Int32)))
def MX1_record (j : Nat) (q : Nat)  (V : gV) : gV := BX1_record_18 j q (MX5_copyFrom q 1 V)
def PX1_record (j : Nat) (q : Nat)  (V : gV) : Prop := ((V 67 1) = nI j) ∧ (PX5_copyFrom q 1 V)
abbrev wc_X1_record : List Cond := Cond.code yX1_record cX1_record 3 none :: wsL_law
abbrev r_X1_record : Room := { frames := 4, cells := 0, slots := 0, locals := 103 }
theorem dd_X1_record : yX1_record.cls = RX1 ∧ yX1_record.cls ≠ "java/lang/invoke/MethodHandle" ∧ yX1_record.cls ≠ "java/lang/invoke/VarHandle" ∧ (parseMethodDescriptor yX1_record.desc).map (fun d => d.parameters.length) = some 1 := by decide +kernel
set_option maxHeartbeats 8000000 in
set_option maxRecDepth 100000 in
theorem cc_X1_record (l : Launch) (G : gG) (V : gV) (q : Nat) (hq : gX5 q) (j : Nat) (hj : j < 4) (hqj : q = 69 + 33 * j)  (hs : PX1_record j q V) : Met l yX1_record wc_X1_record r_X1_record (va_Pc [.ref (gA G 67), .ref (gA G 1)] (gW G V)) (gQV G (MX1_record j q V)) 0 0 (gF G) := by
  refine Met.ofW (cc := cX1_record) (maxL := 3) (ret := none) (by decide) rfl ?_
  intro p e s m args below meth c s₁ B hml hv
  obtain ⟨rfl, hP, hT⟩ := hv
  have hx := B.exec
  have hb := B.bytes
  have hr := B.returns
  have hw := gh_hw (atoms_spec (ws := wc_X1_record) B.pre)
  have hown : s.vm.findClass RX1 = some m.cls := findClass_of_methodNamed B.named
  have hlocks := B.notSynchronized
  have hS : va_S (gF G) s.heap s.heap [] := va_S.rf
  have hl := lv_entry ([.ref (gA G 67), .ref (gA G 1)]) (n := 3) (Nat.le_of_ble_eq_true rfl)
  rw [lg_entry_eq]
  generalize (lg_sl ([.ref (gA G 67), .ref (gA G 1)]) ++ List.replicate (3 - (lg_sl ([.ref (gA G 67), .ref (gA G 1)])).length) Slot.unset).toArray = ls at hl ⊢
  have hl : lv_has ls 3 [(0, .ref (gA G 67)), (1, .ref (gA G 1))] := hl
  obtain ⟨res, hres⟩ : ∃ r, r = MX1_record j q V := ⟨_, rfl⟩
  rw [← hres]
  show W p l e r_X1_record s m ([.ref (gA G 67), .ref (gA G 1)] : List Value).toArray below meth c s.heap [] 0 0 (MQ below (gQV G res) ([.ref (gA G 67), .ref (gA G 1)] : List Value).toArray s 0 0 (gF G)) (F0 m 0 ls [])
  have hs : ((V 67 1) = nI j) ∧ (PX5_copyFrom q 1 V) := hs
  have hres : res = (BX1_record_18 j q (MX5_copyFrom q 1 V)) := hres
  have b_30 : ∀  (V : gV) (H : Heap) (locs : List Loc) (ls : Array Slot), lv_has ls 3 [(0, .ref (gA G 67))] → va_P (gD G) vwCl (gL G V) H → va_S (gF G) s.heap H locs → res = BX1_record_30 j q  V → W p l e r_X1_record s m ([.ref (gA G 67), .ref (gA G 1)] : List Value).toArray below meth c H locs 0 0 (MQ below (gQV G res) ([.ref (gA G 67), .ref (gA G 1)] : List Value).toArray s 0 0 (gF G)) (F0 m 30 ls []) := by
    intro  V H locs ls hl hP hS hres
    have hres : res = ((gu V 67 0 (if (4 : Int32) < ((V 67 0) + (1 : Int32)) then (4 : Int32) else ((V 67 0) + (1 : Int32))))) := hres
    refine lv_aload_n hx hb dX1_record_30 rfl (lv_at hl 0 rfl) ?_
    refine lv_aload_n hx hb dX1_record_31 rfl (lv_at hl 0 rfl) ?_
    refine gh_get (v := .int (V 67 0)) (C := RX1) (T := TX1) (N := 3) hx hb hw inlX1 hown hT hP 67 (Nat.le_of_ble_eq_true rfl) kd67 rfl rfl 0 (by decide) (hw _ uw97) rfl dX1_record_32 ?_
    refine lv_iconst (v := 1) hx hb dX1_record_35 (by decide) ?_
    refine lv_iadd hx hb dX1_record_36 ?_
    refine lv_iconst (v := 4) hx hb dX1_record_37 (by decide) ?_
    refine va_mmin hx hb (hml.trans hl.1.symm) hown (hw _ uw142) (hw _ uw143) (hw _ uw66) (hw _ uw144) (Nat.le_of_ble_eq_true rfl) (Nat.le_of_ble_eq_true rfl) (Nat.zero_le _) (Nat.zero_le _) dX1_record_38 ?_
    refine gh_put (ty := .int) (x := (if (4 : Int32) < ((V 67 0) + (1 : Int32)) then (4 : Int32) else ((V 67 0) + (1 : Int32)))) (C := RX1) (T := TX1) (N := 3) hx hb hw inlX1 tyX1_ok nmX1 hown hT hP hS 67 (Nat.le_of_ble_eq_true rfl) kd67 rfl rfl 0 (by decide) (hw _ uw97) rfl (by decide +kernel) rfl rfl (Nat.le_of_ble_eq_true rfl) rfl dX1_record_41 (fun H locs hP hS => ?_)
    exact gh_vret hx hb hr hlocks hP hS hT hres dX1_record_44
  have b_18 : ∀  (V : gV) (H : Heap) (locs : List Loc) (ls : Array Slot), lv_has ls 3 [(0, .ref (gA G 67))] → va_P (gD G) vwCl (gL G V) H → va_S (gF G) s.heap H locs → res = BX1_record_18 j q  V → W p l e r_X1_record s m ([.ref (gA G 67), .ref (gA G 1)] : List Value).toArray below meth c H locs 0 0 (MQ below (gQV G res) ([.ref (gA G 67), .ref (gA G 1)] : List Value).toArray s 0 0 (gF G)) (F0 m 18 ls []) := by
    intro  V H locs ls hl hP hS hres
    have hres : res = (BX1_record_30 j q (gu V 67 1 (((V 67 1) + (1 : Int32)) - ((V 67 1) + (1 : Int32)) / (4 : Int32) * (4 : Int32)))) := hres
    refine lv_aload_n hx hb dX1_record_18 rfl (lv_at hl 0 rfl) ?_
    refine lv_aload_n hx hb dX1_record_19 rfl (lv_at hl 0 rfl) ?_
    refine gh_get (v := .int (V 67 1)) (C := RX1) (T := TX1) (N := 3) hx hb hw inlX1 hown hT hP 67 (Nat.le_of_ble_eq_true rfl) kd67 rfl rfl 1 (by decide) (hw _ uw98) rfl dX1_record_20 ?_
    refine lv_iconst (v := 1) hx hb dX1_record_23 (by decide) ?_
    refine lv_iadd hx hb dX1_record_24 ?_
    refine lv_iconst (v := 4) hx hb dX1_record_25 (by decide) ?_
    refine lv_irem hx hb dX1_record_26 (by decide) ?_
    refine gh_put (ty := .int) (x := (((V 67 1) + (1 : Int32)) - ((V 67 1) + (1 : Int32)) / (4 : Int32) * (4 : Int32))) (C := RX1) (T := TX1) (N := 3) hx hb hw inlX1 tyX1_ok nmX1 hown hT hP hS 67 (Nat.le_of_ble_eq_true rfl) kd67 rfl rfl 1 (by decide) (hw _ uw98) rfl (by decide +kernel) rfl rfl (Nat.le_of_ble_eq_true rfl) rfl dX1_record_27 (fun H locs hP hS => ?_)
    exact b_30 (gu V 67 1 (((V 67 1) + (1 : Int32)) - ((V 67 1) + (1 : Int32)) / (4 : Int32) * (4 : Int32))) _ _ _ (lv_sub hl [0] rfl) hP hS hres
  refine lv_aload_n hx hb dX1_record_0 rfl (lv_at hl 0 rfl) ?_
  refine lv_aload_n hx hb dX1_record_1 rfl (lv_at hl 0 rfl) ?_
  refine gh_get (v := .int (V 67 1)) (C := RX1) (T := TX1) (N := 3) hx hb hw inlX1 hown hT hP 67 (Nat.le_of_ble_eq_true rfl) kd67 rfl rfl 1 (by decide) (hw _ uw98) rfl dX1_record_2 ?_
  obtain ⟨ho_1, hs⟩ := hs
  rw [ho_1]
  refine gh_ka (va_runV (As := [.int (nI j)]) (rest := []) ⟨hx, hb, hml, hown, hw⟩ (cc_X1_slotAt l G V j hj) (cwV 1 hw gv_RX1_25 rfl rfl rfl dd_X1_slotAt ⟨Nat.le_of_ble_eq_true rfl, Nat.le_of_ble_eq_true rfl⟩) (gh_preV hT hP (Nat.le_of_ble_eq_true rfl) kd67 rfl rfl) rfl rfl hl.1 rfl (lv_room (Nat.le_of_ble_eq_true rfl)) dX1_record_5 ⟨Nat.zero_le _, Nat.zero_le _⟩) hS (fun H locs hP hS => ?_)
  rw [← hqj]
  refine lv_astore_n (lv' := [(2, .ref (gA G q)), (0, .ref (gA G 67)), (1, .ref (gA G 1))]) hx hb dX1_record_8 rfl hl (by decide) rfl (fun ls hl => ?_)
  refine lv_aload_n hx hb dX1_record_9 rfl (lv_at hl 0 rfl) ?_
  refine lv_ifnull hx hb dX1_record_10 ?_
  refine lv_aload_n hx hb dX1_record_13 rfl (lv_at hl 0 rfl) ?_
  refine lv_aload_n hx hb dX1_record_14 rfl (lv_at hl 2 rfl) ?_
  have ho_2 := hs
  refine gh_kv (va_runV (As := [.ref (gA G 1)]) (rest := []) ⟨hx, hb, hml, hown, hw⟩ (cc_X5_copyFrom l G V q hq 1 gi1 ho_2) (cwV 1 hw gv_RX1_29 rfl rfl rfl dd_X5_copyFrom ⟨Nat.le_of_ble_eq_true rfl, Nat.le_of_ble_eq_true rfl⟩) (gh_preV hT hP (Nat.lt_of_le_of_lt (Nat.le_add_right _ 32) (hq).1) (hq).2.1 rfl rfl) rfl rfl hl.1 rfl (lv_room (Nat.le_of_ble_eq_true rfl)) dX1_record_15 ⟨Nat.zero_le _, Nat.zero_le _⟩) hS (fun H locs hP hS => ?_)
  exact b_18 (MX5_copyFrom q 1 V) _ _ _ (lv_sub hl [1] rfl) hP hS hres
def BX1_takeLatest_31 (j : Nat) (q : Nat)   (V : gV) : gV := (gu V 67 0 (if ((V 67 0) - (1 : Int32)) < (0 : Int32) then (0 : Int32) else ((V 67 0) - (1 : Int32))))
def BX1_takeLatest_26 (j : Nat) (q : Nat)  (x2 : Int32) (V : gV) : gV := BX1_takeLatest_31 j q (gu V 67 1 x2)
def MX1_takeLatest (j : Nat) (q : Nat)  (V : gV) : gV := BX1_takeLatest_26 j q ((((V 67 1) + (4 : Int32)) - (1 : Int32)) - (((V 67 1) + (4 : Int32)) - (1 : Int32)) / (4 : Int32) * (4 : Int32)) (MX5_copyFrom 1 q V)
def PX1_takeLatest (j : Nat) (q : Nat)  (V : gV) : Prop := (((((V 67 1) + (4 : Int32)) - (1 : Int32)) - (((V 67 1) + (4 : Int32)) - (1 : Int32)) / (4 : Int32) * (4 : Int32)) = nI j) ∧ (PX5_copyFrom 1 q V)
abbrev wc_X1_takeLatest : List Cond := Cond.code yX1_takeLatest cX1_takeLatest 4 none :: wsL_law
abbrev r_X1_takeLatest : Room := { frames := 4, cells := 0, slots := 0, locals := 103 }
theorem dd_X1_takeLatest : yX1_takeLatest.cls = RX1 ∧ yX1_takeLatest.cls ≠ "java/lang/invoke/MethodHandle" ∧ yX1_takeLatest.cls ≠ "java/lang/invoke/VarHandle" ∧ (parseMethodDescriptor yX1_takeLatest.desc).map (fun d => d.parameters.length) = some 1 := by decide +kernel
set_option maxHeartbeats 8000000 in
set_option maxRecDepth 100000 in
theorem cc_X1_takeLatest (l : Launch) (G : gG) (V : gV) (q : Nat) (hq : gX5 q) (j : Nat) (hj : j < 4) (hqj : q = 69 + 33 * j)  (hs : PX1_takeLatest j q V) : Met l yX1_takeLatest wc_X1_takeLatest r_X1_takeLatest (va_Pc [.ref (gA G 67), .ref (gA G 1)] (gW G V)) (gQV G (MX1_takeLatest j q V)) 0 0 (gF G) := by
  refine Met.ofW (cc := cX1_takeLatest) (maxL := 4) (ret := none) (by decide) rfl ?_
  intro p e s m args below meth c s₁ B hml hv
  obtain ⟨rfl, hP, hT⟩ := hv
  have hx := B.exec
  have hb := B.bytes
  have hr := B.returns
  have hw := gh_hw (atoms_spec (ws := wc_X1_takeLatest) B.pre)
  have hown : s.vm.findClass RX1 = some m.cls := findClass_of_methodNamed B.named
  have hlocks := B.notSynchronized
  have hS : va_S (gF G) s.heap s.heap [] := va_S.rf
  have hl := lv_entry ([.ref (gA G 67), .ref (gA G 1)]) (n := 4) (Nat.le_of_ble_eq_true rfl)
  rw [lg_entry_eq]
  generalize (lg_sl ([.ref (gA G 67), .ref (gA G 1)]) ++ List.replicate (4 - (lg_sl ([.ref (gA G 67), .ref (gA G 1)])).length) Slot.unset).toArray = ls at hl ⊢
  have hl : lv_has ls 4 [(0, .ref (gA G 67)), (1, .ref (gA G 1))] := hl
  obtain ⟨res, hres⟩ : ∃ r, r = MX1_takeLatest j q V := ⟨_, rfl⟩
  rw [← hres]
  show W p l e r_X1_takeLatest s m ([.ref (gA G 67), .ref (gA G 1)] : List Value).toArray below meth c s.heap [] 0 0 (MQ below (gQV G res) ([.ref (gA G 67), .ref (gA G 1)] : List Value).toArray s 0 0 (gF G)) (F0 m 0 ls [])
  have hs : (((((V 67 1) + (4 : Int32)) - (1 : Int32)) - (((V 67 1) + (4 : Int32)) - (1 : Int32)) / (4 : Int32) * (4 : Int32)) = nI j) ∧ (PX5_copyFrom 1 q V) := hs
  have hres : res = (BX1_takeLatest_26 j q ((((V 67 1) + (4 : Int32)) - (1 : Int32)) - (((V 67 1) + (4 : Int32)) - (1 : Int32)) / (4 : Int32) * (4 : Int32)) (MX5_copyFrom 1 q V)) := hres
  have b_31 : ∀  (V : gV) (H : Heap) (locs : List Loc) (ls : Array Slot), lv_has ls 4 [(0, .ref (gA G 67))] → va_P (gD G) vwCl (gL G V) H → va_S (gF G) s.heap H locs → res = BX1_takeLatest_31 j q  V → W p l e r_X1_takeLatest s m ([.ref (gA G 67), .ref (gA G 1)] : List Value).toArray below meth c H locs 0 0 (MQ below (gQV G res) ([.ref (gA G 67), .ref (gA G 1)] : List Value).toArray s 0 0 (gF G)) (F0 m 31 ls []) := by
    intro  V H locs ls hl hP hS hres
    have hres : res = ((gu V 67 0 (if ((V 67 0) - (1 : Int32)) < (0 : Int32) then (0 : Int32) else ((V 67 0) - (1 : Int32))))) := hres
    refine lv_aload_n hx hb dX1_takeLatest_31 rfl (lv_at hl 0 rfl) ?_
    refine lv_aload_n hx hb dX1_takeLatest_32 rfl (lv_at hl 0 rfl) ?_
    refine gh_get (v := .int (V 67 0)) (C := RX1) (T := TX1) (N := 3) hx hb hw inlX1 hown hT hP 67 (Nat.le_of_ble_eq_true rfl) kd67 rfl rfl 0 (by decide) (hw _ uw97) rfl dX1_takeLatest_33 ?_
    refine lv_iconst (v := 1) hx hb dX1_takeLatest_36 (by decide) ?_
    refine lv_isub hx hb dX1_takeLatest_37 ?_
    refine lv_iconst (v := 0) hx hb dX1_takeLatest_38 (by decide) ?_
    refine va_mmax hx hb (hml.trans hl.1.symm) hown (hw _ uw732) (hw _ uw65) (hw _ uw66) (hw _ uw67) (Nat.le_of_ble_eq_true rfl) (Nat.le_of_ble_eq_true rfl) (Nat.zero_le _) (Nat.zero_le _) dX1_takeLatest_39 ?_
    refine gh_put (ty := .int) (x := (if ((V 67 0) - (1 : Int32)) < (0 : Int32) then (0 : Int32) else ((V 67 0) - (1 : Int32)))) (C := RX1) (T := TX1) (N := 3) hx hb hw inlX1 tyX1_ok nmX1 hown hT hP hS 67 (Nat.le_of_ble_eq_true rfl) kd67 rfl rfl 0 (by decide) (hw _ uw97) rfl (by decide +kernel) rfl rfl (Nat.le_of_ble_eq_true rfl) rfl dX1_takeLatest_42 (fun H locs hP hS => ?_)
    exact gh_vret hx hb hr hlocks hP hS hT hres dX1_takeLatest_45
  have b_26 : ∀ (x2 : Int32) (V : gV) (H : Heap) (locs : List Loc) (ls : Array Slot), lv_has ls 4 [(0, .ref (gA G 67)), (2, .int x2)] → va_P (gD G) vwCl (gL G V) H → va_S (gF G) s.heap H locs → res = BX1_takeLatest_26 j q x2 V → W p l e r_X1_takeLatest s m ([.ref (gA G 67), .ref (gA G 1)] : List Value).toArray below meth c H locs 0 0 (MQ below (gQV G res) ([.ref (gA G 67), .ref (gA G 1)] : List Value).toArray s 0 0 (gF G)) (F0 m 26 ls []) := by
    intro x2 V H locs ls hl hP hS hres
    have hres : res = (BX1_takeLatest_31 j q (gu V 67 1 x2)) := hres
    refine lv_aload_n hx hb dX1_takeLatest_26 rfl (lv_at hl 0 rfl) ?_
    refine lv_iload_n hx hb dX1_takeLatest_27 rfl (lv_at hl 1 rfl) ?_
    refine gh_put (ty := .int) (x := x2) (C := RX1) (T := TX1) (N := 3) hx hb hw inlX1 tyX1_ok nmX1 hown hT hP hS 67 (Nat.le_of_ble_eq_true rfl) kd67 rfl rfl 1 (by decide) (hw _ uw98) rfl (by decide +kernel) rfl rfl (Nat.le_of_ble_eq_true rfl) rfl dX1_takeLatest_28 (fun H locs hP hS => ?_)
    exact b_31 (gu V 67 1 x2) _ _ _ (lv_sub hl [0] rfl) hP hS hres
  refine lv_aload_n hx hb dX1_takeLatest_0 rfl (lv_at hl 0 rfl) ?_
  refine gh_get (v := .int (V 67 1)) (C := RX1) (T := TX1) (N := 3) hx hb hw inlX1 hown hT hP 67 (Nat.le_of_ble_eq_true rfl) kd67 rfl rfl 1 (by decide) (hw _ uw98) rfl dX1_takeLatest_1 ?_
  refine lv_iconst (v := 4) hx hb dX1_takeLatest_4 (by decide) ?_
  refine lv_iadd hx hb dX1_takeLatest_5 ?_
  refine lv_iconst (v := 1) hx hb dX1_takeLatest_6 (by decide) ?_
  refine lv_isub hx hb dX1_takeLatest_7 ?_
  refine lv_iconst (v := 4) hx hb dX1_takeLatest_8 (by decide) ?_
  refine lv_irem hx hb dX1_takeLatest_9 (by decide) ?_
  refine lv_istore_n (lv' := [(2, .int ((((V 67 1) + (4 : Int32)) - (1 : Int32)) - (((V 67 1) + (4 : Int32)) - (1 : Int32)) / (4 : Int32) * (4 : Int32))), (0, .ref (gA G 67)), (1, .ref (gA G 1))]) hx hb dX1_takeLatest_10 rfl hl (by decide) rfl (fun ls hl => ?_)
  refine lv_aload_n hx hb dX1_takeLatest_11 rfl (lv_at hl 1 rfl) ?_
  refine lv_iload_n hx hb dX1_takeLatest_12 rfl (lv_at hl 0 rfl) ?_
  obtain ⟨ho_1, hs⟩ := hs
  rw [ho_1]
  refine gh_ka (va_runV (As := [.int (nI j)]) (rest := []) ⟨hx, hb, hml, hown, hw⟩ (cc_X1_slotAt l G V j hj) (cwV 1 hw gv_RX1_25 rfl rfl rfl dd_X1_slotAt ⟨Nat.le_of_ble_eq_true rfl, Nat.le_of_ble_eq_true rfl⟩) (gh_preV hT hP (Nat.le_of_ble_eq_true rfl) kd67 rfl rfl) rfl rfl hl.1 rfl (lv_room (Nat.le_of_ble_eq_true rfl)) dX1_takeLatest_13 ⟨Nat.zero_le _, Nat.zero_le _⟩) hS (fun H locs hP hS => ?_)
  rw [← hqj]
  refine lv_astore_n (lv' := [(3, .ref (gA G q)), (2, .int ((((V 67 1) + (4 : Int32)) - (1 : Int32)) - (((V 67 1) + (4 : Int32)) - (1 : Int32)) / (4 : Int32) * (4 : Int32))), (0, .ref (gA G 67)), (1, .ref (gA G 1))]) hx hb dX1_takeLatest_16 rfl hl (by decide) rfl (fun ls hl => ?_)
  refine lv_aload_n hx hb dX1_takeLatest_17 rfl (lv_at hl 0 rfl) ?_
  refine lv_ifnull hx hb dX1_takeLatest_18 ?_
  refine lv_aload_n hx hb dX1_takeLatest_21 rfl (lv_at hl 3 rfl) ?_
  refine lv_aload_n hx hb dX1_takeLatest_22 rfl (lv_at hl 0 rfl) ?_
  have ho_2 := hs
  refine gh_kv (va_runV (As := [.ref (gA G q)]) (rest := []) ⟨hx, hb, hml, hown, hw⟩ (cc_X5_copyFrom l G V 1 gi1 q hq ho_2) (cwV 1 hw gv_RX1_29 rfl rfl rfl dd_X5_copyFrom ⟨Nat.le_of_ble_eq_true rfl, Nat.le_of_ble_eq_true rfl⟩) (gh_preV hT hP (Nat.le_of_ble_eq_true rfl) kd1 rfl rfl) rfl rfl hl.1 rfl (lv_room (Nat.le_of_ble_eq_true rfl)) dX1_takeLatest_23 ⟨Nat.zero_le _, Nat.zero_le _⟩) hS (fun H locs hP hS => ?_)
  exact b_26 ((((V 67 1) + (4 : Int32)) - (1 : Int32)) - (((V 67 1) + (4 : Int32)) - (1 : Int32)) / (4 : Int32) * (4 : Int32)) (MX5_copyFrom 1 q V) _ _ _ (lv_sub hl [2, 1] rfl) hP hS hres
theorem gv_RX6_40 : GoodIn wsL_law (wsV RX6 40 RX4 yX4_put wc_X4_put) := gh_gV uw745 uw194 uw195 uw55 uw196
def BX6_append_12    (V : gV) : gV := (gu V 201 0 ((V 201 0) + (1 : Int32)))
def MX6_append  (a1 : Int32) (V : gV) : gV := BX6_append_12 (MX4_put 211 (V 201 0) a1 V)
abbrev wc_X6_append : List Cond := Cond.code yX6_append cX6_append 2 none :: wsL_law
abbrev r_X6_append : Room := { frames := 1, cells := 0, slots := 0, locals := 22 }
theorem dd_X6_append : yX6_append.cls = RX6 ∧ yX6_append.cls ≠ "java/lang/invoke/MethodHandle" ∧ yX6_append.cls ≠ "java/lang/invoke/VarHandle" ∧ (parseMethodDescriptor yX6_append.desc).map (fun d => d.parameters.length) = some 1 := by decide +kernel
set_option maxHeartbeats 8000000 in
set_option maxRecDepth 100000 in
theorem cc_X6_append (l : Launch) (G : gG) (V : gV)   (a1 : Int32)  : Met l yX6_append wc_X6_append r_X6_append (va_Pc [.ref (gA G 201), .int a1] (gW G V)) (gQV G (MX6_append a1 V)) 0 0 (gF G) := by
  refine Met.ofW (cc := cX6_append) (maxL := 2) (ret := none) (by decide) rfl ?_
  intro p e s m args below meth c s₁ B hml hv
  obtain ⟨rfl, hP, hT⟩ := hv
  have hx := B.exec
  have hb := B.bytes
  have hr := B.returns
  have hw := gh_hw (atoms_spec (ws := wc_X6_append) B.pre)
  have hown : s.vm.findClass RX6 = some m.cls := findClass_of_methodNamed B.named
  have hlocks := B.notSynchronized
  have hS : va_S (gF G) s.heap s.heap [] := va_S.rf
  have hl := lv_entry ([.ref (gA G 201), .int a1]) (n := 2) (Nat.le_of_ble_eq_true rfl)
  rw [lg_entry_eq]
  generalize (lg_sl ([.ref (gA G 201), .int a1]) ++ List.replicate (2 - (lg_sl ([.ref (gA G 201), .int a1])).length) Slot.unset).toArray = ls at hl ⊢
  have hl : lv_has ls 2 [(0, .ref (gA G 201)), (1, .int a1)] := hl
  obtain ⟨res, hres⟩ : ∃ r, r = MX6_append a1 V := ⟨_, rfl⟩
  rw [← hres]
  show W p l e r_X6_append s m ([.ref (gA G 201), .int a1] : List Value).toArray below meth c s.heap [] 0 0 (MQ below (gQV G res) ([.ref (gA G 201), .int a1] : List Value).toArray s 0 0 (gF G)) (F0 m 0 ls [])
  have hres : res = (BX6_append_12 (MX4_put 211 (V 201 0) a1 V)) := hres
  have b_12 : ∀  (V : gV) (H : Heap) (locs : List Loc) (ls : Array Slot), lv_has ls 2 [(0, .ref (gA G 201))] → va_P (gD G) vwCl (gL G V) H → va_S (gF G) s.heap H locs → res = BX6_append_12   V → W p l e r_X6_append s m ([.ref (gA G 201), .int a1] : List Value).toArray below meth c H locs 0 0 (MQ below (gQV G res) ([.ref (gA G 201), .int a1] : List Value).toArray s 0 0 (gF G)) (F0 m 12 ls []) := by
    intro  V H locs ls hl hP hS hres
    have hres : res = ((gu V 201 0 ((V 201 0) + (1 : Int32)))) := hres
    refine lv_aload_n hx hb dX6_append_12 rfl (lv_at hl 0 rfl) ?_
    refine lv_dup hx hb dX6_append_13 rfl ?_
    refine gh_get (v := .int (V 201 0)) (C := RX6) (T := TX6) (N := 6) hx hb hw inlX6 hown hT hP 201 (Nat.le_of_ble_eq_true rfl) kd201 rfl rfl 0 (by decide) (hw _ uw104) rfl dX6_append_14 ?_
    refine lv_iconst (v := 1) hx hb dX6_append_17 (by decide) ?_
    refine lv_iadd hx hb dX6_append_18 ?_
    refine gh_put (ty := .int) (x := ((V 201 0) + (1 : Int32))) (C := RX6) (T := TX6) (N := 6) hx hb hw inlX6 tyX6_ok nmX6 hown hT hP hS 201 (Nat.le_of_ble_eq_true rfl) kd201 rfl rfl 0 (by decide) (hw _ uw104) rfl (by decide +kernel) rfl rfl (Nat.le_of_ble_eq_true rfl) rfl dX6_append_19 (fun H locs hP hS => ?_)
    exact gh_vret hx hb hr hlocks hP hS hT hres dX6_append_22
  refine lv_aload_n hx hb dX6_append_0 rfl (lv_at hl 0 rfl) ?_
  refine gh_get (v := .ref (gA G 211)) (C := RX6) (T := TX6) (N := 6) hx hb hw inlX6 hown hT hP 201 (Nat.le_of_ble_eq_true rfl) kd201 rfl rfl 4 (by decide) (hw _ uw110) rfl dX6_append_1 ?_
  refine lv_aload_n hx hb dX6_append_4 rfl (lv_at hl 0 rfl) ?_
  refine gh_get (v := .int (V 201 0)) (C := RX6) (T := TX6) (N := 6) hx hb hw inlX6 hown hT hP 201 (Nat.le_of_ble_eq_true rfl) kd201 rfl rfl 0 (by decide) (hw _ uw104) rfl dX6_append_5 ?_
  refine lv_iload_n hx hb dX6_append_8 rfl (lv_at hl 1 rfl) ?_
  refine gh_kv (va_runV (As := [.int (V 201 0), .int a1]) (rest := []) ⟨hx, hb, hml, hown, hw⟩ (cc_X4_put l G V 211 gi211 (V 201 0) a1) (cwV 2 hw gv_RX6_40 rfl rfl rfl dd_X4_put ⟨Nat.le_of_ble_eq_true rfl, Nat.le_of_ble_eq_true rfl⟩) (gh_preV hT hP (Nat.le_of_ble_eq_true rfl) kd211 rfl rfl) rfl rfl hl.1 rfl (lv_room (Nat.le_of_ble_eq_true rfl)) dX6_append_9 ⟨Nat.zero_le _, Nat.zero_le _⟩) hS (fun H locs hP hS => ?_)
  exact b_12 (MX4_put 211 (V 201 0) a1 V) _ _ _ (lv_sub hl [0] rfl) hP hS hres
def MX6_hasFault   (V : gV) : Int32 := if (V 201 2) = 0 then ((0 : Int32)) else ((1 : Int32))
abbrev wc_X6_hasFault : List Cond := Cond.code yX6_hasFault cX6_hasFault 1 (some .boolean) :: wsL_law
abbrev r_X6_hasFault : Room := { frames := 0, cells := 0, slots := 0, locals := 0 }
theorem dd_X6_hasFault : yX6_hasFault.cls = RX6 ∧ yX6_hasFault.cls ≠ "java/lang/invoke/MethodHandle" ∧ yX6_hasFault.cls ≠ "java/lang/invoke/VarHandle" ∧ (parseMethodDescriptor yX6_hasFault.desc).map (fun d => d.parameters.length) = some 0 := by decide +kernel
set_option maxHeartbeats 8000000 in
set_option maxRecDepth 100000 in
theorem cc_X6_hasFault (l : Launch) (G : gG) (V : gV)     : Met l yX6_hasFault wc_X6_hasFault r_X6_hasFault (va_Pc [.ref (gA G 201)] (gW G V)) (gQR G (MX6_hasFault V) V) 0 0 (gF G) := by
  refine Met.ofW (cc := cX6_hasFault) (maxL := 1) (ret := (some .boolean)) (by decide) rfl ?_
  intro p e s m args below meth c s₁ B hml hv
  obtain ⟨rfl, hP, hT⟩ := hv
  have hx := B.exec
  have hb := B.bytes
  have hr := B.returns
  have hw := gh_hw (atoms_spec (ws := wc_X6_hasFault) B.pre)
  have hown : s.vm.findClass RX6 = some m.cls := findClass_of_methodNamed B.named
  have hlocks := B.notSynchronized
  have hS : va_S (gF G) s.heap s.heap [] := va_S.rf
  have hl := lv_entry ([.ref (gA G 201)]) (n := 1) (Nat.le_of_ble_eq_true rfl)
  rw [lg_entry_eq]
  generalize (lg_sl ([.ref (gA G 201)]) ++ List.replicate (1 - (lg_sl ([.ref (gA G 201)])).length) Slot.unset).toArray = ls at hl ⊢
  have hl : lv_has ls 1 [(0, .ref (gA G 201))] := hl
  obtain ⟨res, hres⟩ : ∃ r, r = MX6_hasFault V := ⟨_, rfl⟩
  rw [← hres]
  show W p l e r_X6_hasFault s m ([.ref (gA G 201)] : List Value).toArray below meth c s.heap [] 0 0 (MQ below (gQR G res V) ([.ref (gA G 201)] : List Value).toArray s 0 0 (gF G)) (F0 m 0 ls [])
  have hres : res = (if (V 201 2) = 0 then ((0 : Int32)) else ((1 : Int32))) := hres
  refine lv_aload_n hx hb dX6_hasFault_0 rfl (lv_at hl 0 rfl) ?_
  refine gh_get (v := .int (V 201 2)) (C := RX6) (T := TX6) (N := 6) hx hb hw inlX6 hown hT hP 201 (Nat.le_of_ble_eq_true rfl) kd201 rfl rfl 2 (by decide) (hw _ uw106) rfl dX6_hasFault_1 ?_
  refine lv_if_eq (tgt := 11) hx hb dX6_hasFault_4 (by decide) (fun c_1 => ?_) (fun c_1 => ?_)
  · have hres := hres.trans (if_pos c_1)
    refine lv_iconst (v := 0) hx hb dX6_hasFault_11 (by decide) ?_
    exact gh_zretR hx hb hr rfl hlocks hP hS hT hres dX6_hasFault_12
  have hres := hres.trans (if_neg c_1)
  refine lv_iconst (v := 1) hx hb dX6_hasFault_7 (by decide) ?_
  refine lv_goto (tgt := 12) hx hb dX6_hasFault_8 (by decide) ?_
  exact gh_zretR hx hb hr rfl hlocks hP hS hT hres dX6_hasFault_12
theorem gz_X6_hasFault   (V : gV) : gZ (MX6_hasFault V) := by
  unfold MX6_hasFault
  repeat (any_goals split)
  all_goals first | exact Or.inl rfl | exact Or.inr rfl
def MX6_isSmallLetter  (a0 : Int32) (V : gV) : Int32 := (MX8_isBetween a0 (97 : Int32) (122 : Int32) V)
def PX6_isSmallLetter  (a0 : Int32) (V : gV) : Prop := (gZ (MX8_isBetween a0 (97 : Int32) (122 : Int32) V))
abbrev wc_X6_isSmallLetter : List Cond := Cond.code yX6_isSmallLetter cX6_isSmallLetter 1 (some .boolean) :: wsL_law
abbrev r_X6_isSmallLetter : Room := { frames := 1, cells := 0, slots := 0, locals := 22 }
theorem dd_X6_isSmallLetter : yX6_isSmallLetter.cls = RX6 ∧ yX6_isSmallLetter.cls ≠ "java/lang/invoke/MethodHandle" ∧ yX6_isSmallLetter.cls ≠ "java/lang/invoke/VarHandle" ∧ (parseMethodDescriptor yX6_isSmallLetter.desc).map (fun d => d.parameters.length) = some 1 := by decide +kernel
set_option maxHeartbeats 8000000 in
set_option maxRecDepth 100000 in
theorem cc0_X6_isSmallLetter (l : Launch) (G : gG) (V : gV)   (a0 : Int32) (hs : PX6_isSmallLetter a0 V) : Met l yX6_isSmallLetter wc_X6_isSmallLetter r_X6_isSmallLetter (va_Pc [.int a0] (gW G V)) (gQR G (MX6_isSmallLetter a0 V) V) 0 0 (gF G) := by
  refine Met.ofW (cc := cX6_isSmallLetter) (maxL := 1) (ret := (some .boolean)) (by decide) rfl ?_
  intro p e s m args below meth c s₁ B hml hv
  obtain ⟨rfl, hP, hT⟩ := hv
  have hx := B.exec
  have hb := B.bytes
  have hr := B.returns
  have hw := gh_hw (atoms_spec (ws := wc_X6_isSmallLetter) B.pre)
  have hown : s.vm.findClass RX6 = some m.cls := findClass_of_methodNamed B.named
  have hlocks := B.notSynchronized
  have hS : va_S (gF G) s.heap s.heap [] := va_S.rf
  have hl := lv_entry ([.int a0]) (n := 1) (Nat.le_of_ble_eq_true rfl)
  rw [lg_entry_eq]
  generalize (lg_sl ([.int a0]) ++ List.replicate (1 - (lg_sl ([.int a0])).length) Slot.unset).toArray = ls at hl ⊢
  have hl : lv_has ls 1 [(0, .int a0)] := hl
  obtain ⟨res, hres⟩ : ∃ r, r = MX6_isSmallLetter a0 V := ⟨_, rfl⟩
  rw [← hres]
  show W p l e r_X6_isSmallLetter s m ([.int a0] : List Value).toArray below meth c s.heap [] 0 0 (MQ below (gQR G res V) ([.int a0] : List Value).toArray s 0 0 (gF G)) (F0 m 0 ls [])
  have hs : (gZ (MX8_isBetween a0 (97 : Int32) (122 : Int32) V)) := hs
  have hres : res = ((MX8_isBetween a0 (97 : Int32) (122 : Int32) V)) := hres
  refine lv_iload_n hx hb dX6_isSmallLetter_0 rfl (lv_at hl 0 rfl) ?_
  refine lv_bipush (v := 97) hx hb dX6_isSmallLetter_1 (by decide) ?_
  refine lv_bipush (v := 122) hx hb dX6_isSmallLetter_3 (by decide) ?_
  refine gh_kr (va_runSN (As := [.int a0, .int (97 : Int32), .int (122 : Int32)]) (rest := []) ⟨hx, hb, hml, hown, hw⟩ (cc_X8_isBetween l G V a0 (97 : Int32) (122 : Int32)) ⟨va_cnB 3 hw (gh_g1 uw137) rfl rfl rfl hT.2.2.2.2.2.2.1 (hw _ uw2) dd_X8_isBetween.2 ⟨Nat.le_of_ble_eq_true rfl, Nat.le_of_ble_eq_true rfl⟩, hw _ uw136, trivial⟩ (gh_pre hT hP) rfl rfl hl.1 rfl (lv_room (Nat.le_of_ble_eq_true rfl)) dX6_isSmallLetter_5 ⟨Nat.zero_le _, Nat.zero_le _⟩) hS (fun H locs hP hS => ?_)
  have ho_1 := hs
  exact gh_zretR hx hb hr ho_1.n hlocks hP hS hT hres dX6_isSmallLetter_8
theorem pp_X6_isSmallLetter  (a0 : Int32) (V : gV) : PX6_isSmallLetter a0 V := gz_X8_isBetween _ _ _ _
theorem cc_X6_isSmallLetter (l : Launch) (G : gG) (V : gV)  (a0 : Int32) : Met l yX6_isSmallLetter wc_X6_isSmallLetter r_X6_isSmallLetter (va_Pc [.int a0] (gW G V)) (gQR G (MX6_isSmallLetter a0 V) V) 0 0 (gF G) := cc0_X6_isSmallLetter l G V  a0 (pp_X6_isSmallLetter a0 V)
theorem gv_RX6_94 : GoodIn wsL_law (wsV RX6 94 RX4 yX4_at wc_X4_at) := gh_gV uw777 uw190 uw191 uw55 uw192
def MX6_characterAt  (a1 : Int32) (V : gV) : Int32 := if (V 201 0) ≤ a1 then ((0 : Int32)) else ((MX4_at 211 a1 V))
abbrev wc_X6_characterAt : List Cond := Cond.code yX6_characterAt cX6_characterAt 2 (some .int) :: wsL_law
abbrev r_X6_characterAt : Room := { frames := 1, cells := 0, slots := 0, locals := 21 }
theorem dd_X6_characterAt : yX6_characterAt.cls = RX6 ∧ yX6_characterAt.cls ≠ "java/lang/invoke/MethodHandle" ∧ yX6_characterAt.cls ≠ "java/lang/invoke/VarHandle" ∧ (parseMethodDescriptor yX6_characterAt.desc).map (fun d => d.parameters.length) = some 1 := by decide +kernel
set_option maxHeartbeats 8000000 in
set_option maxRecDepth 100000 in
theorem cc_X6_characterAt (l : Launch) (G : gG) (V : gV)   (a1 : Int32)  : Met l yX6_characterAt wc_X6_characterAt r_X6_characterAt (va_Pc [.ref (gA G 201), .int a1] (gW G V)) (gQR G (MX6_characterAt a1 V) V) 0 0 (gF G) := by
  refine Met.ofW (cc := cX6_characterAt) (maxL := 2) (ret := (some .int)) (by decide) rfl ?_
  intro p e s m args below meth c s₁ B hml hv
  obtain ⟨rfl, hP, hT⟩ := hv
  have hx := B.exec
  have hb := B.bytes
  have hr := B.returns
  have hw := gh_hw (atoms_spec (ws := wc_X6_characterAt) B.pre)
  have hown : s.vm.findClass RX6 = some m.cls := findClass_of_methodNamed B.named
  have hlocks := B.notSynchronized
  have hS : va_S (gF G) s.heap s.heap [] := va_S.rf
  have hl := lv_entry ([.ref (gA G 201), .int a1]) (n := 2) (Nat.le_of_ble_eq_true rfl)
  rw [lg_entry_eq]
  generalize (lg_sl ([.ref (gA G 201), .int a1]) ++ List.replicate (2 - (lg_sl ([.ref (gA G 201), .int a1])).length) Slot.unset).toArray = ls at hl ⊢
  have hl : lv_has ls 2 [(0, .ref (gA G 201)), (1, .int a1)] := hl
  obtain ⟨res, hres⟩ : ∃ r, r = MX6_characterAt a1 V := ⟨_, rfl⟩
  rw [← hres]
  show W p l e r_X6_characterAt s m ([.ref (gA G 201), .int a1] : List Value).toArray below meth c s.heap [] 0 0 (MQ below (gQR G res V) ([.ref (gA G 201), .int a1] : List Value).toArray s 0 0 (gF G)) (F0 m 0 ls [])
  have hres : res = (if (V 201 0) ≤ a1 then ((0 : Int32)) else ((MX4_at 211 a1 V))) := hres
  refine lv_iload_n hx hb dX6_characterAt_0 rfl (lv_at hl 1 rfl) ?_
  refine lv_aload_n hx hb dX6_characterAt_1 rfl (lv_at hl 0 rfl) ?_
  refine gh_get (v := .int (V 201 0)) (C := RX6) (T := TX6) (N := 6) hx hb hw inlX6 hown hT hP 201 (Nat.le_of_ble_eq_true rfl) kd201 rfl rfl 0 (by decide) (hw _ uw104) rfl dX6_characterAt_2 ?_
  refine lv_icmp_ge (tgt := 19) hx hb dX6_characterAt_5 (by decide) (fun c_1 => ?_) (fun c_1 => ?_)
  · have hres := hres.trans (if_pos c_1)
    refine lv_iconst (v := 0) hx hb dX6_characterAt_19 (by decide) ?_
    exact gh_iretR hx hb hr hlocks hP hS hT hres dX6_characterAt_20
  have hres := hres.trans (if_neg c_1)
  refine lv_aload_n hx hb dX6_characterAt_8 rfl (lv_at hl 0 rfl) ?_
  refine gh_get (v := .ref (gA G 211)) (C := RX6) (T := TX6) (N := 6) hx hb hw inlX6 hown hT hP 201 (Nat.le_of_ble_eq_true rfl) kd201 rfl rfl 4 (by decide) (hw _ uw110) rfl dX6_characterAt_9 ?_
  refine lv_iload_n hx hb dX6_characterAt_12 rfl (lv_at hl 1 rfl) ?_
  refine gh_kr (va_runV (As := [.int a1]) (rest := []) ⟨hx, hb, hml, hown, hw⟩ (cc_X4_at l G V 211 gi211 a1) (cwV 1 hw gv_RX6_94 rfl rfl rfl dd_X4_at ⟨Nat.le_of_ble_eq_true rfl, Nat.le_of_ble_eq_true rfl⟩) (gh_preV hT hP (Nat.le_of_ble_eq_true rfl) kd211 rfl rfl) rfl rfl hl.1 rfl (lv_room (Nat.le_of_ble_eq_true rfl)) dX6_characterAt_13 ⟨Nat.zero_le _, Nat.zero_le _⟩) hS (fun H locs hP hS => ?_)
  refine lv_goto (tgt := 20) hx hb dX6_characterAt_16 (by decide) ?_
  exact gh_iretR hx hb hr hlocks hP hS hT hres dX6_characterAt_20
def BX6_fail_5   (x2 : Int32) (V : gV) : Int32 × gV := ((0 : Int32), (gu V 201 2 x2))
def MX6_fail  (a1 : Int32) (a2 : Int32) (V : gV) : Int32 × gV := BX6_fail_5 a2 (gu V 201 1 a1)
abbrev wc_X6_fail : List Cond := Cond.code yX6_fail cX6_fail 3 (some .boolean) :: wsL_law
abbrev r_X6_fail : Room := { frames := 0, cells := 0, slots := 0, locals := 0 }
theorem dd_X6_fail : yX6_fail.cls = RX6 ∧ yX6_fail.cls ≠ "java/lang/invoke/MethodHandle" ∧ yX6_fail.cls ≠ "java/lang/invoke/VarHandle" ∧ (parseMethodDescriptor yX6_fail.desc).map (fun d => d.parameters.length) = some 2 := by decide +kernel
set_option maxHeartbeats 8000000 in
set_option maxRecDepth 100000 in
theorem cc_X6_fail (l : Launch) (G : gG) (V : gV)   (a1 : Int32) (a2 : Int32)  : Met l yX6_fail wc_X6_fail r_X6_fail (va_Pc [.ref (gA G 201), .int a1, .int a2] (gW G V)) (gQI G (MX6_fail a1 a2 V)) 0 0 (gF G) := by
  refine Met.ofW (cc := cX6_fail) (maxL := 3) (ret := (some .boolean)) (by decide) rfl ?_
  intro p e s m args below meth c s₁ B hml hv
  obtain ⟨rfl, hP, hT⟩ := hv
  have hx := B.exec
  have hb := B.bytes
  have hr := B.returns
  have hw := gh_hw (atoms_spec (ws := wc_X6_fail) B.pre)
  have hown : s.vm.findClass RX6 = some m.cls := findClass_of_methodNamed B.named
  have hlocks := B.notSynchronized
  have hS : va_S (gF G) s.heap s.heap [] := va_S.rf
  have hl := lv_entry ([.ref (gA G 201), .int a1, .int a2]) (n := 3) (Nat.le_of_ble_eq_true rfl)
  rw [lg_entry_eq]
  generalize (lg_sl ([.ref (gA G 201), .int a1, .int a2]) ++ List.replicate (3 - (lg_sl ([.ref (gA G 201), .int a1, .int a2])).length) Slot.unset).toArray = ls at hl ⊢
  have hl : lv_has ls 3 [(0, .ref (gA G 201)), (1, .int a1), (2, .int a2)] := hl
  obtain ⟨res, hres⟩ : ∃ r, r = MX6_fail a1 a2 V := ⟨_, rfl⟩
  rw [← hres]
  show W p l e r_X6_fail s m ([.ref (gA G 201), .int a1, .int a2] : List Value).toArray below meth c s.heap [] 0 0 (MQ below (gQI G res) ([.ref (gA G 201), .int a1, .int a2] : List Value).toArray s 0 0 (gF G)) (F0 m 0 ls [])
  have hres : res = (BX6_fail_5 a2 (gu V 201 1 a1)) := hres
  have b_5 : ∀ (x2 : Int32) (V : gV) (H : Heap) (locs : List Loc) (ls : Array Slot), lv_has ls 3 [(0, .ref (gA G 201)), (2, .int x2)] → va_P (gD G) vwCl (gL G V) H → va_S (gF G) s.heap H locs → res = BX6_fail_5  x2 V → W p l e r_X6_fail s m ([.ref (gA G 201), .int a1, .int a2] : List Value).toArray below meth c H locs 0 0 (MQ below (gQI G res) ([.ref (gA G 201), .int a1, .int a2] : List Value).toArray s 0 0 (gF G)) (F0 m 5 ls []) := by
    intro x2 V H locs ls hl hP hS hres
    have hres : res = (((0 : Int32), (gu V 201 2 x2))) := hres
    refine lv_aload_n hx hb dX6_fail_5 rfl (lv_at hl 0 rfl) ?_
    refine lv_iload_n hx hb dX6_fail_6 rfl (lv_at hl 1 rfl) ?_
    refine gh_put (ty := .int) (x := x2) (C := RX6) (T := TX6) (N := 6) hx hb hw inlX6 tyX6_ok nmX6 hown hT hP hS 201 (Nat.le_of_ble_eq_true rfl) kd201 rfl rfl 2 (by decide) (hw _ uw106) rfl (by decide +kernel) rfl rfl (Nat.le_of_ble_eq_true rfl) rfl dX6_fail_7 (fun H locs hP hS => ?_)
    refine lv_iconst (v := 0) hx hb dX6_fail_10 (by decide) ?_
    exact gh_zret hx hb hr rfl hlocks hP hS hT hres dX6_fail_11
  refine lv_aload_n hx hb dX6_fail_0 rfl (lv_at hl 0 rfl) ?_
  refine lv_iload_n hx hb dX6_fail_1 rfl (lv_at hl 1 rfl) ?_
  refine gh_put (ty := .int) (x := a1) (C := RX6) (T := TX6) (N := 6) hx hb hw inlX6 tyX6_ok nmX6 hown hT hP hS 201 (Nat.le_of_ble_eq_true rfl) kd201 rfl rfl 1 (by decide) (hw _ uw105) rfl (by decide +kernel) rfl rfl (Nat.le_of_ble_eq_true rfl) rfl dX6_fail_2 (fun H locs hP hS => ?_)
  exact b_5 a2 (gu V 201 1 a1) _ _ _ (lv_sub hl [0, 2] rfl) hP hS hres
theorem gv_RX6_54 : GoodIn wsL_law (wsV RX6 54 RX6 yX6_characterAt wc_X6_characterAt) := gh_gV uw773 uw774 uw775 uw23 uw776
theorem gv_RX6_62 : GoodIn wsL_law (wsV RX6 62 RX6 yX6_fail wc_X6_fail) := gh_gV uw781 uw782 uw783 uw23 uw784
def MX6_scanSign  (a1 : Int32) (V : gV) : Int32 × gV := if (MX6_characterAt (V 201 5) V) = a1 then (((1 : Int32), (gu V 201 5 ((V 201 5) + (1 : Int32))))) else (((MX6_fail (V 201 5) (1 : Int32) V).1, (MX6_fail (V 201 5) (1 : Int32) V).2))
def PX6_scanSign  (a1 : Int32) (V : gV) : Prop := ((¬ (MX6_characterAt (V 201 5) V) = a1 → (gZ (MX6_fail (V 201 5) (1 : Int32) V).1)))
abbrev wc_X6_scanSign : List Cond := Cond.code yX6_scanSign cX6_scanSign 2 (some .boolean) :: wsL_law
abbrev r_X6_scanSign : Room := { frames := 2, cells := 0, slots := 0, locals := 42 }
theorem dd_X6_scanSign : yX6_scanSign.cls = RX6 ∧ yX6_scanSign.cls ≠ "java/lang/invoke/MethodHandle" ∧ yX6_scanSign.cls ≠ "java/lang/invoke/VarHandle" ∧ (parseMethodDescriptor yX6_scanSign.desc).map (fun d => d.parameters.length) = some 1 := by decide +kernel
set_option maxHeartbeats 8000000 in
set_option maxRecDepth 100000 in
theorem cc_X6_scanSign (l : Launch) (G : gG) (V : gV)   (a1 : Int32) (hs : PX6_scanSign a1 V) : Met l yX6_scanSign wc_X6_scanSign r_X6_scanSign (va_Pc [.ref (gA G 201), .int a1] (gW G V)) (gQI G (MX6_scanSign a1 V)) 0 0 (gF G) := by
  refine Met.ofW (cc := cX6_scanSign) (maxL := 2) (ret := (some .boolean)) (by decide) rfl ?_
  intro p e s m args below meth c s₁ B hml hv
  obtain ⟨rfl, hP, hT⟩ := hv
  have hx := B.exec
  have hb := B.bytes
  have hr := B.returns
  have hw := gh_hw (atoms_spec (ws := wc_X6_scanSign) B.pre)
  have hown : s.vm.findClass RX6 = some m.cls := findClass_of_methodNamed B.named
  have hlocks := B.notSynchronized
  have hS : va_S (gF G) s.heap s.heap [] := va_S.rf
  have hl := lv_entry ([.ref (gA G 201), .int a1]) (n := 2) (Nat.le_of_ble_eq_true rfl)
  rw [lg_entry_eq]
  generalize (lg_sl ([.ref (gA G 201), .int a1]) ++ List.replicate (2 - (lg_sl ([.ref (gA G 201), .int a1])).length) Slot.unset).toArray = ls at hl ⊢
  have hl : lv_has ls 2 [(0, .ref (gA G 201)), (1, .int a1)] := hl
  obtain ⟨res, hres⟩ : ∃ r, r = MX6_scanSign a1 V := ⟨_, rfl⟩
  rw [← hres]
  show W p l e r_X6_scanSign s m ([.ref (gA G 201), .int a1] : List Value).toArray below meth c s.heap [] 0 0 (MQ below (gQI G res) ([.ref (gA G 201), .int a1] : List Value).toArray s 0 0 (gF G)) (F0 m 0 ls [])
  have hs : ((¬ (MX6_characterAt (V 201 5) V) = a1 → (gZ (MX6_fail (V 201 5) (1 : Int32) V).1))) := hs
  have hres : res = (if (MX6_characterAt (V 201 5) V) = a1 then (((1 : Int32), (gu V 201 5 ((V 201 5) + (1 : Int32))))) else (((MX6_fail (V 201 5) (1 : Int32) V).1, (MX6_fail (V 201 5) (1 : Int32) V).2))) := hres
  refine lv_aload_n hx hb dX6_scanSign_0 rfl (lv_at hl 0 rfl) ?_
  refine lv_aload_n hx hb dX6_scanSign_1 rfl (lv_at hl 0 rfl) ?_
  refine gh_get (v := .int (V 201 5)) (C := RX6) (T := TX6) (N := 6) hx hb hw inlX6 hown hT hP 201 (Nat.le_of_ble_eq_true rfl) kd201 rfl rfl 5 (by decide) (hw _ uw111) rfl dX6_scanSign_2 ?_
  refine gh_kr (va_runV (As := [.int (V 201 5)]) (rest := []) ⟨hx, hb, hml, hown, hw⟩ (cc_X6_characterAt l G V (V 201 5)) (cwV 1 hw gv_RX6_54 rfl rfl rfl dd_X6_characterAt ⟨Nat.le_of_ble_eq_true rfl, Nat.le_of_ble_eq_true rfl⟩) (gh_preV hT hP (Nat.le_of_ble_eq_true rfl) kd201 rfl rfl) rfl rfl hl.1 rfl (lv_room (Nat.le_of_ble_eq_true rfl)) dX6_scanSign_5 ⟨Nat.zero_le _, Nat.zero_le _⟩) hS (fun H locs hP hS => ?_)
  refine lv_iload_n hx hb dX6_scanSign_8 rfl (lv_at hl 1 rfl) ?_
  refine lv_icmp_eq (tgt := 22) hx hb dX6_scanSign_9 (by decide) (fun c_1 => ?_) (fun c_1 => ?_)
  · have hres := hres.trans (if_pos c_1)
    refine lv_aload_n hx hb dX6_scanSign_22 rfl (lv_at hl 0 rfl) ?_
    refine lv_dup hx hb dX6_scanSign_23 rfl ?_
    refine gh_get (v := .int (V 201 5)) (C := RX6) (T := TX6) (N := 6) hx hb hw inlX6 hown hT hP 201 (Nat.le_of_ble_eq_true rfl) kd201 rfl rfl 5 (by decide) (hw _ uw111) rfl dX6_scanSign_24 ?_
    refine lv_iconst (v := 1) hx hb dX6_scanSign_27 (by decide) ?_
    refine lv_iadd hx hb dX6_scanSign_28 ?_
    refine gh_put (ty := .int) (x := ((V 201 5) + (1 : Int32))) (C := RX6) (T := TX6) (N := 6) hx hb hw inlX6 tyX6_ok nmX6 hown hT hP hS 201 (Nat.le_of_ble_eq_true rfl) kd201 rfl rfl 5 (by decide) (hw _ uw111) rfl (by decide +kernel) rfl rfl (Nat.le_of_ble_eq_true rfl) rfl dX6_scanSign_29 (fun H locs hP hS => ?_)
    refine lv_iconst (v := 1) hx hb dX6_scanSign_32 (by decide) ?_
    exact gh_zret hx hb hr rfl hlocks hP hS hT hres dX6_scanSign_33
  have hres := hres.trans (if_neg c_1)
  have hs := hs c_1
  refine lv_aload_n hx hb dX6_scanSign_12 rfl (lv_at hl 0 rfl) ?_
  refine lv_aload_n hx hb dX6_scanSign_13 rfl (lv_at hl 0 rfl) ?_
  refine gh_get (v := .int (V 201 5)) (C := RX6) (T := TX6) (N := 6) hx hb hw inlX6 hown hT hP 201 (Nat.le_of_ble_eq_true rfl) kd201 rfl rfl 5 (by decide) (hw _ uw111) rfl dX6_scanSign_14 ?_
  refine lv_iconst (v := 1) hx hb dX6_scanSign_17 (by decide) ?_
  refine gh_ki (va_runV (As := [.int (V 201 5), .int (1 : Int32)]) (rest := []) ⟨hx, hb, hml, hown, hw⟩ (cc_X6_fail l G V (V 201 5) (1 : Int32)) (cwV 2 hw gv_RX6_62 rfl rfl rfl dd_X6_fail ⟨Nat.le_of_ble_eq_true rfl, Nat.le_of_ble_eq_true rfl⟩) (gh_preV hT hP (Nat.le_of_ble_eq_true rfl) kd201 rfl rfl) rfl rfl hl.1 rfl (lv_room (Nat.le_of_ble_eq_true rfl)) dX6_scanSign_18 ⟨Nat.zero_le _, Nat.zero_le _⟩) hS (fun H locs hP hS => ?_)
  have ho_2 := hs
  exact gh_zret hx hb hr ho_2.n hlocks hP hS hT hres dX6_scanSign_21
def BX6_scanWeight_85   (x2 : Int32) (V : gV) : Int32 × gV := ((1 : Int32), (MX4_put 205 (V 202 0) x2 V))
def BX6_scanWeight_75   (x2 : Int32) (x3 : Int32) (V : gV) : Int32 × gV := BX6_scanWeight_85 (((x2 * (10 : Int32)) + x3) - (48 : Int32)) V
def BX6_scanWeight_40   (x1 : Int32) (V : gV) : Int32 × gV := if (MX8_isBetween (MX6_characterAt (V 201 5) V) (48 : Int32) (57 : Int32) V) = 0 then (BX6_scanWeight_85 (x1 - (48 : Int32)) V) else (BX6_scanWeight_75 (x1 - (48 : Int32)) (MX6_characterAt (V 201 5) V) (gu V 201 5 ((V 201 5) + (1 : Int32))))
def MX6_scanWeight   (V : gV) : Int32 × gV := if (MX8_isBetween (MX6_characterAt (V 201 5) V) (49 : Int32) (57 : Int32) V) = 0 then (((MX6_fail (V 201 5) (1 : Int32) V).1, (MX6_fail (V 201 5) (1 : Int32) V).2)) else (BX6_scanWeight_40 (MX6_characterAt (V 201 5) V) (gu V 201 5 ((V 201 5) + (1 : Int32))))
def PX6_scanWeight   (V : gV) : Prop := (((MX8_isBetween (MX6_characterAt (V 201 5) V) (49 : Int32) (57 : Int32) V) = 0 → (gZ (MX6_fail (V 201 5) (1 : Int32) V).1)))
abbrev wc_X6_scanWeight : List Cond := Cond.code yX6_scanWeight cX6_scanWeight 4 (some .boolean) :: wsL_law
abbrev r_X6_scanWeight : Room := { frames := 2, cells := 0, slots := 0, locals := 42 }
theorem dd_X6_scanWeight : yX6_scanWeight.cls = RX6 ∧ yX6_scanWeight.cls ≠ "java/lang/invoke/MethodHandle" ∧ yX6_scanWeight.cls ≠ "java/lang/invoke/VarHandle" ∧ (parseMethodDescriptor yX6_scanWeight.desc).map (fun d => d.parameters.length) = some 0 := by decide +kernel
set_option maxHeartbeats 8000000 in
set_option maxRecDepth 100000 in
theorem cc_X6_scanWeight (l : Launch) (G : gG) (V : gV)    (hs : PX6_scanWeight V) : Met l yX6_scanWeight wc_X6_scanWeight r_X6_scanWeight (va_Pc [.ref (gA G 201)] (gW G V)) (gQI G (MX6_scanWeight V)) 0 0 (gF G) := by
  refine Met.ofW (cc := cX6_scanWeight) (maxL := 4) (ret := (some .boolean)) (by decide) rfl ?_
  intro p e s m args below meth c s₁ B hml hv
  obtain ⟨rfl, hP, hT⟩ := hv
  have hx := B.exec
  have hb := B.bytes
  have hr := B.returns
  have hw := gh_hw (atoms_spec (ws := wc_X6_scanWeight) B.pre)
  have hown : s.vm.findClass RX6 = some m.cls := findClass_of_methodNamed B.named
  have hlocks := B.notSynchronized
  have hS : va_S (gF G) s.heap s.heap [] := va_S.rf
  have hl := lv_entry ([.ref (gA G 201)]) (n := 4) (Nat.le_of_ble_eq_true rfl)
  rw [lg_entry_eq]
  generalize (lg_sl ([.ref (gA G 201)]) ++ List.replicate (4 - (lg_sl ([.ref (gA G 201)])).length) Slot.unset).toArray = ls at hl ⊢
  have hl : lv_has ls 4 [(0, .ref (gA G 201))] := hl
  obtain ⟨res, hres⟩ : ∃ r, r = MX6_scanWeight V := ⟨_, rfl⟩
  rw [← hres]
  show W p l e r_X6_scanWeight s m ([.ref (gA G 201)] : List Value).toArray below meth c s.heap [] 0 0 (MQ below (gQI G res) ([.ref (gA G 201)] : List Value).toArray s 0 0 (gF G)) (F0 m 0 ls [])
  have hs : (((MX8_isBetween (MX6_characterAt (V 201 5) V) (49 : Int32) (57 : Int32) V) = 0 → (gZ (MX6_fail (V 201 5) (1 : Int32) V).1))) := hs
  have hres : res = (if (MX8_isBetween (MX6_characterAt (V 201 5) V) (49 : Int32) (57 : Int32) V) = 0 then (((MX6_fail (V 201 5) (1 : Int32) V).1, (MX6_fail (V 201 5) (1 : Int32) V).2)) else (BX6_scanWeight_40 (MX6_characterAt (V 201 5) V) (gu V 201 5 ((V 201 5) + (1 : Int32))))) := hres
  have b_85 : ∀ (x2 : Int32) (V : gV) (H : Heap) (locs : List Loc) (ls : Array Slot), lv_has ls 4 [(0, .ref (gA G 201)), (2, .int x2)] → va_P (gD G) vwCl (gL G V) H → va_S (gF G) s.heap H locs → res = BX6_scanWeight_85  x2 V → W p l e r_X6_scanWeight s m ([.ref (gA G 201)] : List Value).toArray below meth c H locs 0 0 (MQ below (gQI G res) ([.ref (gA G 201)] : List Value).toArray s 0 0 (gF G)) (F0 m 85 ls []) := by
    intro x2 V H locs ls hl hP hS hres
    have hres : res = (((1 : Int32), (MX4_put 205 (V 202 0) x2 V))) := hres
    refine lv_aload_n hx hb dX6_scanWeight_85 rfl (lv_at hl 0 rfl) ?_
    refine gh_get (v := .ref (gA G 202)) (C := RX6) (T := TX6) (N := 6) hx hb hw inlX6 hown hT hP 201 (Nat.le_of_ble_eq_true rfl) kd201 rfl rfl 3 (by decide) (hw _ uw108) rfl dX6_scanWeight_86 ?_
    refine gh_get (v := .ref (gA G 205)) (C := RX7) (T := TX7) (N := 5) hx hb hw inlX7 hown hT hP 202 (Nat.le_of_ble_eq_true rfl) kd202 rfl rfl 2 (by decide) (hw _ uw803) rfl dX6_scanWeight_89 ?_
    refine lv_aload_n hx hb dX6_scanWeight_92 rfl (lv_at hl 0 rfl) ?_
    refine gh_get (v := .ref (gA G 202)) (C := RX6) (T := TX6) (N := 6) hx hb hw inlX6 hown hT hP 201 (Nat.le_of_ble_eq_true rfl) kd201 rfl rfl 3 (by decide) (hw _ uw108) rfl dX6_scanWeight_93 ?_
    refine gh_get (v := .int (V 202 0)) (C := RX7) (T := TX7) (N := 5) hx hb hw inlX7 hown hT hP 202 (Nat.le_of_ble_eq_true rfl) kd202 rfl rfl 0 (by decide) (hw _ uw768) rfl dX6_scanWeight_96 ?_
    refine lv_iload_n hx hb dX6_scanWeight_99 rfl (lv_at hl 1 rfl) ?_
    refine gh_kv (va_runV (As := [.int (V 202 0), .int x2]) (rest := []) ⟨hx, hb, hml, hown, hw⟩ (cc_X4_put l G V 205 gi205 (V 202 0) x2) (cwV 2 hw gv_RX6_40 rfl rfl rfl dd_X4_put ⟨Nat.le_of_ble_eq_true rfl, Nat.le_of_ble_eq_true rfl⟩) (gh_preV hT hP (Nat.le_of_ble_eq_true rfl) kd205 rfl rfl) rfl rfl hl.1 rfl (lv_room (Nat.le_of_ble_eq_true rfl)) dX6_scanWeight_100 ⟨Nat.zero_le _, Nat.zero_le _⟩) hS (fun H locs hP hS => ?_)
    refine lv_iconst (v := 1) hx hb dX6_scanWeight_103 (by decide) ?_
    exact gh_zret hx hb hr rfl hlocks hP hS hT hres dX6_scanWeight_104
  have b_75 : ∀ (x2 : Int32) (x3 : Int32) (V : gV) (H : Heap) (locs : List Loc) (ls : Array Slot), lv_has ls 4 [(0, .ref (gA G 201)), (2, .int x2), (3, .int x3)] → va_P (gD G) vwCl (gL G V) H → va_S (gF G) s.heap H locs → res = BX6_scanWeight_75  x2 x3 V → W p l e r_X6_scanWeight s m ([.ref (gA G 201)] : List Value).toArray below meth c H locs 0 0 (MQ below (gQI G res) ([.ref (gA G 201)] : List Value).toArray s 0 0 (gF G)) (F0 m 75 ls []) := by
    intro x2 x3 V H locs ls hl hP hS hres
    have hres : res = (BX6_scanWeight_85 (((x2 * (10 : Int32)) + x3) - (48 : Int32)) V) := hres
    refine lv_iload_n hx hb dX6_scanWeight_75 rfl (lv_at hl 1 rfl) ?_
    refine lv_bipush (v := 10) hx hb dX6_scanWeight_76 (by decide) ?_
    refine lv_imul hx hb dX6_scanWeight_78 ?_
    refine lv_iload_n hx hb dX6_scanWeight_79 rfl (lv_at hl 2 rfl) ?_
    refine lv_iadd hx hb dX6_scanWeight_80 ?_
    refine lv_bipush (v := 48) hx hb dX6_scanWeight_81 (by decide) ?_
    refine lv_isub hx hb dX6_scanWeight_83 ?_
    refine lv_istore_n (lv' := [(2, .int (((x2 * (10 : Int32)) + x3) - (48 : Int32))), (0, .ref (gA G 201)), (3, .int x3)]) hx hb dX6_scanWeight_84 rfl hl (by decide) rfl (fun ls hl => ?_)
    exact b_85 (((x2 * (10 : Int32)) + x3) - (48 : Int32)) V _ _ _ (lv_sub hl [1, 0] rfl) hP hS hres
  have b_40 : ∀ (x1 : Int32) (V : gV) (H : Heap) (locs : List Loc) (ls : Array Slot), lv_has ls 4 [(0, .ref (gA G 201)), (1, .int x1)] → va_P (gD G) vwCl (gL G V) H → va_S (gF G) s.heap H locs → res = BX6_scanWeight_40  x1 V → W p l e r_X6_scanWeight s m ([.ref (gA G 201)] : List Value).toArray below meth c H locs 0 0 (MQ below (gQI G res) ([.ref (gA G 201)] : List Value).toArray s 0 0 (gF G)) (F0 m 40 ls []) := by
    intro x1 V H locs ls hl hP hS hres
    have hres : res = (if (MX8_isBetween (MX6_characterAt (V 201 5) V) (48 : Int32) (57 : Int32) V) = 0 then (BX6_scanWeight_85 (x1 - (48 : Int32)) V) else (BX6_scanWeight_75 (x1 - (48 : Int32)) (MX6_characterAt (V 201 5) V) (gu V 201 5 ((V 201 5) + (1 : Int32))))) := hres
    refine lv_iload_n hx hb dX6_scanWeight_40 rfl (lv_at hl 1 rfl) ?_
    refine lv_bipush (v := 48) hx hb dX6_scanWeight_41 (by decide) ?_
    refine lv_isub hx hb dX6_scanWeight_43 ?_
    refine lv_istore_n (lv' := [(2, .int (x1 - (48 : Int32))), (0, .ref (gA G 201)), (1, .int x1)]) hx hb dX6_scanWeight_44 rfl hl (by decide) rfl (fun ls hl => ?_)
    refine lv_aload_n hx hb dX6_scanWeight_45 rfl (lv_at hl 1 rfl) ?_
    refine lv_aload_n hx hb dX6_scanWeight_46 rfl (lv_at hl 1 rfl) ?_
    refine gh_get (v := .int (V 201 5)) (C := RX6) (T := TX6) (N := 6) hx hb hw inlX6 hown hT hP 201 (Nat.le_of_ble_eq_true rfl) kd201 rfl rfl 5 (by decide) (hw _ uw111) rfl dX6_scanWeight_47 ?_
    refine gh_kr (va_runV (As := [.int (V 201 5)]) (rest := []) ⟨hx, hb, hml, hown, hw⟩ (cc_X6_characterAt l G V (V 201 5)) (cwV 1 hw gv_RX6_54 rfl rfl rfl dd_X6_characterAt ⟨Nat.le_of_ble_eq_true rfl, Nat.le_of_ble_eq_true rfl⟩) (gh_preV hT hP (Nat.le_of_ble_eq_true rfl) kd201 rfl rfl) rfl rfl hl.1 rfl (lv_room (Nat.le_of_ble_eq_true rfl)) dX6_scanWeight_50 ⟨Nat.zero_le _, Nat.zero_le _⟩) hS (fun H locs hP hS => ?_)
    refine lv_istore_n (lv' := [(3, .int (MX6_characterAt (V 201 5) V)), (2, .int (x1 - (48 : Int32))), (0, .ref (gA G 201)), (1, .int x1)]) hx hb dX6_scanWeight_53 rfl hl (by decide) rfl (fun ls hl => ?_)
    refine lv_iload_n hx hb dX6_scanWeight_54 rfl (lv_at hl 0 rfl) ?_
    refine lv_bipush (v := 48) hx hb dX6_scanWeight_55 (by decide) ?_
    refine lv_bipush (v := 57) hx hb dX6_scanWeight_57 (by decide) ?_
    refine gh_kr (va_runSN (As := [.int (MX6_characterAt (V 201 5) V), .int (48 : Int32), .int (57 : Int32)]) (rest := []) ⟨hx, hb, hml, hown, hw⟩ (cc_X8_isBetween l G V (MX6_characterAt (V 201 5) V) (48 : Int32) (57 : Int32)) ⟨va_cnB 3 hw (gh_g1 uw137) rfl rfl rfl hT.2.2.2.2.2.2.1 (hw _ uw2) dd_X8_isBetween.2 ⟨Nat.le_of_ble_eq_true rfl, Nat.le_of_ble_eq_true rfl⟩, hw _ uw136, trivial⟩ (gh_pre hT hP) rfl rfl hl.1 rfl (lv_room (Nat.le_of_ble_eq_true rfl)) dX6_scanWeight_59 ⟨Nat.zero_le _, Nat.zero_le _⟩) hS (fun H locs hP hS => ?_)
    refine lv_if_eq (tgt := 85) hx hb dX6_scanWeight_62 (by decide) (fun c_2 => ?_) (fun c_2 => ?_)
    · have hres := hres.trans (if_pos c_2)
      exact b_85 (x1 - (48 : Int32)) V _ _ _ (lv_sub hl [2, 1] rfl) hP hS hres
    have hres := hres.trans (if_neg c_2)
    refine lv_aload_n hx hb dX6_scanWeight_65 rfl (lv_at hl 2 rfl) ?_
    refine lv_dup hx hb dX6_scanWeight_66 rfl ?_
    refine gh_get (v := .int (V 201 5)) (C := RX6) (T := TX6) (N := 6) hx hb hw inlX6 hown hT hP 201 (Nat.le_of_ble_eq_true rfl) kd201 rfl rfl 5 (by decide) (hw _ uw111) rfl dX6_scanWeight_67 ?_
    refine lv_iconst (v := 1) hx hb dX6_scanWeight_70 (by decide) ?_
    refine lv_iadd hx hb dX6_scanWeight_71 ?_
    refine gh_put (ty := .int) (x := ((V 201 5) + (1 : Int32))) (C := RX6) (T := TX6) (N := 6) hx hb hw inlX6 tyX6_ok nmX6 hown hT hP hS 201 (Nat.le_of_ble_eq_true rfl) kd201 rfl rfl 5 (by decide) (hw _ uw111) rfl (by decide +kernel) rfl rfl (Nat.le_of_ble_eq_true rfl) rfl dX6_scanWeight_72 (fun H locs hP hS => ?_)
    exact b_75 (x1 - (48 : Int32)) (MX6_characterAt (V 201 5) V) (gu V 201 5 ((V 201 5) + (1 : Int32))) _ _ _ (lv_sub hl [2, 1, 0] rfl) hP hS hres
  refine lv_aload_n hx hb dX6_scanWeight_0 rfl (lv_at hl 0 rfl) ?_
  refine lv_aload_n hx hb dX6_scanWeight_1 rfl (lv_at hl 0 rfl) ?_
  refine gh_get (v := .int (V 201 5)) (C := RX6) (T := TX6) (N := 6) hx hb hw inlX6 hown hT hP 201 (Nat.le_of_ble_eq_true rfl) kd201 rfl rfl 5 (by decide) (hw _ uw111) rfl dX6_scanWeight_2 ?_
  refine gh_kr (va_runV (As := [.int (V 201 5)]) (rest := []) ⟨hx, hb, hml, hown, hw⟩ (cc_X6_characterAt l G V (V 201 5)) (cwV 1 hw gv_RX6_54 rfl rfl rfl dd_X6_characterAt ⟨Nat.le_of_ble_eq_true rfl, Nat.le_of_ble_eq_true rfl⟩) (gh_preV hT hP (Nat.le_of_ble_eq_true rfl) kd201 rfl rfl) rfl rfl hl.1 rfl (lv_room (Nat.le_of_ble_eq_true rfl)) dX6_scanWeight_5 ⟨Nat.zero_le _, Nat.zero_le _⟩) hS (fun H locs hP hS => ?_)
  refine lv_istore_n (lv' := [(1, .int (MX6_characterAt (V 201 5) V)), (0, .ref (gA G 201))]) hx hb dX6_scanWeight_8 rfl hl (by decide) rfl (fun ls hl => ?_)
  refine lv_iload_n hx hb dX6_scanWeight_9 rfl (lv_at hl 0 rfl) ?_
  refine lv_bipush (v := 49) hx hb dX6_scanWeight_10 (by decide) ?_
  refine lv_bipush (v := 57) hx hb dX6_scanWeight_12 (by decide) ?_
  refine gh_kr (va_runSN (As := [.int (MX6_characterAt (V 201 5) V), .int (49 : Int32), .int (57 : Int32)]) (rest := []) ⟨hx, hb, hml, hown, hw⟩ (cc_X8_isBetween l G V (MX6_characterAt (V 201 5) V) (49 : Int32) (57 : Int32)) ⟨va_cnB 3 hw (gh_g1 uw137) rfl rfl rfl hT.2.2.2.2.2.2.1 (hw _ uw2) dd_X8_isBetween.2 ⟨Nat.le_of_ble_eq_true rfl, Nat.le_of_ble_eq_true rfl⟩, hw _ uw136, trivial⟩ (gh_pre hT hP) rfl rfl hl.1 rfl (lv_room (Nat.le_of_ble_eq_true rfl)) dX6_scanWeight_14 ⟨Nat.zero_le _, Nat.zero_le _⟩) hS (fun H locs hP hS => ?_)
  refine lv_if_ne (tgt := 30) hx hb dX6_scanWeight_17 (by decide) (fun c_1 => ?_) (fun c_1 => ?_)
  · have hres := hres.trans (if_neg c_1)
    refine lv_aload_n hx hb dX6_scanWeight_30 rfl (lv_at hl 1 rfl) ?_
    refine lv_dup hx hb dX6_scanWeight_31 rfl ?_
    refine gh_get (v := .int (V 201 5)) (C := RX6) (T := TX6) (N := 6) hx hb hw inlX6 hown hT hP 201 (Nat.le_of_ble_eq_true rfl) kd201 rfl rfl 5 (by decide) (hw _ uw111) rfl dX6_scanWeight_32 ?_
    refine lv_iconst (v := 1) hx hb dX6_scanWeight_35 (by decide) ?_
    refine lv_iadd hx hb dX6_scanWeight_36 ?_
    refine gh_put (ty := .int) (x := ((V 201 5) + (1 : Int32))) (C := RX6) (T := TX6) (N := 6) hx hb hw inlX6 tyX6_ok nmX6 hown hT hP hS 201 (Nat.le_of_ble_eq_true rfl) kd201 rfl rfl 5 (by decide) (hw _ uw111) rfl (by decide +kernel) rfl rfl (Nat.le_of_ble_eq_true rfl) rfl dX6_scanWeight_37 (fun H locs hP hS => ?_)
    exact b_40 (MX6_characterAt (V 201 5) V) (gu V 201 5 ((V 201 5) + (1 : Int32))) _ _ _ (lv_sub hl [1, 0] rfl) hP hS hres
  have hres := hres.trans (if_pos c_1)
  have hs := hs c_1
  refine lv_aload_n hx hb dX6_scanWeight_20 rfl (lv_at hl 1 rfl) ?_
  refine lv_aload_n hx hb dX6_scanWeight_21 rfl (lv_at hl 1 rfl) ?_
  refine gh_get (v := .int (V 201 5)) (C := RX6) (T := TX6) (N := 6) hx hb hw inlX6 hown hT hP 201 (Nat.le_of_ble_eq_true rfl) kd201 rfl rfl 5 (by decide) (hw _ uw111) rfl dX6_scanWeight_22 ?_
  refine lv_iconst (v := 1) hx hb dX6_scanWeight_25 (by decide) ?_
  refine gh_ki (va_runV (As := [.int (V 201 5), .int (1 : Int32)]) (rest := []) ⟨hx, hb, hml, hown, hw⟩ (cc_X6_fail l G V (V 201 5) (1 : Int32)) (cwV 2 hw gv_RX6_62 rfl rfl rfl dd_X6_fail ⟨Nat.le_of_ble_eq_true rfl, Nat.le_of_ble_eq_true rfl⟩) (gh_preV hT hP (Nat.le_of_ble_eq_true rfl) kd201 rfl rfl) rfl rfl hl.1 rfl (lv_room (Nat.le_of_ble_eq_true rfl)) dX6_scanWeight_26 ⟨Nat.zero_le _, Nat.zero_le _⟩) hS (fun H locs hP hS => ?_)
  have ho_3 := hs
  exact gh_zret hx hb hr ho_3.n hlocks hP hS hT hres dX6_scanWeight_29
theorem gv_RX6_58 : GoodIn wsL_law (va_wsS RX6 58 yX6_isSmallLetter wc_X6_isSmallLetter) := gh_gS uw778 uw779 uw23 uw780
theorem gv_RX6_81 : GoodIn wsL_law (wsV RX6 81 RX7 yX7_putLetter wc_X7_putLetter) := gh_gV uw790 uw791 uw792 uw31 uw793
def BX6_scanLetters_82   (x1 : Int32) (V : gV) : Int32 × gV := if (2 : Int32) ≤ x1 then (if (MX6_isSmallLetter (MX6_characterAt (V 201 5) V) V) = 0 then (((1 : Int32), V)) else (((MX6_fail (V 201 5) (2 : Int32) V).1, (MX6_fail (V 201 5) (2 : Int32) V).2))) else (((MX6_fail (V 201 5) (1 : Int32) V).1, (MX6_fail (V 201 5) (1 : Int32) V).2))
def PX6_scanLetters_82   (x1 : Int32) (V : gV) : Prop := (((2 : Int32) ≤ x1 → ((¬ (MX6_isSmallLetter (MX6_characterAt (V 201 5) V) V) = 0 → (gZ (MX6_fail (V 201 5) (2 : Int32) V).1)))) ∧ (¬ (2 : Int32) ≤ x1 → (gZ (MX6_fail (V 201 5) (1 : Int32) V).1)))
def BX6_scanLetters_64   (x1 : Int32) (V : gV) : Int32 × gV := BX6_scanLetters_82 x1 (MX4_put 203 (V 202 0) x1 V)
def PX6_scanLetters_64   (x1 : Int32) (V : gV) : Prop := (PX6_scanLetters_82 x1 (MX4_put 203 (V 202 0) x1 V))
def BX6_scanLetters_48  (K2 : Int32 → gV → Int32 × gV) (x1 : Int32) (V : gV) : Int32 × gV := K2 (x1 + (1 : Int32)) (gu V 201 5 ((V 201 5) + (1 : Int32)))
def PX6_scanLetters_48  (KP2 : Int32 → gV → Prop) (x1 : Int32) (V : gV) : Prop := (KP2 (x1 + (1 : Int32)) (gu V 201 5 ((V 201 5) + (1 : Int32))))
def BX6_scanLetters_2   : Nat → Int32 → gV → Int32 × gV
  | 0, _, V => (0, V)
  | n + 1, x1, V => if (8 : Int32) ≤ x1 then (BX6_scanLetters_64 x1 V) else (if (MX6_isSmallLetter (MX6_characterAt (V 201 5) V) V) = 0 then (BX6_scanLetters_64 x1 V) else (BX6_scanLetters_48 (BX6_scanLetters_2 n) x1 (MX7_putLetter (V 202 0) x1 ((MX6_characterAt (V 201 5) V) - (97 : Int32)) V)))
def PX6_scanLetters_2   : Nat → Int32 → gV → Prop
  | 0, _, _ => False
  | n + 1, x1, V => (((8 : Int32) ≤ x1 → (PX6_scanLetters_64 x1 V)) ∧ (¬ (8 : Int32) ≤ x1 → (((MX6_isSmallLetter (MX6_characterAt (V 201 5) V) V) = 0 → (PX6_scanLetters_64 x1 V)) ∧ (¬ (MX6_isSmallLetter (MX6_characterAt (V 201 5) V) V) = 0 → (PX6_scanLetters_48 (PX6_scanLetters_2 n) x1 (MX7_putLetter (V 202 0) x1 ((MX6_characterAt (V 201 5) V) - (97 : Int32)) V))))))
def MX6_scanLetters   (V : gV) : Int32 × gV := BX6_scanLetters_2 1000 (0 : Int32) V
def PX6_scanLetters   (V : gV) : Prop := (PX6_scanLetters_2 1000 (0 : Int32) V)
abbrev wc_X6_scanLetters : List Cond := Cond.code yX6_scanLetters cX6_scanLetters 2 (some .boolean) :: wsL_law
abbrev r_X6_scanLetters : Room := { frames := 2, cells := 0, slots := 0, locals := 45 }
theorem dd_X6_scanLetters : yX6_scanLetters.cls = RX6 ∧ yX6_scanLetters.cls ≠ "java/lang/invoke/MethodHandle" ∧ yX6_scanLetters.cls ≠ "java/lang/invoke/VarHandle" ∧ (parseMethodDescriptor yX6_scanLetters.desc).map (fun d => d.parameters.length) = some 0 := by decide +kernel
set_option maxHeartbeats 8000000 in
set_option maxRecDepth 100000 in
theorem cc_X6_scanLetters (l : Launch) (G : gG) (V : gV)    (hs : PX6_scanLetters V) : Met l yX6_scanLetters wc_X6_scanLetters r_X6_scanLetters (va_Pc [.ref (gA G 201)] (gW G V)) (gQI G (MX6_scanLetters V)) 0 0 (gF G) := by
  refine Met.ofW (cc := cX6_scanLetters) (maxL := 2) (ret := (some .boolean)) (by decide) rfl ?_
  intro p e s m args below meth c s₁ B hml hv
  obtain ⟨rfl, hP, hT⟩ := hv
  have hx := B.exec
  have hb := B.bytes
  have hr := B.returns
  have hw := gh_hw (atoms_spec (ws := wc_X6_scanLetters) B.pre)
  have hown : s.vm.findClass RX6 = some m.cls := findClass_of_methodNamed B.named
  have hlocks := B.notSynchronized
  have hS : va_S (gF G) s.heap s.heap [] := va_S.rf
  have hl := lv_entry ([.ref (gA G 201)]) (n := 2) (Nat.le_of_ble_eq_true rfl)
  rw [lg_entry_eq]
  generalize (lg_sl ([.ref (gA G 201)]) ++ List.replicate (2 - (lg_sl ([.ref (gA G 201)])).length) Slot.unset).toArray = ls at hl ⊢
  have hl : lv_has ls 2 [(0, .ref (gA G 201))] := hl
  obtain ⟨res, hres⟩ : ∃ r, r = MX6_scanLetters V := ⟨_, rfl⟩
  rw [← hres]
  show W p l e r_X6_scanLetters s m ([.ref (gA G 201)] : List Value).toArray below meth c s.heap [] 0 0 (MQ below (gQI G res) ([.ref (gA G 201)] : List Value).toArray s 0 0 (gF G)) (F0 m 0 ls [])
  have hs : (PX6_scanLetters_2 1000 (0 : Int32) V) := hs
  have hres : res = (BX6_scanLetters_2 1000 (0 : Int32) V) := hres
  have b_82 : ∀ (x1 : Int32) (V : gV) (H : Heap) (locs : List Loc) (ls : Array Slot), lv_has ls 2 [(0, .ref (gA G 201)), (1, .int x1)] → va_P (gD G) vwCl (gL G V) H → va_S (gF G) s.heap H locs → PX6_scanLetters_82  x1 V → res = BX6_scanLetters_82  x1 V → W p l e r_X6_scanLetters s m ([.ref (gA G 201)] : List Value).toArray below meth c H locs 0 0 (MQ below (gQI G res) ([.ref (gA G 201)] : List Value).toArray s 0 0 (gF G)) (F0 m 82 ls []) := by
    intro x1 V H locs ls hl hP hS hs hres
    have hs : (((2 : Int32) ≤ x1 → ((¬ (MX6_isSmallLetter (MX6_characterAt (V 201 5) V) V) = 0 → (gZ (MX6_fail (V 201 5) (2 : Int32) V).1)))) ∧ (¬ (2 : Int32) ≤ x1 → (gZ (MX6_fail (V 201 5) (1 : Int32) V).1))) := hs
    have hres : res = (if (2 : Int32) ≤ x1 then (if (MX6_isSmallLetter (MX6_characterAt (V 201 5) V) V) = 0 then (((1 : Int32), V)) else (((MX6_fail (V 201 5) (2 : Int32) V).1, (MX6_fail (V 201 5) (2 : Int32) V).2))) else (((MX6_fail (V 201 5) (1 : Int32) V).1, (MX6_fail (V 201 5) (1 : Int32) V).2))) := hres
    refine lv_iload_n hx hb dX6_scanLetters_82 rfl (lv_at hl 1 rfl) ?_
    refine lv_iconst (v := 2) hx hb dX6_scanLetters_83 (by decide) ?_
    refine lv_icmp_ge (tgt := 97) hx hb dX6_scanLetters_84 (by decide) (fun c_2 => ?_) (fun c_2 => ?_)
    · have hres := hres.trans (if_pos c_2)
      have hs := hs.1 c_2
      refine lv_aload_n hx hb dX6_scanLetters_97 rfl (lv_at hl 0 rfl) ?_
      refine lv_aload_n hx hb dX6_scanLetters_98 rfl (lv_at hl 0 rfl) ?_
      refine gh_get (v := .int (V 201 5)) (C := RX6) (T := TX6) (N := 6) hx hb hw inlX6 hown hT hP 201 (Nat.le_of_ble_eq_true rfl) kd201 rfl rfl 5 (by decide) (hw _ uw111) rfl dX6_scanLetters_99 ?_
      refine gh_kr (va_runV (As := [.int (V 201 5)]) (rest := []) ⟨hx, hb, hml, hown, hw⟩ (cc_X6_characterAt l G V (V 201 5)) (cwV 1 hw gv_RX6_54 rfl rfl rfl dd_X6_characterAt ⟨Nat.le_of_ble_eq_true rfl, Nat.le_of_ble_eq_true rfl⟩) (gh_preV hT hP (Nat.le_of_ble_eq_true rfl) kd201 rfl rfl) rfl rfl hl.1 rfl (lv_room (Nat.le_of_ble_eq_true rfl)) dX6_scanLetters_102 ⟨Nat.zero_le _, Nat.zero_le _⟩) hS (fun H locs hP hS => ?_)
      refine gh_kr (va_runS (As := [.int (MX6_characterAt (V 201 5) V)]) (rest := []) ⟨hx, hb, hml, hown, hw⟩ (cc_X6_isSmallLetter l G V (MX6_characterAt (V 201 5) V)) (va_cwS 1 hw gv_RX6_58 rfl rfl rfl dd_X6_isSmallLetter.2 ⟨Nat.le_of_ble_eq_true rfl, Nat.le_of_ble_eq_true rfl⟩) (gh_pre hT hP) rfl rfl hl.1 rfl (lv_room (Nat.le_of_ble_eq_true rfl)) dX6_scanLetters_105 ⟨Nat.zero_le _, Nat.zero_le _⟩) hS (fun H locs hP hS => ?_)
      refine lv_if_eq (tgt := 121) hx hb dX6_scanLetters_108 (by decide) (fun c_3 => ?_) (fun c_3 => ?_)
      · have hres := hres.trans (if_pos c_3)
        refine lv_iconst (v := 1) hx hb dX6_scanLetters_121 (by decide) ?_
        exact gh_zret hx hb hr rfl hlocks hP hS hT hres dX6_scanLetters_122
      have hres := hres.trans (if_neg c_3)
      have hs := hs c_3
      refine lv_aload_n hx hb dX6_scanLetters_111 rfl (lv_at hl 0 rfl) ?_
      refine lv_aload_n hx hb dX6_scanLetters_112 rfl (lv_at hl 0 rfl) ?_
      refine gh_get (v := .int (V 201 5)) (C := RX6) (T := TX6) (N := 6) hx hb hw inlX6 hown hT hP 201 (Nat.le_of_ble_eq_true rfl) kd201 rfl rfl 5 (by decide) (hw _ uw111) rfl dX6_scanLetters_113 ?_
      refine lv_iconst (v := 2) hx hb dX6_scanLetters_116 (by decide) ?_
      refine gh_ki (va_runV (As := [.int (V 201 5), .int (2 : Int32)]) (rest := []) ⟨hx, hb, hml, hown, hw⟩ (cc_X6_fail l G V (V 201 5) (2 : Int32)) (cwV 2 hw gv_RX6_62 rfl rfl rfl dd_X6_fail ⟨Nat.le_of_ble_eq_true rfl, Nat.le_of_ble_eq_true rfl⟩) (gh_preV hT hP (Nat.le_of_ble_eq_true rfl) kd201 rfl rfl) rfl rfl hl.1 rfl (lv_room (Nat.le_of_ble_eq_true rfl)) dX6_scanLetters_117 ⟨Nat.zero_le _, Nat.zero_le _⟩) hS (fun H locs hP hS => ?_)
      have ho_4 := hs
      exact gh_zret hx hb hr ho_4.n hlocks hP hS hT hres dX6_scanLetters_120
    have hres := hres.trans (if_neg c_2)
    have hs := hs.2 c_2
    refine lv_aload_n hx hb dX6_scanLetters_87 rfl (lv_at hl 0 rfl) ?_
    refine lv_aload_n hx hb dX6_scanLetters_88 rfl (lv_at hl 0 rfl) ?_
    refine gh_get (v := .int (V 201 5)) (C := RX6) (T := TX6) (N := 6) hx hb hw inlX6 hown hT hP 201 (Nat.le_of_ble_eq_true rfl) kd201 rfl rfl 5 (by decide) (hw _ uw111) rfl dX6_scanLetters_89 ?_
    refine lv_iconst (v := 1) hx hb dX6_scanLetters_92 (by decide) ?_
    refine gh_ki (va_runV (As := [.int (V 201 5), .int (1 : Int32)]) (rest := []) ⟨hx, hb, hml, hown, hw⟩ (cc_X6_fail l G V (V 201 5) (1 : Int32)) (cwV 2 hw gv_RX6_62 rfl rfl rfl dd_X6_fail ⟨Nat.le_of_ble_eq_true rfl, Nat.le_of_ble_eq_true rfl⟩) (gh_preV hT hP (Nat.le_of_ble_eq_true rfl) kd201 rfl rfl) rfl rfl hl.1 rfl (lv_room (Nat.le_of_ble_eq_true rfl)) dX6_scanLetters_93 ⟨Nat.zero_le _, Nat.zero_le _⟩) hS (fun H locs hP hS => ?_)
    have ho_5 := hs
    exact gh_zret hx hb hr ho_5.n hlocks hP hS hT hres dX6_scanLetters_96
  have b_64 : ∀ (x1 : Int32) (V : gV) (H : Heap) (locs : List Loc) (ls : Array Slot), lv_has ls 2 [(0, .ref (gA G 201)), (1, .int x1)] → va_P (gD G) vwCl (gL G V) H → va_S (gF G) s.heap H locs → PX6_scanLetters_64  x1 V → res = BX6_scanLetters_64  x1 V → W p l e r_X6_scanLetters s m ([.ref (gA G 201)] : List Value).toArray below meth c H locs 0 0 (MQ below (gQI G res) ([.ref (gA G 201)] : List Value).toArray s 0 0 (gF G)) (F0 m 64 ls []) := by
    intro x1 V H locs ls hl hP hS hs hres
    have hs : (PX6_scanLetters_82 x1 (MX4_put 203 (V 202 0) x1 V)) := hs
    have hres : res = (BX6_scanLetters_82 x1 (MX4_put 203 (V 202 0) x1 V)) := hres
    refine lv_aload_n hx hb dX6_scanLetters_64 rfl (lv_at hl 0 rfl) ?_
    refine gh_get (v := .ref (gA G 202)) (C := RX6) (T := TX6) (N := 6) hx hb hw inlX6 hown hT hP 201 (Nat.le_of_ble_eq_true rfl) kd201 rfl rfl 3 (by decide) (hw _ uw108) rfl dX6_scanLetters_65 ?_
    refine gh_get (v := .ref (gA G 203)) (C := RX7) (T := TX7) (N := 5) hx hb hw inlX7 hown hT hP 202 (Nat.le_of_ble_eq_true rfl) kd202 rfl rfl 1 (by decide) (hw _ uw789) rfl dX6_scanLetters_68 ?_
    refine lv_aload_n hx hb dX6_scanLetters_71 rfl (lv_at hl 0 rfl) ?_
    refine gh_get (v := .ref (gA G 202)) (C := RX6) (T := TX6) (N := 6) hx hb hw inlX6 hown hT hP 201 (Nat.le_of_ble_eq_true rfl) kd201 rfl rfl 3 (by decide) (hw _ uw108) rfl dX6_scanLetters_72 ?_
    refine gh_get (v := .int (V 202 0)) (C := RX7) (T := TX7) (N := 5) hx hb hw inlX7 hown hT hP 202 (Nat.le_of_ble_eq_true rfl) kd202 rfl rfl 0 (by decide) (hw _ uw768) rfl dX6_scanLetters_75 ?_
    refine lv_iload_n hx hb dX6_scanLetters_78 rfl (lv_at hl 1 rfl) ?_
    refine gh_kv (va_runV (As := [.int (V 202 0), .int x1]) (rest := []) ⟨hx, hb, hml, hown, hw⟩ (cc_X4_put l G V 203 gi203 (V 202 0) x1) (cwV 2 hw gv_RX6_40 rfl rfl rfl dd_X4_put ⟨Nat.le_of_ble_eq_true rfl, Nat.le_of_ble_eq_true rfl⟩) (gh_preV hT hP (Nat.le_of_ble_eq_true rfl) kd203 rfl rfl) rfl rfl hl.1 rfl (lv_room (Nat.le_of_ble_eq_true rfl)) dX6_scanLetters_79 ⟨Nat.zero_le _, Nat.zero_le _⟩) hS (fun H locs hP hS => ?_)
    exact b_82 x1 (MX4_put 203 (V 202 0) x1 V) _ _ _ (lv_sub hl [0, 1] rfl) hP hS hs hres
  have b_2 : ∀ (n : Nat) (x1 : Int32) (V : gV) (H : Heap) (locs : List Loc) (ls : Array Slot), lv_has ls 2 [(0, .ref (gA G 201)), (1, .int x1)] → va_P (gD G) vwCl (gL G V) H → va_S (gF G) s.heap H locs → PX6_scanLetters_2  n x1 V → res = BX6_scanLetters_2  n x1 V → W p l e r_X6_scanLetters s m ([.ref (gA G 201)] : List Value).toArray below meth c H locs 0 0 (MQ below (gQI G res) ([.ref (gA G 201)] : List Value).toArray s 0 0 (gF G)) (F0 m 2 ls []) := by
    intro n
    induction n with
    | zero =>
      intro x1 V H locs ls hl hP hS hs hres
      exact (show False from hs).elim
    | succ n2 ih2 =>
      have b_48 : ∀ (x1 : Int32) (V : gV) (H : Heap) (locs : List Loc) (ls : Array Slot), lv_has ls 2 [(0, .ref (gA G 201)), (1, .int x1)] → va_P (gD G) vwCl (gL G V) H → va_S (gF G) s.heap H locs → PX6_scanLetters_48 (PX6_scanLetters_2 n2) x1 V → res = BX6_scanLetters_48 (BX6_scanLetters_2 n2) x1 V → W p l e r_X6_scanLetters s m ([.ref (gA G 201)] : List Value).toArray below meth c H locs 0 0 (MQ below (gQI G res) ([.ref (gA G 201)] : List Value).toArray s 0 0 (gF G)) (F0 m 48 ls []) := by
        intro x1 V H locs ls hl hP hS hs hres
        have hs : ((PX6_scanLetters_2 n2) (x1 + (1 : Int32)) (gu V 201 5 ((V 201 5) + (1 : Int32)))) := hs
        have hres : res = ((BX6_scanLetters_2 n2) (x1 + (1 : Int32)) (gu V 201 5 ((V 201 5) + (1 : Int32)))) := hres
        refine lv_iinc (v := (x1 + (1 : Int32))) (lv' := [(1, .int (x1 + (1 : Int32))), (0, .ref (gA G 201))]) hx hb dX6_scanLetters_48 hl (k := 1) rfl rfl (by decide) rfl (fun ls hl => ?_)
        refine lv_aload_n hx hb dX6_scanLetters_51 rfl (lv_at hl 1 rfl) ?_
        refine lv_dup hx hb dX6_scanLetters_52 rfl ?_
        refine gh_get (v := .int (V 201 5)) (C := RX6) (T := TX6) (N := 6) hx hb hw inlX6 hown hT hP 201 (Nat.le_of_ble_eq_true rfl) kd201 rfl rfl 5 (by decide) (hw _ uw111) rfl dX6_scanLetters_53 ?_
        refine lv_iconst (v := 1) hx hb dX6_scanLetters_56 (by decide) ?_
        refine lv_iadd hx hb dX6_scanLetters_57 ?_
        refine gh_put (ty := .int) (x := ((V 201 5) + (1 : Int32))) (C := RX6) (T := TX6) (N := 6) hx hb hw inlX6 tyX6_ok nmX6 hown hT hP hS 201 (Nat.le_of_ble_eq_true rfl) kd201 rfl rfl 5 (by decide) (hw _ uw111) rfl (by decide +kernel) rfl rfl (Nat.le_of_ble_eq_true rfl) rfl dX6_scanLetters_58 (fun H locs hP hS => ?_)
        refine lv_goto (tgt := 2) hx hb dX6_scanLetters_61 (by decide) ?_
        exact ih2 (x1 + (1 : Int32)) (gu V 201 5 ((V 201 5) + (1 : Int32))) _ _ _ (lv_sub hl [1, 0] rfl) hP hS hs hres
      intro x1 V H locs ls hl hP hS hs hres
      have hs : (((8 : Int32) ≤ x1 → (PX6_scanLetters_64 x1 V)) ∧ (¬ (8 : Int32) ≤ x1 → (((MX6_isSmallLetter (MX6_characterAt (V 201 5) V) V) = 0 → (PX6_scanLetters_64 x1 V)) ∧ (¬ (MX6_isSmallLetter (MX6_characterAt (V 201 5) V) V) = 0 → (PX6_scanLetters_48 (PX6_scanLetters_2 n2) x1 (MX7_putLetter (V 202 0) x1 ((MX6_characterAt (V 201 5) V) - (97 : Int32)) V)))))) := hs
      have hres : res = (if (8 : Int32) ≤ x1 then (BX6_scanLetters_64 x1 V) else (if (MX6_isSmallLetter (MX6_characterAt (V 201 5) V) V) = 0 then (BX6_scanLetters_64 x1 V) else (BX6_scanLetters_48 (BX6_scanLetters_2 n2) x1 (MX7_putLetter (V 202 0) x1 ((MX6_characterAt (V 201 5) V) - (97 : Int32)) V)))) := hres
      refine lv_iload_n hx hb dX6_scanLetters_2 rfl (lv_at hl 1 rfl) ?_
      refine lv_bipush (v := 8) hx hb dX6_scanLetters_3 (by decide) ?_
      refine lv_icmp_ge (tgt := 64) hx hb dX6_scanLetters_5 (by decide) (fun c_1 => ?_) (fun c_1 => ?_)
      · have hres := hres.trans (if_pos c_1)
        have hs := hs.1 c_1
        exact b_64 x1 V _ _ _ (lv_sub hl [0, 1] rfl) hP hS hs hres
      have hres := hres.trans (if_neg c_1)
      have hs := hs.2 c_1
      refine lv_aload_n hx hb dX6_scanLetters_8 rfl (lv_at hl 0 rfl) ?_
      refine lv_aload_n hx hb dX6_scanLetters_9 rfl (lv_at hl 0 rfl) ?_
      refine gh_get (v := .int (V 201 5)) (C := RX6) (T := TX6) (N := 6) hx hb hw inlX6 hown hT hP 201 (Nat.le_of_ble_eq_true rfl) kd201 rfl rfl 5 (by decide) (hw _ uw111) rfl dX6_scanLetters_10 ?_
      refine gh_kr (va_runV (As := [.int (V 201 5)]) (rest := []) ⟨hx, hb, hml, hown, hw⟩ (cc_X6_characterAt l G V (V 201 5)) (cwV 1 hw gv_RX6_54 rfl rfl rfl dd_X6_characterAt ⟨Nat.le_of_ble_eq_true rfl, Nat.le_of_ble_eq_true rfl⟩) (gh_preV hT hP (Nat.le_of_ble_eq_true rfl) kd201 rfl rfl) rfl rfl hl.1 rfl (lv_room (Nat.le_of_ble_eq_true rfl)) dX6_scanLetters_13 ⟨Nat.zero_le _, Nat.zero_le _⟩) hS (fun H locs hP hS => ?_)
      refine gh_kr (va_runS (As := [.int (MX6_characterAt (V 201 5) V)]) (rest := []) ⟨hx, hb, hml, hown, hw⟩ (cc_X6_isSmallLetter l G V (MX6_characterAt (V 201 5) V)) (va_cwS 1 hw gv_RX6_58 rfl rfl rfl dd_X6_isSmallLetter.2 ⟨Nat.le_of_ble_eq_true rfl, Nat.le_of_ble_eq_true rfl⟩) (gh_pre hT hP) rfl rfl hl.1 rfl (lv_room (Nat.le_of_ble_eq_true rfl)) dX6_scanLetters_16 ⟨Nat.zero_le _, Nat.zero_le _⟩) hS (fun H locs hP hS => ?_)
      refine lv_if_eq (tgt := 64) hx hb dX6_scanLetters_19 (by decide) (fun c_6 => ?_) (fun c_6 => ?_)
      · have hres := hres.trans (if_pos c_6)
        have hs := hs.1 c_6
        exact b_64 x1 V _ _ _ (lv_sub hl [0, 1] rfl) hP hS hs hres
      have hres := hres.trans (if_neg c_6)
      have hs := hs.2 c_6
      refine lv_aload_n hx hb dX6_scanLetters_22 rfl (lv_at hl 0 rfl) ?_
      refine gh_get (v := .ref (gA G 202)) (C := RX6) (T := TX6) (N := 6) hx hb hw inlX6 hown hT hP 201 (Nat.le_of_ble_eq_true rfl) kd201 rfl rfl 3 (by decide) (hw _ uw108) rfl dX6_scanLetters_23 ?_
      refine lv_aload_n hx hb dX6_scanLetters_26 rfl (lv_at hl 0 rfl) ?_
      refine gh_get (v := .ref (gA G 202)) (C := RX6) (T := TX6) (N := 6) hx hb hw inlX6 hown hT hP 201 (Nat.le_of_ble_eq_true rfl) kd201 rfl rfl 3 (by decide) (hw _ uw108) rfl dX6_scanLetters_27 ?_
      refine gh_get (v := .int (V 202 0)) (C := RX7) (T := TX7) (N := 5) hx hb hw inlX7 hown hT hP 202 (Nat.le_of_ble_eq_true rfl) kd202 rfl rfl 0 (by decide) (hw _ uw768) rfl dX6_scanLetters_30 ?_
      refine lv_iload_n hx hb dX6_scanLetters_33 rfl (lv_at hl 1 rfl) ?_
      refine lv_aload_n hx hb dX6_scanLetters_34 rfl (lv_at hl 0 rfl) ?_
      refine lv_aload_n hx hb dX6_scanLetters_35 rfl (lv_at hl 0 rfl) ?_
      refine gh_get (v := .int (V 201 5)) (C := RX6) (T := TX6) (N := 6) hx hb hw inlX6 hown hT hP 201 (Nat.le_of_ble_eq_true rfl) kd201 rfl rfl 5 (by decide) (hw _ uw111) rfl dX6_scanLetters_36 ?_
      refine gh_kr (va_runV (As := [.int (V 201 5)]) (rest := [.int x1, .int (V 202 0), .ref (gA G 202)]) ⟨hx, hb, hml, hown, hw⟩ (cc_X6_characterAt l G V (V 201 5)) (cwV 1 hw gv_RX6_54 rfl rfl rfl dd_X6_characterAt ⟨Nat.le_of_ble_eq_true rfl, Nat.le_of_ble_eq_true rfl⟩) (gh_preV hT hP (Nat.le_of_ble_eq_true rfl) kd201 rfl rfl) rfl rfl hl.1 rfl (lv_room (Nat.le_of_ble_eq_true rfl)) dX6_scanLetters_39 ⟨Nat.zero_le _, Nat.zero_le _⟩) hS (fun H locs hP hS => ?_)
      refine lv_bipush (v := 97) hx hb dX6_scanLetters_42 (by decide) ?_
      refine lv_isub hx hb dX6_scanLetters_44 ?_
      refine gh_kv (va_runV (As := [.int (V 202 0), .int x1, .int ((MX6_characterAt (V 201 5) V) - (97 : Int32))]) (rest := []) ⟨hx, hb, hml, hown, hw⟩ (cc_X7_putLetter l G V (V 202 0) x1 ((MX6_characterAt (V 201 5) V) - (97 : Int32))) (cwV 3 hw gv_RX6_81 rfl rfl rfl dd_X7_putLetter ⟨Nat.le_of_ble_eq_true rfl, Nat.le_of_ble_eq_true rfl⟩) (gh_preV hT hP (Nat.le_of_ble_eq_true rfl) kd202 rfl rfl) rfl rfl hl.1 rfl (lv_room (Nat.le_of_ble_eq_true rfl)) dX6_scanLetters_45 ⟨Nat.zero_le _, Nat.zero_le _⟩) hS (fun H locs hP hS => ?_)
      exact b_48 x1 (MX7_putLetter (V 202 0) x1 ((MX6_characterAt (V 201 5) V) - (97 : Int32)) V) _ _ _ (lv_sub hl [0, 1] rfl) hP hS hs hres
  refine lv_iconst (v := 0) hx hb dX6_scanLetters_0 (by decide) ?_
  refine lv_istore_n (lv' := [(1, .int (0 : Int32)), (0, .ref (gA G 201))]) hx hb dX6_scanLetters_1 rfl hl (by decide) rfl (fun ls hl => ?_)
  exact b_2 1000 (0 : Int32) V _ _ _ (lv_sub hl [1, 0] rfl) hP hS hs hres
theorem gv_RX6_78 : GoodIn wsL_law (wsV RX6 78 RX7 yX7_areSame wc_X7_areSame) := gh_gV uw808 uw809 uw810 uw31 uw811
def BX6_addWord_2   : Nat → Int32 → Int32 → gV → gV
  | 0, _, _, V => V
  | n + 1, x1, x2, V => if (V 202 0) ≤ x2 then ((gu V 202 0 ((V 202 0) + (1 : Int32)))) else (if (MX7_areSame x2 (V 202 0) V) = 0 then ((BX6_addWord_2 n) x1 (x2 + (1 : Int32)) V) else ((MX6_fail x1 (3 : Int32) V).2))
def PX6_addWord_2   : Nat → Int32 → Int32 → gV → Prop
  | 0, _, _, _ => False
  | n + 1, x1, x2, V => ((¬ (V 202 0) ≤ x2 → (PX7_areSame x2 (V 202 0) V) ∧ (((MX7_areSame x2 (V 202 0) V) = 0 → ((PX6_addWord_2 n) x1 (x2 + (1 : Int32)) V)))))
def MX6_addWord  (a1 : Int32) (V : gV) : gV := BX6_addWord_2 1000 a1 (0 : Int32) V
def PX6_addWord  (a1 : Int32) (V : gV) : Prop := (PX6_addWord_2 1000 a1 (0 : Int32) V)
abbrev wc_X6_addWord : List Cond := Cond.code yX6_addWord cX6_addWord 3 none :: wsL_law
abbrev r_X6_addWord : Room := { frames := 3, cells := 0, slots := 0, locals := 67 }
theorem dd_X6_addWord : yX6_addWord.cls = RX6 ∧ yX6_addWord.cls ≠ "java/lang/invoke/MethodHandle" ∧ yX6_addWord.cls ≠ "java/lang/invoke/VarHandle" ∧ (parseMethodDescriptor yX6_addWord.desc).map (fun d => d.parameters.length) = some 1 := by decide +kernel
set_option maxHeartbeats 8000000 in
set_option maxRecDepth 100000 in
theorem cc_X6_addWord (l : Launch) (G : gG) (V : gV)   (a1 : Int32) (hs : PX6_addWord a1 V) : Met l yX6_addWord wc_X6_addWord r_X6_addWord (va_Pc [.ref (gA G 201), .int a1] (gW G V)) (gQV G (MX6_addWord a1 V)) 0 0 (gF G) := by
  refine Met.ofW (cc := cX6_addWord) (maxL := 3) (ret := none) (by decide) rfl ?_
  intro p e s m args below meth c s₁ B hml hv
  obtain ⟨rfl, hP, hT⟩ := hv
  have hx := B.exec
  have hb := B.bytes
  have hr := B.returns
  have hw := gh_hw (atoms_spec (ws := wc_X6_addWord) B.pre)
  have hown : s.vm.findClass RX6 = some m.cls := findClass_of_methodNamed B.named
  have hlocks := B.notSynchronized
  have hS : va_S (gF G) s.heap s.heap [] := va_S.rf
  have hl := lv_entry ([.ref (gA G 201), .int a1]) (n := 3) (Nat.le_of_ble_eq_true rfl)
  rw [lg_entry_eq]
  generalize (lg_sl ([.ref (gA G 201), .int a1]) ++ List.replicate (3 - (lg_sl ([.ref (gA G 201), .int a1])).length) Slot.unset).toArray = ls at hl ⊢
  have hl : lv_has ls 3 [(0, .ref (gA G 201)), (1, .int a1)] := hl
  obtain ⟨res, hres⟩ : ∃ r, r = MX6_addWord a1 V := ⟨_, rfl⟩
  rw [← hres]
  show W p l e r_X6_addWord s m ([.ref (gA G 201), .int a1] : List Value).toArray below meth c s.heap [] 0 0 (MQ below (gQV G res) ([.ref (gA G 201), .int a1] : List Value).toArray s 0 0 (gF G)) (F0 m 0 ls [])
  have hs : (PX6_addWord_2 1000 a1 (0 : Int32) V) := hs
  have hres : res = (BX6_addWord_2 1000 a1 (0 : Int32) V) := hres
  have b_2 : ∀ (n : Nat) (x1 : Int32) (x2 : Int32) (V : gV) (H : Heap) (locs : List Loc) (ls : Array Slot), lv_has ls 3 [(0, .ref (gA G 201)), (1, .int x1), (2, .int x2)] → va_P (gD G) vwCl (gL G V) H → va_S (gF G) s.heap H locs → PX6_addWord_2  n x1 x2 V → res = BX6_addWord_2  n x1 x2 V → W p l e r_X6_addWord s m ([.ref (gA G 201), .int a1] : List Value).toArray below meth c H locs 0 0 (MQ below (gQV G res) ([.ref (gA G 201), .int a1] : List Value).toArray s 0 0 (gF G)) (F0 m 2 ls []) := by
    intro n
    induction n with
    | zero =>
      intro x1 x2 V H locs ls hl hP hS hs hres
      exact (show False from hs).elim
    | succ n2 ih2 =>
      intro x1 x2 V H locs ls hl hP hS hs hres
      have hs : ((¬ (V 202 0) ≤ x2 → (PX7_areSame x2 (V 202 0) V) ∧ (((MX7_areSame x2 (V 202 0) V) = 0 → ((PX6_addWord_2 n2) x1 (x2 + (1 : Int32)) V))))) := hs
      have hres : res = (if (V 202 0) ≤ x2 then ((gu V 202 0 ((V 202 0) + (1 : Int32)))) else (if (MX7_areSame x2 (V 202 0) V) = 0 then ((BX6_addWord_2 n2) x1 (x2 + (1 : Int32)) V) else ((MX6_fail x1 (3 : Int32) V).2))) := hres
      refine lv_iload_n hx hb dX6_addWord_2 rfl (lv_at hl 2 rfl) ?_
      refine lv_aload_n hx hb dX6_addWord_3 rfl (lv_at hl 0 rfl) ?_
      refine gh_get (v := .ref (gA G 202)) (C := RX6) (T := TX6) (N := 6) hx hb hw inlX6 hown hT hP 201 (Nat.le_of_ble_eq_true rfl) kd201 rfl rfl 3 (by decide) (hw _ uw108) rfl dX6_addWord_4 ?_
      refine gh_get (v := .int (V 202 0)) (C := RX7) (T := TX7) (N := 5) hx hb hw inlX7 hown hT hP 202 (Nat.le_of_ble_eq_true rfl) kd202 rfl rfl 0 (by decide) (hw _ uw768) rfl dX6_addWord_7 ?_
      refine lv_icmp_ge (tgt := 45) hx hb dX6_addWord_10 (by decide) (fun c_1 => ?_) (fun c_1 => ?_)
      · have hres := hres.trans (if_pos c_1)
        refine lv_aload_n hx hb dX6_addWord_45 rfl (lv_at hl 0 rfl) ?_
        refine gh_get (v := .ref (gA G 202)) (C := RX6) (T := TX6) (N := 6) hx hb hw inlX6 hown hT hP 201 (Nat.le_of_ble_eq_true rfl) kd201 rfl rfl 3 (by decide) (hw _ uw108) rfl dX6_addWord_46 ?_
        refine lv_dup hx hb dX6_addWord_49 rfl ?_
        refine gh_get (v := .int (V 202 0)) (C := RX7) (T := TX7) (N := 5) hx hb hw inlX7 hown hT hP 202 (Nat.le_of_ble_eq_true rfl) kd202 rfl rfl 0 (by decide) (hw _ uw768) rfl dX6_addWord_50 ?_
        refine lv_iconst (v := 1) hx hb dX6_addWord_53 (by decide) ?_
        refine lv_iadd hx hb dX6_addWord_54 ?_
        refine gh_put (ty := .int) (x := ((V 202 0) + (1 : Int32))) (C := RX7) (T := TX7) (N := 5) hx hb hw inlX7 tyX7_ok nmX7 hown hT hP hS 202 (Nat.le_of_ble_eq_true rfl) kd202 rfl rfl 0 (by decide) (hw _ uw768) rfl (by decide +kernel) rfl rfl (Nat.le_of_ble_eq_true rfl) rfl dX6_addWord_55 (fun H locs hP hS => ?_)
        exact gh_vret hx hb hr hlocks hP hS hT hres dX6_addWord_58
      have hres := hres.trans (if_neg c_1)
      have hs := hs c_1
      refine lv_aload_n hx hb dX6_addWord_13 rfl (lv_at hl 0 rfl) ?_
      refine gh_get (v := .ref (gA G 202)) (C := RX6) (T := TX6) (N := 6) hx hb hw inlX6 hown hT hP 201 (Nat.le_of_ble_eq_true rfl) kd201 rfl rfl 3 (by decide) (hw _ uw108) rfl dX6_addWord_14 ?_
      refine lv_iload_n hx hb dX6_addWord_17 rfl (lv_at hl 2 rfl) ?_
      refine lv_aload_n hx hb dX6_addWord_18 rfl (lv_at hl 0 rfl) ?_
      refine gh_get (v := .ref (gA G 202)) (C := RX6) (T := TX6) (N := 6) hx hb hw inlX6 hown hT hP 201 (Nat.le_of_ble_eq_true rfl) kd201 rfl rfl 3 (by decide) (hw _ uw108) rfl dX6_addWord_19 ?_
      refine gh_get (v := .int (V 202 0)) (C := RX7) (T := TX7) (N := 5) hx hb hw inlX7 hown hT hP 202 (Nat.le_of_ble_eq_true rfl) kd202 rfl rfl 0 (by decide) (hw _ uw768) rfl dX6_addWord_22 ?_
      obtain ⟨ho_2, hs⟩ := hs
      refine gh_kr (va_runV (As := [.int x2, .int (V 202 0)]) (rest := []) ⟨hx, hb, hml, hown, hw⟩ (cc_X7_areSame l G V x2 (V 202 0) ho_2) (cwV 2 hw gv_RX6_78 rfl rfl rfl dd_X7_areSame ⟨Nat.le_of_ble_eq_true rfl, Nat.le_of_ble_eq_true rfl⟩) (gh_preV hT hP (Nat.le_of_ble_eq_true rfl) kd202 rfl rfl) rfl rfl hl.1 rfl (lv_room (Nat.le_of_ble_eq_true rfl)) dX6_addWord_25 ⟨Nat.zero_le _, Nat.zero_le _⟩) hS (fun H locs hP hS => ?_)
      refine lv_if_eq (tgt := 39) hx hb dX6_addWord_28 (by decide) (fun c_3 => ?_) (fun c_3 => ?_)
      · have hres := hres.trans (if_pos c_3)
        have hs := hs c_3
        refine lv_iinc (v := (x2 + (1 : Int32))) (lv' := [(2, .int (x2 + (1 : Int32))), (0, .ref (gA G 201)), (1, .int x1)]) hx hb dX6_addWord_39 hl (k := 2) rfl rfl (by decide) rfl (fun ls hl => ?_)
        refine lv_goto (tgt := 2) hx hb dX6_addWord_42 (by decide) ?_
        exact ih2 x1 (x2 + (1 : Int32)) V _ _ _ (lv_sub hl [1, 2, 0] rfl) hP hS hs hres
      have hres := hres.trans (if_neg c_3)
      refine lv_aload_n hx hb dX6_addWord_31 rfl (lv_at hl 0 rfl) ?_
      refine lv_iload_n hx hb dX6_addWord_32 rfl (lv_at hl 1 rfl) ?_
      refine lv_iconst (v := 3) hx hb dX6_addWord_33 (by decide) ?_
      refine gh_ki (va_runV (As := [.int x1, .int (3 : Int32)]) (rest := []) ⟨hx, hb, hml, hown, hw⟩ (cc_X6_fail l G V x1 (3 : Int32)) (cwV 2 hw gv_RX6_62 rfl rfl rfl dd_X6_fail ⟨Nat.le_of_ble_eq_true rfl, Nat.le_of_ble_eq_true rfl⟩) (gh_preV hT hP (Nat.le_of_ble_eq_true rfl) kd201 rfl rfl) rfl rfl hl.1 rfl (lv_room (Nat.le_of_ble_eq_true rfl)) dX6_addWord_34 ⟨Nat.zero_le _, Nat.zero_le _⟩) hS (fun H locs hP hS => ?_)
      refine lv_pop hx hb dX6_addWord_37 rfl ?_
      exact gh_vret hx hb hr hlocks hP hS hT hres dX6_addWord_38
  refine lv_iconst (v := 0) hx hb dX6_addWord_0 (by decide) ?_
  refine lv_istore_n (lv' := [(2, .int (0 : Int32)), (0, .ref (gA G 201)), (1, .int a1)]) hx hb dX6_addWord_1 rfl hl (by decide) rfl (fun ls hl => ?_)
  exact b_2 1000 a1 (0 : Int32) V _ _ _ (lv_sub hl [1, 2, 0] rfl) hP hS hs hres
theorem gv_RX6_66 : GoodIn wsL_law (wsV RX6 66 RX6 yX6_scanLetters wc_X6_scanLetters) := gh_gV uw785 uw786 uw787 uw23 uw788
theorem gv_RX6_69 : GoodIn wsL_law (wsV RX6 69 RX6 yX6_scanSign wc_X6_scanSign) := gh_gV uw795 uw796 uw797 uw23 uw798
theorem gv_RX6_72 : GoodIn wsL_law (wsV RX6 72 RX6 yX6_scanWeight wc_X6_scanWeight) := gh_gV uw799 uw800 uw801 uw23 uw802
theorem gv_RX6_75 : GoodIn wsL_law (wsV RX6 75 RX6 yX6_addWord wc_X6_addWord) := gh_gV uw804 uw805 uw806 uw23 uw807
def BX6_scanWord_77   (x1 : Int32) (s0 : Int32) (V : gV) : gV := if s0 = 0 then (V) else ((MX6_addWord x1 V))
def PX6_scanWord_77   (x1 : Int32) (s0 : Int32) (V : gV) : Prop := ((¬ s0 = 0 → (PX6_addWord x1 V)))
def BX6_scanWord_68   (x1 : Int32) (s0 : Int32) (V : gV) : gV := if s0 = 0 then (V) else (BX6_scanWord_77 x1 ((MX6_scanSign (59 : Int32) V).1) ((MX6_scanSign (59 : Int32) V).2))
def PX6_scanWord_68   (x1 : Int32) (s0 : Int32) (V : gV) : Prop := ((¬ s0 = 0 → (PX6_scanSign (59 : Int32) V) ∧ (PX6_scanWord_77 x1 ((MX6_scanSign (59 : Int32) V).1) ((MX6_scanSign (59 : Int32) V).2))))
def BX6_scanWord_61   (x1 : Int32) (s0 : Int32) (V : gV) : gV := if s0 = 0 then (V) else (BX6_scanWord_68 x1 ((MX6_scanWeight V).1) ((MX6_scanWeight V).2))
def PX6_scanWord_61   (x1 : Int32) (s0 : Int32) (V : gV) : Prop := ((¬ s0 = 0 → (PX6_scanWeight V) ∧ (PX6_scanWord_68 x1 ((MX6_scanWeight V).1) ((MX6_scanWeight V).2))))
def BX6_scanWord_52   (x1 : Int32) (s0 : Int32) (V : gV) : gV := if s0 = 0 then (V) else (BX6_scanWord_61 x1 ((MX6_scanSign (42 : Int32) V).1) ((MX6_scanSign (42 : Int32) V).2))
def PX6_scanWord_52   (x1 : Int32) (s0 : Int32) (V : gV) : Prop := ((¬ s0 = 0 → (PX6_scanSign (42 : Int32) V) ∧ (PX6_scanWord_61 x1 ((MX6_scanSign (42 : Int32) V).1) ((MX6_scanSign (42 : Int32) V).2))))
def MX6_scanWord   (V : gV) : gV := if (MX6_isSmallLetter (MX6_characterAt (V 201 5) V) V) = 0 then ((MX6_fail (V 201 5) (1 : Int32) V).2) else (if (V 202 0) < (16 : Int32) then (BX6_scanWord_52 (V 201 5) ((MX6_scanLetters V).1) ((MX6_scanLetters V).2)) else ((MX6_fail (V 201 5) (4 : Int32) V).2))
def PX6_scanWord   (V : gV) : Prop := ((¬ (MX6_isSmallLetter (MX6_characterAt (V 201 5) V) V) = 0 → (((V 202 0) < (16 : Int32) → (PX6_scanLetters V) ∧ (PX6_scanWord_52 (V 201 5) ((MX6_scanLetters V).1) ((MX6_scanLetters V).2))))))
abbrev wc_X6_scanWord : List Cond := Cond.code yX6_scanWord cX6_scanWord 2 none :: wsL_law
abbrev r_X6_scanWord : Room := { frames := 4, cells := 0, slots := 0, locals := 89 }
theorem dd_X6_scanWord : yX6_scanWord.cls = RX6 ∧ yX6_scanWord.cls ≠ "java/lang/invoke/MethodHandle" ∧ yX6_scanWord.cls ≠ "java/lang/invoke/VarHandle" ∧ (parseMethodDescriptor yX6_scanWord.desc).map (fun d => d.parameters.length) = some 0 := by decide +kernel
set_option maxHeartbeats 8000000 in
set_option maxRecDepth 100000 in
theorem cc_X6_scanWord (l : Launch) (G : gG) (V : gV)    (hs : PX6_scanWord V) : Met l yX6_scanWord wc_X6_scanWord r_X6_scanWord (va_Pc [.ref (gA G 201)] (gW G V)) (gQV G (MX6_scanWord V)) 0 0 (gF G) := by
  refine Met.ofW (cc := cX6_scanWord) (maxL := 2) (ret := none) (by decide) rfl ?_
  intro p e s m args below meth c s₁ B hml hv
  obtain ⟨rfl, hP, hT⟩ := hv
  have hx := B.exec
  have hb := B.bytes
  have hr := B.returns
  have hw := gh_hw (atoms_spec (ws := wc_X6_scanWord) B.pre)
  have hown : s.vm.findClass RX6 = some m.cls := findClass_of_methodNamed B.named
  have hlocks := B.notSynchronized
  have hS : va_S (gF G) s.heap s.heap [] := va_S.rf
  have hl := lv_entry ([.ref (gA G 201)]) (n := 2) (Nat.le_of_ble_eq_true rfl)
  rw [lg_entry_eq]
  generalize (lg_sl ([.ref (gA G 201)]) ++ List.replicate (2 - (lg_sl ([.ref (gA G 201)])).length) Slot.unset).toArray = ls at hl ⊢
  have hl : lv_has ls 2 [(0, .ref (gA G 201))] := hl
  obtain ⟨res, hres⟩ : ∃ r, r = MX6_scanWord V := ⟨_, rfl⟩
  rw [← hres]
  show W p l e r_X6_scanWord s m ([.ref (gA G 201)] : List Value).toArray below meth c s.heap [] 0 0 (MQ below (gQV G res) ([.ref (gA G 201)] : List Value).toArray s 0 0 (gF G)) (F0 m 0 ls [])
  have hs : ((¬ (MX6_isSmallLetter (MX6_characterAt (V 201 5) V) V) = 0 → (((V 202 0) < (16 : Int32) → (PX6_scanLetters V) ∧ (PX6_scanWord_52 (V 201 5) ((MX6_scanLetters V).1) ((MX6_scanLetters V).2)))))) := hs
  have hres : res = (if (MX6_isSmallLetter (MX6_characterAt (V 201 5) V) V) = 0 then ((MX6_fail (V 201 5) (1 : Int32) V).2) else (if (V 202 0) < (16 : Int32) then (BX6_scanWord_52 (V 201 5) ((MX6_scanLetters V).1) ((MX6_scanLetters V).2)) else ((MX6_fail (V 201 5) (4 : Int32) V).2))) := hres
  have b_77 : ∀ (x1 : Int32) (s0 : Int32) (V : gV) (H : Heap) (locs : List Loc) (ls : Array Slot), lv_has ls 2 [(0, .ref (gA G 201)), (1, .int x1)] → va_P (gD G) vwCl (gL G V) H → va_S (gF G) s.heap H locs → PX6_scanWord_77  x1 s0 V → res = BX6_scanWord_77  x1 s0 V → W p l e r_X6_scanWord s m ([.ref (gA G 201)] : List Value).toArray below meth c H locs 0 0 (MQ below (gQV G res) ([.ref (gA G 201)] : List Value).toArray s 0 0 (gF G)) (F0 m 77 ls [.int s0]) := by
    intro x1 s0 V H locs ls hl hP hS hs hres
    have hs : ((¬ s0 = 0 → (PX6_addWord x1 V))) := hs
    have hres : res = (if s0 = 0 then (V) else ((MX6_addWord x1 V))) := hres
    refine lv_if_eq (tgt := 85) hx hb dX6_scanWord_77 (by decide) (fun c_10 => ?_) (fun c_10 => ?_)
    · have hres := hres.trans (if_pos c_10)
      exact gh_vret hx hb hr hlocks hP hS hT hres dX6_scanWord_85
    have hres := hres.trans (if_neg c_10)
    have hs := hs c_10
    refine lv_aload_n hx hb dX6_scanWord_80 rfl (lv_at hl 0 rfl) ?_
    refine lv_iload_n hx hb dX6_scanWord_81 rfl (lv_at hl 1 rfl) ?_
    have ho_11 := hs
    refine gh_kv (va_runV (As := [.int x1]) (rest := []) ⟨hx, hb, hml, hown, hw⟩ (cc_X6_addWord l G V x1 ho_11) (cwV 1 hw gv_RX6_75 rfl rfl rfl dd_X6_addWord ⟨Nat.le_of_ble_eq_true rfl, Nat.le_of_ble_eq_true rfl⟩) (gh_preV hT hP (Nat.le_of_ble_eq_true rfl) kd201 rfl rfl) rfl rfl hl.1 rfl (lv_room (Nat.le_of_ble_eq_true rfl)) dX6_scanWord_82 ⟨Nat.zero_le _, Nat.zero_le _⟩) hS (fun H locs hP hS => ?_)
    exact gh_vret hx hb hr hlocks hP hS hT hres dX6_scanWord_85
  have b_68 : ∀ (x1 : Int32) (s0 : Int32) (V : gV) (H : Heap) (locs : List Loc) (ls : Array Slot), lv_has ls 2 [(0, .ref (gA G 201)), (1, .int x1)] → va_P (gD G) vwCl (gL G V) H → va_S (gF G) s.heap H locs → PX6_scanWord_68  x1 s0 V → res = BX6_scanWord_68  x1 s0 V → W p l e r_X6_scanWord s m ([.ref (gA G 201)] : List Value).toArray below meth c H locs 0 0 (MQ below (gQV G res) ([.ref (gA G 201)] : List Value).toArray s 0 0 (gF G)) (F0 m 68 ls [.int s0]) := by
    intro x1 s0 V H locs ls hl hP hS hs hres
    have hs : ((¬ s0 = 0 → (PX6_scanSign (59 : Int32) V) ∧ (PX6_scanWord_77 x1 ((MX6_scanSign (59 : Int32) V).1) ((MX6_scanSign (59 : Int32) V).2)))) := hs
    have hres : res = (if s0 = 0 then (V) else (BX6_scanWord_77 x1 ((MX6_scanSign (59 : Int32) V).1) ((MX6_scanSign (59 : Int32) V).2))) := hres
    refine lv_if_eq (tgt := 85) hx hb dX6_scanWord_68 (by decide) (fun c_8 => ?_) (fun c_8 => ?_)
    · have hres := hres.trans (if_pos c_8)
      exact gh_vret hx hb hr hlocks hP hS hT hres dX6_scanWord_85
    have hres := hres.trans (if_neg c_8)
    have hs := hs c_8
    refine lv_aload_n hx hb dX6_scanWord_71 rfl (lv_at hl 0 rfl) ?_
    refine lv_bipush (v := 59) hx hb dX6_scanWord_72 (by decide) ?_
    obtain ⟨ho_9, hs⟩ := hs
    refine gh_ki (va_runV (As := [.int (59 : Int32)]) (rest := []) ⟨hx, hb, hml, hown, hw⟩ (cc_X6_scanSign l G V (59 : Int32) ho_9) (cwV 1 hw gv_RX6_69 rfl rfl rfl dd_X6_scanSign ⟨Nat.le_of_ble_eq_true rfl, Nat.le_of_ble_eq_true rfl⟩) (gh_preV hT hP (Nat.le_of_ble_eq_true rfl) kd201 rfl rfl) rfl rfl hl.1 rfl (lv_room (Nat.le_of_ble_eq_true rfl)) dX6_scanWord_74 ⟨Nat.zero_le _, Nat.zero_le _⟩) hS (fun H locs hP hS => ?_)
    exact b_77 x1 ((MX6_scanSign (59 : Int32) V).1) ((MX6_scanSign (59 : Int32) V).2) _ _ _ (lv_sub hl [0, 1] rfl) hP hS hs hres
  have b_61 : ∀ (x1 : Int32) (s0 : Int32) (V : gV) (H : Heap) (locs : List Loc) (ls : Array Slot), lv_has ls 2 [(0, .ref (gA G 201)), (1, .int x1)] → va_P (gD G) vwCl (gL G V) H → va_S (gF G) s.heap H locs → PX6_scanWord_61  x1 s0 V → res = BX6_scanWord_61  x1 s0 V → W p l e r_X6_scanWord s m ([.ref (gA G 201)] : List Value).toArray below meth c H locs 0 0 (MQ below (gQV G res) ([.ref (gA G 201)] : List Value).toArray s 0 0 (gF G)) (F0 m 61 ls [.int s0]) := by
    intro x1 s0 V H locs ls hl hP hS hs hres
    have hs : ((¬ s0 = 0 → (PX6_scanWeight V) ∧ (PX6_scanWord_68 x1 ((MX6_scanWeight V).1) ((MX6_scanWeight V).2)))) := hs
    have hres : res = (if s0 = 0 then (V) else (BX6_scanWord_68 x1 ((MX6_scanWeight V).1) ((MX6_scanWeight V).2))) := hres
    refine lv_if_eq (tgt := 85) hx hb dX6_scanWord_61 (by decide) (fun c_6 => ?_) (fun c_6 => ?_)
    · have hres := hres.trans (if_pos c_6)
      exact gh_vret hx hb hr hlocks hP hS hT hres dX6_scanWord_85
    have hres := hres.trans (if_neg c_6)
    have hs := hs c_6
    refine lv_aload_n hx hb dX6_scanWord_64 rfl (lv_at hl 0 rfl) ?_
    obtain ⟨ho_7, hs⟩ := hs
    refine gh_ki (va_runV (As := []) (rest := []) ⟨hx, hb, hml, hown, hw⟩ (cc_X6_scanWeight l G V ho_7) (cwV 0 hw gv_RX6_72 rfl rfl rfl dd_X6_scanWeight ⟨Nat.le_of_ble_eq_true rfl, Nat.le_of_ble_eq_true rfl⟩) (gh_preV hT hP (Nat.le_of_ble_eq_true rfl) kd201 rfl rfl) rfl rfl hl.1 rfl (lv_room (Nat.le_of_ble_eq_true rfl)) dX6_scanWord_65 ⟨Nat.zero_le _, Nat.zero_le _⟩) hS (fun H locs hP hS => ?_)
    exact b_68 x1 ((MX6_scanWeight V).1) ((MX6_scanWeight V).2) _ _ _ (lv_sub hl [0, 1] rfl) hP hS hs hres
  have b_52 : ∀ (x1 : Int32) (s0 : Int32) (V : gV) (H : Heap) (locs : List Loc) (ls : Array Slot), lv_has ls 2 [(0, .ref (gA G 201)), (1, .int x1)] → va_P (gD G) vwCl (gL G V) H → va_S (gF G) s.heap H locs → PX6_scanWord_52  x1 s0 V → res = BX6_scanWord_52  x1 s0 V → W p l e r_X6_scanWord s m ([.ref (gA G 201)] : List Value).toArray below meth c H locs 0 0 (MQ below (gQV G res) ([.ref (gA G 201)] : List Value).toArray s 0 0 (gF G)) (F0 m 52 ls [.int s0]) := by
    intro x1 s0 V H locs ls hl hP hS hs hres
    have hs : ((¬ s0 = 0 → (PX6_scanSign (42 : Int32) V) ∧ (PX6_scanWord_61 x1 ((MX6_scanSign (42 : Int32) V).1) ((MX6_scanSign (42 : Int32) V).2)))) := hs
    have hres : res = (if s0 = 0 then (V) else (BX6_scanWord_61 x1 ((MX6_scanSign (42 : Int32) V).1) ((MX6_scanSign (42 : Int32) V).2))) := hres
    refine lv_if_eq (tgt := 85) hx hb dX6_scanWord_52 (by decide) (fun c_4 => ?_) (fun c_4 => ?_)
    · have hres := hres.trans (if_pos c_4)
      exact gh_vret hx hb hr hlocks hP hS hT hres dX6_scanWord_85
    have hres := hres.trans (if_neg c_4)
    have hs := hs c_4
    refine lv_aload_n hx hb dX6_scanWord_55 rfl (lv_at hl 0 rfl) ?_
    refine lv_bipush (v := 42) hx hb dX6_scanWord_56 (by decide) ?_
    obtain ⟨ho_5, hs⟩ := hs
    refine gh_ki (va_runV (As := [.int (42 : Int32)]) (rest := []) ⟨hx, hb, hml, hown, hw⟩ (cc_X6_scanSign l G V (42 : Int32) ho_5) (cwV 1 hw gv_RX6_69 rfl rfl rfl dd_X6_scanSign ⟨Nat.le_of_ble_eq_true rfl, Nat.le_of_ble_eq_true rfl⟩) (gh_preV hT hP (Nat.le_of_ble_eq_true rfl) kd201 rfl rfl) rfl rfl hl.1 rfl (lv_room (Nat.le_of_ble_eq_true rfl)) dX6_scanWord_58 ⟨Nat.zero_le _, Nat.zero_le _⟩) hS (fun H locs hP hS => ?_)
    exact b_61 x1 ((MX6_scanSign (42 : Int32) V).1) ((MX6_scanSign (42 : Int32) V).2) _ _ _ (lv_sub hl [0, 1] rfl) hP hS hs hres
  refine lv_aload_n hx hb dX6_scanWord_0 rfl (lv_at hl 0 rfl) ?_
  refine gh_get (v := .int (V 201 5)) (C := RX6) (T := TX6) (N := 6) hx hb hw inlX6 hown hT hP 201 (Nat.le_of_ble_eq_true rfl) kd201 rfl rfl 5 (by decide) (hw _ uw111) rfl dX6_scanWord_1 ?_
  refine lv_istore_n (lv' := [(1, .int (V 201 5)), (0, .ref (gA G 201))]) hx hb dX6_scanWord_4 rfl hl (by decide) rfl (fun ls hl => ?_)
  refine lv_aload_n hx hb dX6_scanWord_5 rfl (lv_at hl 1 rfl) ?_
  refine lv_iload_n hx hb dX6_scanWord_6 rfl (lv_at hl 0 rfl) ?_
  refine gh_kr (va_runV (As := [.int (V 201 5)]) (rest := []) ⟨hx, hb, hml, hown, hw⟩ (cc_X6_characterAt l G V (V 201 5)) (cwV 1 hw gv_RX6_54 rfl rfl rfl dd_X6_characterAt ⟨Nat.le_of_ble_eq_true rfl, Nat.le_of_ble_eq_true rfl⟩) (gh_preV hT hP (Nat.le_of_ble_eq_true rfl) kd201 rfl rfl) rfl rfl hl.1 rfl (lv_room (Nat.le_of_ble_eq_true rfl)) dX6_scanWord_7 ⟨Nat.zero_le _, Nat.zero_le _⟩) hS (fun H locs hP hS => ?_)
  refine gh_kr (va_runS (As := [.int (MX6_characterAt (V 201 5) V)]) (rest := []) ⟨hx, hb, hml, hown, hw⟩ (cc_X6_isSmallLetter l G V (MX6_characterAt (V 201 5) V)) (va_cwS 1 hw gv_RX6_58 rfl rfl rfl dd_X6_isSmallLetter.2 ⟨Nat.le_of_ble_eq_true rfl, Nat.le_of_ble_eq_true rfl⟩) (gh_pre hT hP) rfl rfl hl.1 rfl (lv_room (Nat.le_of_ble_eq_true rfl)) dX6_scanWord_10 ⟨Nat.zero_le _, Nat.zero_le _⟩) hS (fun H locs hP hS => ?_)
  refine lv_if_ne (tgt := 26) hx hb dX6_scanWord_13 (by decide) (fun c_1 => ?_) (fun c_1 => ?_)
  · have hres := hres.trans (if_neg c_1)
    have hs := hs c_1
    refine lv_aload_n hx hb dX6_scanWord_26 rfl (lv_at hl 1 rfl) ?_
    refine gh_get (v := .ref (gA G 202)) (C := RX6) (T := TX6) (N := 6) hx hb hw inlX6 hown hT hP 201 (Nat.le_of_ble_eq_true rfl) kd201 rfl rfl 3 (by decide) (hw _ uw108) rfl dX6_scanWord_27 ?_
    refine gh_get (v := .int (V 202 0)) (C := RX7) (T := TX7) (N := 5) hx hb hw inlX7 hown hT hP 202 (Nat.le_of_ble_eq_true rfl) kd202 rfl rfl 0 (by decide) (hw _ uw768) rfl dX6_scanWord_30 ?_
    refine lv_bipush (v := 16) hx hb dX6_scanWord_33 (by decide) ?_
    refine lv_icmp_lt (tgt := 48) hx hb dX6_scanWord_35 (by decide) (fun c_2 => ?_) (fun c_2 => ?_)
    · have hres := hres.trans (if_pos c_2)
      have hs := hs c_2
      refine lv_aload_n hx hb dX6_scanWord_48 rfl (lv_at hl 1 rfl) ?_
      obtain ⟨ho_3, hs⟩ := hs
      refine gh_ki (va_runV (As := []) (rest := []) ⟨hx, hb, hml, hown, hw⟩ (cc_X6_scanLetters l G V ho_3) (cwV 0 hw gv_RX6_66 rfl rfl rfl dd_X6_scanLetters ⟨Nat.le_of_ble_eq_true rfl, Nat.le_of_ble_eq_true rfl⟩) (gh_preV hT hP (Nat.le_of_ble_eq_true rfl) kd201 rfl rfl) rfl rfl hl.1 rfl (lv_room (Nat.le_of_ble_eq_true rfl)) dX6_scanWord_49 ⟨Nat.zero_le _, Nat.zero_le _⟩) hS (fun H locs hP hS => ?_)
      exact b_52 (V 201 5) ((MX6_scanLetters V).1) ((MX6_scanLetters V).2) _ _ _ (lv_sub hl [1, 0] rfl) hP hS hs hres
    have hres := hres.trans (if_neg c_2)
    refine lv_aload_n hx hb dX6_scanWord_38 rfl (lv_at hl 1 rfl) ?_
    refine lv_iload_n hx hb dX6_scanWord_39 rfl (lv_at hl 0 rfl) ?_
    refine lv_iconst (v := 4) hx hb dX6_scanWord_40 (by decide) ?_
    refine gh_ki (va_runV (As := [.int (V 201 5), .int (4 : Int32)]) (rest := []) ⟨hx, hb, hml, hown, hw⟩ (cc_X6_fail l G V (V 201 5) (4 : Int32)) (cwV 2 hw gv_RX6_62 rfl rfl rfl dd_X6_fail ⟨Nat.le_of_ble_eq_true rfl, Nat.le_of_ble_eq_true rfl⟩) (gh_preV hT hP (Nat.le_of_ble_eq_true rfl) kd201 rfl rfl) rfl rfl hl.1 rfl (lv_room (Nat.le_of_ble_eq_true rfl)) dX6_scanWord_41 ⟨Nat.zero_le _, Nat.zero_le _⟩) hS (fun H locs hP hS => ?_)
    refine lv_pop hx hb dX6_scanWord_44 rfl ?_
    refine lv_goto (tgt := 85) hx hb dX6_scanWord_45 (by decide) ?_
    exact gh_vret hx hb hr hlocks hP hS hT hres dX6_scanWord_85
  have hres := hres.trans (if_pos c_1)
  refine lv_aload_n hx hb dX6_scanWord_16 rfl (lv_at hl 1 rfl) ?_
  refine lv_iload_n hx hb dX6_scanWord_17 rfl (lv_at hl 0 rfl) ?_
  refine lv_iconst (v := 1) hx hb dX6_scanWord_18 (by decide) ?_
  refine gh_ki (va_runV (As := [.int (V 201 5), .int (1 : Int32)]) (rest := []) ⟨hx, hb, hml, hown, hw⟩ (cc_X6_fail l G V (V 201 5) (1 : Int32)) (cwV 2 hw gv_RX6_62 rfl rfl rfl dd_X6_fail ⟨Nat.le_of_ble_eq_true rfl, Nat.le_of_ble_eq_true rfl⟩) (gh_preV hT hP (Nat.le_of_ble_eq_true rfl) kd201 rfl rfl) rfl rfl hl.1 rfl (lv_room (Nat.le_of_ble_eq_true rfl)) dX6_scanWord_19 ⟨Nat.zero_le _, Nat.zero_le _⟩) hS (fun H locs hP hS => ?_)
  refine lv_pop hx hb dX6_scanWord_22 rfl ?_
  refine lv_goto (tgt := 85) hx hb dX6_scanWord_23 (by decide) ?_
  exact gh_vret hx hb hr hlocks hP hS hT hres dX6_scanWord_85
theorem gv_RX6_47 : GoodIn wsL_law (wsV RX6 47 RX6 yX6_scanWord wc_X6_scanWord) := gh_gV uw769 uw770 uw771 uw23 uw772
theorem gv_RX6_50 : GoodIn wsL_law (wsV RX6 50 RX6 yX6_hasFault wc_X6_hasFault) := gh_gV uw812 uw813 uw814 uw23 uw815
def BX6_scan_52  (K24 : Int32 → gV → gV) (x1 : Int32) (V : gV) : gV := K24 (x1 + (1 : Int32)) V
def PX6_scan_52  (KP24 : Int32 → gV → Prop) (x1 : Int32) (V : gV) : Prop := (KP24 (x1 + (1 : Int32)) V)
def BX6_scan_24   : Nat → Int32 → gV → gV
  | 0, _, V => V
  | n + 1, x1, V => if (16 : Int32) < x1 then (V) else (if (V 201 0) ≤ (V 201 5) then (V) else (if (MX6_hasFault V) = 0 then (BX6_scan_52 (BX6_scan_24 n) x1 (MX6_scanWord V)) else (V)))
def PX6_scan_24   : Nat → Int32 → gV → Prop
  | 0, _, _ => False
  | n + 1, x1, V => ((¬ (16 : Int32) < x1 → ((¬ (V 201 0) ≤ (V 201 5) → (((MX6_hasFault V) = 0 → (PX6_scanWord V) ∧ (PX6_scan_52 (PX6_scan_24 n) x1 (MX6_scanWord V))))))))
def BX6_scan_22    (V : gV) : gV := BX6_scan_24 1000 (1 : Int32) V
def PX6_scan_22    (V : gV) : Prop := (PX6_scan_24 1000 (1 : Int32) V)
def BX6_scan_18    (V : gV) : gV := BX6_scan_22 (MX6_scanWord V)
def PX6_scan_18    (V : gV) : Prop := (PX6_scanWord V) ∧ (PX6_scan_22 (MX6_scanWord V))
def BX6_scan_13    (V : gV) : gV := BX6_scan_18 (gu V 201 2 (0 : Int32))
def PX6_scan_13    (V : gV) : Prop := (PX6_scan_18 (gu V 201 2 (0 : Int32)))
def BX6_scan_8    (V : gV) : gV := BX6_scan_13 (gu V 201 5 (0 : Int32))
def PX6_scan_8    (V : gV) : Prop := (PX6_scan_13 (gu V 201 5 (0 : Int32)))
def MX6_scan   (V : gV) : gV := BX6_scan_8 (gu V 202 0 (0 : Int32))
def PX6_scan   (V : gV) : Prop := (PX6_scan_8 (gu V 202 0 (0 : Int32)))
abbrev wc_X6_scan : List Cond := Cond.code yX6_scan cX6_scan 2 none :: wsL_law
abbrev r_X6_scan : Room := { frames := 5, cells := 0, slots := 0, locals := 110 }
theorem dd_X6_scan : yX6_scan.cls = RX6 ∧ yX6_scan.cls ≠ "java/lang/invoke/MethodHandle" ∧ yX6_scan.cls ≠ "java/lang/invoke/VarHandle" ∧ (parseMethodDescriptor yX6_scan.desc).map (fun d => d.parameters.length) = some 0 := by decide +kernel
set_option maxHeartbeats 8000000 in
set_option maxRecDepth 100000 in
theorem cc_X6_scan (l : Launch) (G : gG) (V : gV)    (hs : PX6_scan V) : Met l yX6_scan wc_X6_scan r_X6_scan (va_Pc [.ref (gA G 201)] (gW G V)) (gQV G (MX6_scan V)) 0 0 (gF G) := by
  refine Met.ofW (cc := cX6_scan) (maxL := 2) (ret := none) (by decide) rfl ?_
  intro p e s m args below meth c s₁ B hml hv
  obtain ⟨rfl, hP, hT⟩ := hv
  have hx := B.exec
  have hb := B.bytes
  have hr := B.returns
  have hw := gh_hw (atoms_spec (ws := wc_X6_scan) B.pre)
  have hown : s.vm.findClass RX6 = some m.cls := findClass_of_methodNamed B.named
  have hlocks := B.notSynchronized
  have hS : va_S (gF G) s.heap s.heap [] := va_S.rf
  have hl := lv_entry ([.ref (gA G 201)]) (n := 2) (Nat.le_of_ble_eq_true rfl)
  rw [lg_entry_eq]
  generalize (lg_sl ([.ref (gA G 201)]) ++ List.replicate (2 - (lg_sl ([.ref (gA G 201)])).length) Slot.unset).toArray = ls at hl ⊢
  have hl : lv_has ls 2 [(0, .ref (gA G 201))] := hl
  obtain ⟨res, hres⟩ : ∃ r, r = MX6_scan V := ⟨_, rfl⟩
  rw [← hres]
  show W p l e r_X6_scan s m ([.ref (gA G 201)] : List Value).toArray below meth c s.heap [] 0 0 (MQ below (gQV G res) ([.ref (gA G 201)] : List Value).toArray s 0 0 (gF G)) (F0 m 0 ls [])
  have hs : (PX6_scan_8 (gu V 202 0 (0 : Int32))) := hs
  have hres : res = (BX6_scan_8 (gu V 202 0 (0 : Int32))) := hres
  have b_24 : ∀ (n : Nat) (x1 : Int32) (V : gV) (H : Heap) (locs : List Loc) (ls : Array Slot), lv_has ls 2 [(0, .ref (gA G 201)), (1, .int x1)] → va_P (gD G) vwCl (gL G V) H → va_S (gF G) s.heap H locs → PX6_scan_24  n x1 V → res = BX6_scan_24  n x1 V → W p l e r_X6_scan s m ([.ref (gA G 201)] : List Value).toArray below meth c H locs 0 0 (MQ below (gQV G res) ([.ref (gA G 201)] : List Value).toArray s 0 0 (gF G)) (F0 m 24 ls []) := by
    intro n
    induction n with
    | zero =>
      intro x1 V H locs ls hl hP hS hs hres
      exact (show False from hs).elim
    | succ n24 ih24 =>
      have b_52 : ∀ (x1 : Int32) (V : gV) (H : Heap) (locs : List Loc) (ls : Array Slot), lv_has ls 2 [(0, .ref (gA G 201)), (1, .int x1)] → va_P (gD G) vwCl (gL G V) H → va_S (gF G) s.heap H locs → PX6_scan_52 (PX6_scan_24 n24) x1 V → res = BX6_scan_52 (BX6_scan_24 n24) x1 V → W p l e r_X6_scan s m ([.ref (gA G 201)] : List Value).toArray below meth c H locs 0 0 (MQ below (gQV G res) ([.ref (gA G 201)] : List Value).toArray s 0 0 (gF G)) (F0 m 52 ls []) := by
        intro x1 V H locs ls hl hP hS hs hres
        have hs : ((PX6_scan_24 n24) (x1 + (1 : Int32)) V) := hs
        have hres : res = ((BX6_scan_24 n24) (x1 + (1 : Int32)) V) := hres
        refine lv_iinc (v := (x1 + (1 : Int32))) (lv' := [(1, .int (x1 + (1 : Int32))), (0, .ref (gA G 201))]) hx hb dX6_scan_52 hl (k := 1) rfl rfl (by decide) rfl (fun ls hl => ?_)
        refine lv_goto (tgt := 24) hx hb dX6_scan_55 (by decide) ?_
        exact ih24 (x1 + (1 : Int32)) V _ _ _ (lv_sub hl [1, 0] rfl) hP hS hs hres
      intro x1 V H locs ls hl hP hS hs hres
      have hs : ((¬ (16 : Int32) < x1 → ((¬ (V 201 0) ≤ (V 201 5) → (((MX6_hasFault V) = 0 → (PX6_scanWord V) ∧ (PX6_scan_52 (PX6_scan_24 n24) x1 (MX6_scanWord V)))))))) := hs
      have hres : res = (if (16 : Int32) < x1 then (V) else (if (V 201 0) ≤ (V 201 5) then (V) else (if (MX6_hasFault V) = 0 then (BX6_scan_52 (BX6_scan_24 n24) x1 (MX6_scanWord V)) else (V)))) := hres
      refine lv_iload_n hx hb dX6_scan_24 rfl (lv_at hl 1 rfl) ?_
      refine lv_bipush (v := 16) hx hb dX6_scan_25 (by decide) ?_
      refine lv_icmp_gt (tgt := 58) hx hb dX6_scan_27 (by decide) (fun c_2 => ?_) (fun c_2 => ?_)
      · have hres := hres.trans (if_pos c_2)
        exact gh_vret hx hb hr hlocks hP hS hT hres dX6_scan_58
      have hres := hres.trans (if_neg c_2)
      have hs := hs c_2
      refine lv_aload_n hx hb dX6_scan_30 rfl (lv_at hl 0 rfl) ?_
      refine gh_get (v := .int (V 201 5)) (C := RX6) (T := TX6) (N := 6) hx hb hw inlX6 hown hT hP 201 (Nat.le_of_ble_eq_true rfl) kd201 rfl rfl 5 (by decide) (hw _ uw111) rfl dX6_scan_31 ?_
      refine lv_aload_n hx hb dX6_scan_34 rfl (lv_at hl 0 rfl) ?_
      refine gh_get (v := .int (V 201 0)) (C := RX6) (T := TX6) (N := 6) hx hb hw inlX6 hown hT hP 201 (Nat.le_of_ble_eq_true rfl) kd201 rfl rfl 0 (by decide) (hw _ uw104) rfl dX6_scan_35 ?_
      refine lv_icmp_ge (tgt := 58) hx hb dX6_scan_38 (by decide) (fun c_3 => ?_) (fun c_3 => ?_)
      · have hres := hres.trans (if_pos c_3)
        exact gh_vret hx hb hr hlocks hP hS hT hres dX6_scan_58
      have hres := hres.trans (if_neg c_3)
      have hs := hs c_3
      refine lv_aload_n hx hb dX6_scan_41 rfl (lv_at hl 0 rfl) ?_
      refine gh_kr (va_runV (As := []) (rest := []) ⟨hx, hb, hml, hown, hw⟩ (cc_X6_hasFault l G V) (cwV 0 hw gv_RX6_50 rfl rfl rfl dd_X6_hasFault ⟨Nat.le_of_ble_eq_true rfl, Nat.le_of_ble_eq_true rfl⟩) (gh_preV hT hP (Nat.le_of_ble_eq_true rfl) kd201 rfl rfl) rfl rfl hl.1 rfl (lv_room (Nat.le_of_ble_eq_true rfl)) dX6_scan_42 ⟨Nat.zero_le _, Nat.zero_le _⟩) hS (fun H locs hP hS => ?_)
      refine lv_if_ne (tgt := 58) hx hb dX6_scan_45 (by decide) (fun c_4 => ?_) (fun c_4 => ?_)
      · have hres := hres.trans (if_neg c_4)
        exact gh_vret hx hb hr hlocks hP hS hT hres dX6_scan_58
      have hres := hres.trans (if_pos c_4)
      have hs := hs c_4
      refine lv_aload_n hx hb dX6_scan_48 rfl (lv_at hl 0 rfl) ?_
      obtain ⟨ho_5, hs⟩ := hs
      refine gh_kv (va_runV (As := []) (rest := []) ⟨hx, hb, hml, hown, hw⟩ (cc_X6_scanWord l G V ho_5) (cwV 0 hw gv_RX6_47 rfl rfl rfl dd_X6_scanWord ⟨Nat.le_of_ble_eq_true rfl, Nat.le_of_ble_eq_true rfl⟩) (gh_preV hT hP (Nat.le_of_ble_eq_true rfl) kd201 rfl rfl) rfl rfl hl.1 rfl (lv_room (Nat.le_of_ble_eq_true rfl)) dX6_scan_49 ⟨Nat.zero_le _, Nat.zero_le _⟩) hS (fun H locs hP hS => ?_)
      exact b_52 x1 (MX6_scanWord V) _ _ _ (lv_sub hl [0, 1] rfl) hP hS hs hres
  have b_22 : ∀  (V : gV) (H : Heap) (locs : List Loc) (ls : Array Slot), lv_has ls 2 [(0, .ref (gA G 201))] → va_P (gD G) vwCl (gL G V) H → va_S (gF G) s.heap H locs → PX6_scan_22   V → res = BX6_scan_22   V → W p l e r_X6_scan s m ([.ref (gA G 201)] : List Value).toArray below meth c H locs 0 0 (MQ below (gQV G res) ([.ref (gA G 201)] : List Value).toArray s 0 0 (gF G)) (F0 m 22 ls []) := by
    intro  V H locs ls hl hP hS hs hres
    have hs : (PX6_scan_24 1000 (1 : Int32) V) := hs
    have hres : res = (BX6_scan_24 1000 (1 : Int32) V) := hres
    refine lv_iconst (v := 1) hx hb dX6_scan_22 (by decide) ?_
    refine lv_istore_n (lv' := [(1, .int (1 : Int32)), (0, .ref (gA G 201))]) hx hb dX6_scan_23 rfl hl (by decide) rfl (fun ls hl => ?_)
    exact b_24 1000 (1 : Int32) V _ _ _ (lv_sub hl [1, 0] rfl) hP hS hs hres
  have b_18 : ∀  (V : gV) (H : Heap) (locs : List Loc) (ls : Array Slot), lv_has ls 2 [(0, .ref (gA G 201))] → va_P (gD G) vwCl (gL G V) H → va_S (gF G) s.heap H locs → PX6_scan_18   V → res = BX6_scan_18   V → W p l e r_X6_scan s m ([.ref (gA G 201)] : List Value).toArray below meth c H locs 0 0 (MQ below (gQV G res) ([.ref (gA G 201)] : List Value).toArray s 0 0 (gF G)) (F0 m 18 ls []) := by
    intro  V H locs ls hl hP hS hs hres
    have hs : (PX6_scanWord V) ∧ (PX6_scan_22 (MX6_scanWord V)) := hs
    have hres : res = (BX6_scan_22 (MX6_scanWord V)) := hres
    refine lv_aload_n hx hb dX6_scan_18 rfl (lv_at hl 0 rfl) ?_
    obtain ⟨ho_1, hs⟩ := hs
    refine gh_kv (va_runV (As := []) (rest := []) ⟨hx, hb, hml, hown, hw⟩ (cc_X6_scanWord l G V ho_1) (cwV 0 hw gv_RX6_47 rfl rfl rfl dd_X6_scanWord ⟨Nat.le_of_ble_eq_true rfl, Nat.le_of_ble_eq_true rfl⟩) (gh_preV hT hP (Nat.le_of_ble_eq_true rfl) kd201 rfl rfl) rfl rfl hl.1 rfl (lv_room (Nat.le_of_ble_eq_true rfl)) dX6_scan_19 ⟨Nat.zero_le _, Nat.zero_le _⟩) hS (fun H locs hP hS => ?_)
    exact b_22 (MX6_scanWord V) _ _ _ (lv_sub hl [0] rfl) hP hS hs hres
  have b_13 : ∀  (V : gV) (H : Heap) (locs : List Loc) (ls : Array Slot), lv_has ls 2 [(0, .ref (gA G 201))] → va_P (gD G) vwCl (gL G V) H → va_S (gF G) s.heap H locs → PX6_scan_13   V → res = BX6_scan_13   V → W p l e r_X6_scan s m ([.ref (gA G 201)] : List Value).toArray below meth c H locs 0 0 (MQ below (gQV G res) ([.ref (gA G 201)] : List Value).toArray s 0 0 (gF G)) (F0 m 13 ls []) := by
    intro  V H locs ls hl hP hS hs hres
    have hs : (PX6_scan_18 (gu V 201 2 (0 : Int32))) := hs
    have hres : res = (BX6_scan_18 (gu V 201 2 (0 : Int32))) := hres
    refine lv_aload_n hx hb dX6_scan_13 rfl (lv_at hl 0 rfl) ?_
    refine lv_iconst (v := 0) hx hb dX6_scan_14 (by decide) ?_
    refine gh_put (ty := .int) (x := (0 : Int32)) (C := RX6) (T := TX6) (N := 6) hx hb hw inlX6 tyX6_ok nmX6 hown hT hP hS 201 (Nat.le_of_ble_eq_true rfl) kd201 rfl rfl 2 (by decide) (hw _ uw106) rfl (by decide +kernel) rfl rfl (Nat.le_of_ble_eq_true rfl) rfl dX6_scan_15 (fun H locs hP hS => ?_)
    exact b_18 (gu V 201 2 (0 : Int32)) _ _ _ (lv_sub hl [0] rfl) hP hS hs hres
  have b_8 : ∀  (V : gV) (H : Heap) (locs : List Loc) (ls : Array Slot), lv_has ls 2 [(0, .ref (gA G 201))] → va_P (gD G) vwCl (gL G V) H → va_S (gF G) s.heap H locs → PX6_scan_8   V → res = BX6_scan_8   V → W p l e r_X6_scan s m ([.ref (gA G 201)] : List Value).toArray below meth c H locs 0 0 (MQ below (gQV G res) ([.ref (gA G 201)] : List Value).toArray s 0 0 (gF G)) (F0 m 8 ls []) := by
    intro  V H locs ls hl hP hS hs hres
    have hs : (PX6_scan_13 (gu V 201 5 (0 : Int32))) := hs
    have hres : res = (BX6_scan_13 (gu V 201 5 (0 : Int32))) := hres
    refine lv_aload_n hx hb dX6_scan_8 rfl (lv_at hl 0 rfl) ?_
    refine lv_iconst (v := 0) hx hb dX6_scan_9 (by decide) ?_
    refine gh_put (ty := .int) (x := (0 : Int32)) (C := RX6) (T := TX6) (N := 6) hx hb hw inlX6 tyX6_ok nmX6 hown hT hP hS 201 (Nat.le_of_ble_eq_true rfl) kd201 rfl rfl 5 (by decide) (hw _ uw111) rfl (by decide +kernel) rfl rfl (Nat.le_of_ble_eq_true rfl) rfl dX6_scan_10 (fun H locs hP hS => ?_)
    exact b_13 (gu V 201 5 (0 : Int32)) _ _ _ (lv_sub hl [0] rfl) hP hS hs hres
  refine lv_aload_n hx hb dX6_scan_0 rfl (lv_at hl 0 rfl) ?_
  refine gh_get (v := .ref (gA G 202)) (C := RX6) (T := TX6) (N := 6) hx hb hw inlX6 hown hT hP 201 (Nat.le_of_ble_eq_true rfl) kd201 rfl rfl 3 (by decide) (hw _ uw108) rfl dX6_scan_1 ?_
  refine lv_iconst (v := 0) hx hb dX6_scan_4 (by decide) ?_
  refine gh_put (ty := .int) (x := (0 : Int32)) (C := RX7) (T := TX7) (N := 5) hx hb hw inlX7 tyX7_ok nmX7 hown hT hP hS 202 (Nat.le_of_ble_eq_true rfl) kd202 rfl rfl 0 (by decide) (hw _ uw768) rfl (by decide +kernel) rfl rfl (Nat.le_of_ble_eq_true rfl) rfl dX6_scan_5 (fun H locs hP hS => ?_)
  exact b_8 (gu V 202 0 (0 : Int32)) _ _ _ (lv_sub hl [0] rfl) hP hS hs hres
