theorem gv_RX9_48 : GoodIn wsL_law (wsV RX9 48 RX9 yX9_changes wc_X9_changes) := gh_gV uw212 uw213 uw214 uw5 uw215
def BX9_word_34   (x1 : Int32) (x2 : Int32) (V : gV) : Int32 × gV := ((MX9_of x1 (1 : Int32) V), (gu V 214 ((((16 : Int32) + ((11 : Int32) * x1)) + (1 : Int32))).toNatClampNeg x2))
def PX9_word_34   (x1 : Int32) (x2 : Int32) (V : gV) : Prop := (PX9_of x1 (1 : Int32) V) ∧ (vp_in (((16 : Int32) + ((11 : Int32) * x1)) + (1 : Int32)) 246)
def MX9_word  (a1 : Int32) (a2 : Int32) (V : gV) : Int32 × gV := if (MX9_isWord a1 V) = 0 then (((-1 : Int32), V)) else (if (MX9_in a2 (1 : Int32) (99 : Int32) V) = 0 then (((-1 : Int32), V)) else (if (MX9_runs V) = 0 then (BX9_word_34 a1 a2 (MX9_changes V)) else (((-2 : Int32), V))))
def PX9_word  (a1 : Int32) (a2 : Int32) (V : gV) : Prop := ((¬ (MX9_isWord a1 V) = 0 → ((¬ (MX9_in a2 (1 : Int32) (99 : Int32) V) = 0 → (((MX9_runs V) = 0 → (PX9_changes V) ∧ (PX9_word_34 a1 a2 (MX9_changes V))))))))
abbrev wc_X9_word : List Cond := Cond.code yX9_word cX9_word 4 (some .int) :: wsL_law
abbrev r_X9_word : Room := { frames := 1, cells := 0, slots := 0, locals := 22 }
theorem dd_X9_word : yX9_word.cls = RX9 ∧ yX9_word.cls ≠ "java/lang/invoke/MethodHandle" ∧ yX9_word.cls ≠ "java/lang/invoke/VarHandle" ∧ (parseMethodDescriptor yX9_word.desc).map (fun d => d.parameters.length) = some 2 := by decide +kernel
set_option maxHeartbeats 8000000 in
set_option maxRecDepth 100000 in
theorem cc_X9_word (l : Launch) (G : gG) (V : gV)   (a1 : Int32) (a2 : Int32) (hs : PX9_word a1 a2 V) : Met l yX9_word wc_X9_word r_X9_word (va_Pc [.ref (gA G 213), .int a1, .int a2] (gW G V)) (gQI G (MX9_word a1 a2 V)) 0 0 (gF G) := by
  refine Met.ofW (cc := cX9_word) (maxL := 4) (ret := (some .int)) (by decide) rfl ?_
  intro p e s m args below meth c s₁ B hml hv
  obtain ⟨rfl, hP, hT⟩ := hv
  have hx := B.exec
  have hb := B.bytes
  have hr := B.returns
  have hw := gh_hw (atoms_spec (ws := wc_X9_word) B.pre)
  have hown : s.vm.findClass RX9 = some m.cls := findClass_of_methodNamed B.named
  have hlocks := B.notSynchronized
  have hS : va_S (gF G) s.heap s.heap [] := va_S.rf
  have hl := lv_entry ([.ref (gA G 213), .int a1, .int a2]) (n := 4) (Nat.le_of_ble_eq_true rfl)
  rw [lg_entry_eq]
  generalize (lg_sl ([.ref (gA G 213), .int a1, .int a2]) ++ List.replicate (4 - (lg_sl ([.ref (gA G 213), .int a1, .int a2])).length) Slot.unset).toArray = ls at hl ⊢
  have hl : lv_has ls 4 [(0, .ref (gA G 213)), (1, .int a1), (2, .int a2)] := hl
  obtain ⟨res, hres⟩ : ∃ r, r = MX9_word a1 a2 V := ⟨_, rfl⟩
  rw [← hres]
  show W p l e r_X9_word s m ([.ref (gA G 213), .int a1, .int a2] : List Value).toArray below meth c s.heap [] 0 0 (MQ below (gQI G res) ([.ref (gA G 213), .int a1, .int a2] : List Value).toArray s 0 0 (gF G)) (F0 m 0 ls [])
  have hs : ((¬ (MX9_isWord a1 V) = 0 → ((¬ (MX9_in a2 (1 : Int32) (99 : Int32) V) = 0 → (((MX9_runs V) = 0 → (PX9_changes V) ∧ (PX9_word_34 a1 a2 (MX9_changes V)))))))) := hs
  have hres : res = (if (MX9_isWord a1 V) = 0 then (((-1 : Int32), V)) else (if (MX9_in a2 (1 : Int32) (99 : Int32) V) = 0 then (((-1 : Int32), V)) else (if (MX9_runs V) = 0 then (BX9_word_34 a1 a2 (MX9_changes V)) else (((-2 : Int32), V))))) := hres
  have b_34 : ∀ (x1 : Int32) (x2 : Int32) (V : gV) (H : Heap) (locs : List Loc) (ls : Array Slot), lv_has ls 4 [(0, .ref (gA G 213)), (1, .int x1), (2, .int x2)] → va_P (gD G) vwCl (gL G V) H → va_S (gF G) s.heap H locs → PX9_word_34  x1 x2 V → res = BX9_word_34  x1 x2 V → W p l e r_X9_word s m ([.ref (gA G 213), .int a1, .int a2] : List Value).toArray below meth c H locs 0 0 (MQ below (gQI G res) ([.ref (gA G 213), .int a1, .int a2] : List Value).toArray s 0 0 (gF G)) (F0 m 34 ls []) := by
    intro x1 x2 V H locs ls hl hP hS hs hres
    have hs : (PX9_of x1 (1 : Int32) V) ∧ (vp_in (((16 : Int32) + ((11 : Int32) * x1)) + (1 : Int32)) 246) := hs
    have hres : res = (((MX9_of x1 (1 : Int32) V), (gu V 214 ((((16 : Int32) + ((11 : Int32) * x1)) + (1 : Int32))).toNatClampNeg x2))) := hres
    refine lv_aload_n hx hb dX9_word_34 rfl (lv_at hl 0 rfl) ?_
    refine lv_iload_n hx hb dX9_word_35 rfl (lv_at hl 1 rfl) ?_
    refine lv_iconst (v := 1) hx hb dX9_word_36 (by decide) ?_
    obtain ⟨ho_5, hs⟩ := hs
    refine gh_kr (va_runV (As := [.int x1, .int (1 : Int32)]) (rest := []) ⟨hx, hb, hml, hown, hw⟩ (cc_X9_of l G V x1 (1 : Int32) ho_5) (cwV 2 hw gv_RX9_29 rfl rfl rfl dd_X9_of ⟨Nat.le_of_ble_eq_true rfl, Nat.le_of_ble_eq_true rfl⟩) (gh_preV hT hP (Nat.le_of_ble_eq_true rfl) kd213 rfl rfl) rfl rfl hl.1 rfl (lv_room (Nat.le_of_ble_eq_true rfl)) dX9_word_37 ⟨Nat.zero_le _, Nat.zero_le _⟩) hS (fun H locs hP hS => ?_)
    refine lv_istore_n (lv' := [(3, .int (MX9_of x1 (1 : Int32) V)), (0, .ref (gA G 213)), (1, .int x1), (2, .int x2)]) hx hb dX9_word_40 rfl hl (by decide) rfl (fun ls hl => ?_)
    refine lv_aload_n hx hb dX9_word_41 rfl (lv_at hl 1 rfl) ?_
    refine gh_get (v := .ref (gA G 214)) (C := RX9) (T := TX9) (N := 11) hx hb hw inlX9 hown hT hP 213 (Nat.le_of_ble_eq_true rfl) kd213 rfl rfl 0 (by decide) (hw _ uw117) rfl dX9_word_42 ?_
    refine lv_bipush (v := 16) hx hb dX9_word_45 (by decide) ?_
    refine lv_bipush (v := 11) hx hb dX9_word_47 (by decide) ?_
    refine lv_iload_n hx hb dX9_word_49 rfl (lv_at hl 2 rfl) ?_
    refine lv_imul hx hb dX9_word_50 ?_
    refine lv_iadd hx hb dX9_word_51 ?_
    refine lv_iconst (v := 1) hx hb dX9_word_52 (by decide) ?_
    refine lv_iadd hx hb dX9_word_53 ?_
    refine lv_iload_n hx hb dX9_word_54 rfl (lv_at hl 3 rfl) ?_
    have ho_6 := hs
    refine gh_iast hx hb hT hP hS 214 (Nat.le_of_ble_eq_true rfl) kd214 ho_6 dX9_word_55 (fun H locs hP hS => ?_)
    refine lv_iload_n hx hb dX9_word_56 rfl (lv_at hl 0 rfl) ?_
    exact gh_iret hx hb hr hlocks hP hS hT hres dX9_word_57
  refine lv_aload_n hx hb dX9_word_0 rfl (lv_at hl 0 rfl) ?_
  refine lv_iload_n hx hb dX9_word_1 rfl (lv_at hl 1 rfl) ?_
  refine gh_kr (va_runV (As := [.int a1]) (rest := []) ⟨hx, hb, hml, hown, hw⟩ (cc_X9_isWord l G V a1) (cwV 1 hw gv_RX9_36 rfl rfl rfl dd_X9_isWord ⟨Nat.le_of_ble_eq_true rfl, Nat.le_of_ble_eq_true rfl⟩) (gh_preV hT hP (Nat.le_of_ble_eq_true rfl) kd213 rfl rfl) rfl rfl hl.1 rfl (lv_room (Nat.le_of_ble_eq_true rfl)) dX9_word_2 ⟨Nat.zero_le _, Nat.zero_le _⟩) hS (fun H locs hP hS => ?_)
  refine lv_if_eq (tgt := 18) hx hb dX9_word_5 (by decide) (fun c_1 => ?_) (fun c_1 => ?_)
  · have hres := hres.trans (if_pos c_1)
    refine lv_iconst (v := -1) hx hb dX9_word_18 (by decide) ?_
    exact gh_iret hx hb hr hlocks hP hS hT hres dX9_word_19
  have hres := hres.trans (if_neg c_1)
  have hs := hs c_1
  refine lv_iload_n hx hb dX9_word_8 rfl (lv_at hl 2 rfl) ?_
  refine lv_iconst (v := 1) hx hb dX9_word_9 (by decide) ?_
  refine lv_bipush (v := 99) hx hb dX9_word_10 (by decide) ?_
  refine gh_kr (va_runS (As := [.int a2, .int (1 : Int32), .int (99 : Int32)]) (rest := []) ⟨hx, hb, hml, hown, hw⟩ (cc_X9_in l G V a2 (1 : Int32) (99 : Int32)) (va_cwS 3 hw gv_RX9_40 rfl rfl rfl dd_X9_in.2 ⟨Nat.le_of_ble_eq_true rfl, Nat.le_of_ble_eq_true rfl⟩) (gh_pre hT hP) rfl rfl hl.1 rfl (lv_room (Nat.le_of_ble_eq_true rfl)) dX9_word_12 ⟨Nat.zero_le _, Nat.zero_le _⟩) hS (fun H locs hP hS => ?_)
  refine lv_if_ne (tgt := 20) hx hb dX9_word_15 (by decide) (fun c_2 => ?_) (fun c_2 => ?_)
  · have hres := hres.trans (if_neg c_2)
    have hs := hs c_2
    refine lv_aload_n hx hb dX9_word_20 rfl (lv_at hl 0 rfl) ?_
    refine gh_kr (va_runV (As := []) (rest := []) ⟨hx, hb, hml, hown, hw⟩ (cc_X9_runs l G V) (cwV 0 hw gv_RX9_44 rfl rfl rfl dd_X9_runs ⟨Nat.le_of_ble_eq_true rfl, Nat.le_of_ble_eq_true rfl⟩) (gh_preV hT hP (Nat.le_of_ble_eq_true rfl) kd213 rfl rfl) rfl rfl hl.1 rfl (lv_room (Nat.le_of_ble_eq_true rfl)) dX9_word_21 ⟨Nat.zero_le _, Nat.zero_le _⟩) hS (fun H locs hP hS => ?_)
    refine lv_if_eq (tgt := 30) hx hb dX9_word_24 (by decide) (fun c_3 => ?_) (fun c_3 => ?_)
    · have hres := hres.trans (if_pos c_3)
      have hs := hs c_3
      refine lv_aload_n hx hb dX9_word_30 rfl (lv_at hl 0 rfl) ?_
      obtain ⟨ho_4, hs⟩ := hs
      refine gh_kv (va_runV (As := []) (rest := []) ⟨hx, hb, hml, hown, hw⟩ (cc_X9_changes l G V ho_4) (cwV 0 hw gv_RX9_48 rfl rfl rfl dd_X9_changes ⟨Nat.le_of_ble_eq_true rfl, Nat.le_of_ble_eq_true rfl⟩) (gh_preV hT hP (Nat.le_of_ble_eq_true rfl) kd213 rfl rfl) rfl rfl hl.1 rfl (lv_room (Nat.le_of_ble_eq_true rfl)) dX9_word_31 ⟨Nat.zero_le _, Nat.zero_le _⟩) hS (fun H locs hP hS => ?_)
      exact b_34 a1 a2 (MX9_changes V) _ _ _ (lv_sub hl [0, 1, 2] rfl) hP hS hs hres
    have hres := hres.trans (if_neg c_3)
    refine lv_bipush (v := -2) hx hb dX9_word_27 (by decide) ?_
    exact gh_iret hx hb hr hlocks hP hS hT hres dX9_word_29
  have hres := hres.trans (if_pos c_2)
  refine lv_iconst (v := -1) hx hb dX9_word_18 (by decide) ?_
  exact gh_iret hx hb hr hlocks hP hS hT hres dX9_word_19
def BX9_seat_65   (x2 : Int32) (V : gV) : Int32 × gV := (x2, (gu V 214 ((1 : Int32)).toNatClampNeg ((V 214 ((1 : Int32)).toNatClampNeg) + (1 : Int32))))
def BX9_seat_53   (x2 : Int32) (V : gV) : Int32 × gV := BX9_seat_65 x2 (gu V 214 ((MX9_at x2 (4 : Int32) V)).toNatClampNeg (26 : Int32))
def PX9_seat_53   (x2 : Int32) (V : gV) : Prop := (vp_in (MX9_at x2 (4 : Int32) V) 246)
def BX9_seat_42   (x1 : Int32) (x2 : Int32) (V : gV) : Int32 × gV := BX9_seat_53 x2 (gu V 214 ((MX9_at x2 (0 : Int32) V)).toNatClampNeg x1)
def PX9_seat_42   (x1 : Int32) (x2 : Int32) (V : gV) : Prop := (vp_in (MX9_at x2 (0 : Int32) V) 246) ∧ (PX9_seat_53 x2 (gu V 214 ((MX9_at x2 (0 : Int32) V)).toNatClampNeg x1))
def MX9_seat  (a1 : Int32) (V : gV) : Int32 × gV := if (MX9_in a1 (0 : Int32) (999 : Int32) V) = 0 then (((-1 : Int32), V)) else (if (MX9_runs V) = 0 then (if (V 214 ((1 : Int32)).toNatClampNeg) = (5 : Int32) then (((-3 : Int32), V)) else (BX9_seat_42 a1 (V 214 ((1 : Int32)).toNatClampNeg) (MX9_changes V))) else (((-2 : Int32), V)))
def PX9_seat  (a1 : Int32) (V : gV) : Prop := ((¬ (MX9_in a1 (0 : Int32) (999 : Int32) V) = 0 → (((MX9_runs V) = 0 → ((¬ (V 214 ((1 : Int32)).toNatClampNeg) = (5 : Int32) → (PX9_changes V) ∧ (PX9_seat_42 a1 (V 214 ((1 : Int32)).toNatClampNeg) (MX9_changes V))))))))
abbrev wc_X9_seat : List Cond := Cond.code yX9_seat cX9_seat 3 (some .int) :: wsL_law
abbrev r_X9_seat : Room := { frames := 1, cells := 0, slots := 0, locals := 22 }
theorem dd_X9_seat : yX9_seat.cls = RX9 ∧ yX9_seat.cls ≠ "java/lang/invoke/MethodHandle" ∧ yX9_seat.cls ≠ "java/lang/invoke/VarHandle" ∧ (parseMethodDescriptor yX9_seat.desc).map (fun d => d.parameters.length) = some 1 := by decide +kernel
set_option maxHeartbeats 8000000 in
set_option maxRecDepth 100000 in
theorem cc_X9_seat (l : Launch) (G : gG) (V : gV)   (a1 : Int32) (hs : PX9_seat a1 V) : Met l yX9_seat wc_X9_seat r_X9_seat (va_Pc [.ref (gA G 213), .int a1] (gW G V)) (gQI G (MX9_seat a1 V)) 0 0 (gF G) := by
  refine Met.ofW (cc := cX9_seat) (maxL := 3) (ret := (some .int)) (by decide) rfl ?_
  intro p e s m args below meth c s₁ B hml hv
  obtain ⟨rfl, hP, hT⟩ := hv
  have hx := B.exec
  have hb := B.bytes
  have hr := B.returns
  have hw := gh_hw (atoms_spec (ws := wc_X9_seat) B.pre)
  have hown : s.vm.findClass RX9 = some m.cls := findClass_of_methodNamed B.named
  have hlocks := B.notSynchronized
  have hS : va_S (gF G) s.heap s.heap [] := va_S.rf
  have hl := lv_entry ([.ref (gA G 213), .int a1]) (n := 3) (Nat.le_of_ble_eq_true rfl)
  rw [lg_entry_eq]
  generalize (lg_sl ([.ref (gA G 213), .int a1]) ++ List.replicate (3 - (lg_sl ([.ref (gA G 213), .int a1])).length) Slot.unset).toArray = ls at hl ⊢
  have hl : lv_has ls 3 [(0, .ref (gA G 213)), (1, .int a1)] := hl
  obtain ⟨res, hres⟩ : ∃ r, r = MX9_seat a1 V := ⟨_, rfl⟩
  rw [← hres]
  show W p l e r_X9_seat s m ([.ref (gA G 213), .int a1] : List Value).toArray below meth c s.heap [] 0 0 (MQ below (gQI G res) ([.ref (gA G 213), .int a1] : List Value).toArray s 0 0 (gF G)) (F0 m 0 ls [])
  have hs : ((¬ (MX9_in a1 (0 : Int32) (999 : Int32) V) = 0 → (((MX9_runs V) = 0 → ((¬ (V 214 ((1 : Int32)).toNatClampNeg) = (5 : Int32) → (PX9_changes V) ∧ (PX9_seat_42 a1 (V 214 ((1 : Int32)).toNatClampNeg) (MX9_changes V)))))))) := hs
  have hres : res = (if (MX9_in a1 (0 : Int32) (999 : Int32) V) = 0 then (((-1 : Int32), V)) else (if (MX9_runs V) = 0 then (if (V 214 ((1 : Int32)).toNatClampNeg) = (5 : Int32) then (((-3 : Int32), V)) else (BX9_seat_42 a1 (V 214 ((1 : Int32)).toNatClampNeg) (MX9_changes V))) else (((-2 : Int32), V)))) := hres
  have b_65 : ∀ (x2 : Int32) (V : gV) (H : Heap) (locs : List Loc) (ls : Array Slot), lv_has ls 3 [(0, .ref (gA G 213)), (2, .int x2)] → va_P (gD G) vwCl (gL G V) H → va_S (gF G) s.heap H locs → res = BX9_seat_65  x2 V → W p l e r_X9_seat s m ([.ref (gA G 213), .int a1] : List Value).toArray below meth c H locs 0 0 (MQ below (gQI G res) ([.ref (gA G 213), .int a1] : List Value).toArray s 0 0 (gF G)) (F0 m 65 ls []) := by
    intro x2 V H locs ls hl hP hS hres
    have hres : res = ((x2, (gu V 214 ((1 : Int32)).toNatClampNeg ((V 214 ((1 : Int32)).toNatClampNeg) + (1 : Int32))))) := hres
    refine lv_aload_n hx hb dX9_seat_65 rfl (lv_at hl 0 rfl) ?_
    refine gh_get (v := .ref (gA G 214)) (C := RX9) (T := TX9) (N := 11) hx hb hw inlX9 hown hT hP 213 (Nat.le_of_ble_eq_true rfl) kd213 rfl rfl 0 (by decide) (hw _ uw117) rfl dX9_seat_66 ?_
    refine lv_iconst (v := 1) hx hb dX9_seat_69 (by decide) ?_
    refine lv_dup2_11 hx hb dX9_seat_70 rfl rfl ?_
    refine gh_iald hx hb hT hP 214 (Nat.le_of_ble_eq_true rfl) kd214 (gh_ci (by decide)) dX9_seat_71 ?_
    refine lv_iconst (v := 1) hx hb dX9_seat_72 (by decide) ?_
    refine lv_iadd hx hb dX9_seat_73 ?_
    refine gh_iast hx hb hT hP hS 214 (Nat.le_of_ble_eq_true rfl) kd214 (gh_ci (by decide)) dX9_seat_74 (fun H locs hP hS => ?_)
    refine lv_iload_n hx hb dX9_seat_75 rfl (lv_at hl 1 rfl) ?_
    exact gh_iret hx hb hr hlocks hP hS hT hres dX9_seat_76
  have b_53 : ∀ (x2 : Int32) (V : gV) (H : Heap) (locs : List Loc) (ls : Array Slot), lv_has ls 3 [(0, .ref (gA G 213)), (2, .int x2)] → va_P (gD G) vwCl (gL G V) H → va_S (gF G) s.heap H locs → PX9_seat_53  x2 V → res = BX9_seat_53  x2 V → W p l e r_X9_seat s m ([.ref (gA G 213), .int a1] : List Value).toArray below meth c H locs 0 0 (MQ below (gQI G res) ([.ref (gA G 213), .int a1] : List Value).toArray s 0 0 (gF G)) (F0 m 53 ls []) := by
    intro x2 V H locs ls hl hP hS hs hres
    have hs : (vp_in (MX9_at x2 (4 : Int32) V) 246) := hs
    have hres : res = (BX9_seat_65 x2 (gu V 214 ((MX9_at x2 (4 : Int32) V)).toNatClampNeg (26 : Int32))) := hres
    refine lv_aload_n hx hb dX9_seat_53 rfl (lv_at hl 0 rfl) ?_
    refine gh_get (v := .ref (gA G 214)) (C := RX9) (T := TX9) (N := 11) hx hb hw inlX9 hown hT hP 213 (Nat.le_of_ble_eq_true rfl) kd213 rfl rfl 0 (by decide) (hw _ uw117) rfl dX9_seat_54 ?_
    refine lv_iload_n hx hb dX9_seat_57 rfl (lv_at hl 1 rfl) ?_
    refine lv_iconst (v := 4) hx hb dX9_seat_58 (by decide) ?_
    refine gh_kr (va_runS (As := [.int x2, .int (4 : Int32)]) (rest := [.ref (gA G 214)]) ⟨hx, hb, hml, hown, hw⟩ (cc_X9_at l G V x2 (4 : Int32)) (va_cwS 2 hw gv_RX9_51 rfl rfl rfl dd_X9_at.2 ⟨Nat.le_of_ble_eq_true rfl, Nat.le_of_ble_eq_true rfl⟩) (gh_pre hT hP) rfl rfl hl.1 rfl (lv_room (Nat.le_of_ble_eq_true rfl)) dX9_seat_59 ⟨Nat.zero_le _, Nat.zero_le _⟩) hS (fun H locs hP hS => ?_)
    refine lv_bipush (v := 26) hx hb dX9_seat_62 (by decide) ?_
    have ho_6 := hs
    refine gh_iast hx hb hT hP hS 214 (Nat.le_of_ble_eq_true rfl) kd214 ho_6 dX9_seat_64 (fun H locs hP hS => ?_)
    exact b_65 x2 (gu V 214 ((MX9_at x2 (4 : Int32) V)).toNatClampNeg (26 : Int32)) _ _ _ (lv_sub hl [0, 1] rfl) hP hS hres
  have b_42 : ∀ (x1 : Int32) (x2 : Int32) (V : gV) (H : Heap) (locs : List Loc) (ls : Array Slot), lv_has ls 3 [(0, .ref (gA G 213)), (1, .int x1), (2, .int x2)] → va_P (gD G) vwCl (gL G V) H → va_S (gF G) s.heap H locs → PX9_seat_42  x1 x2 V → res = BX9_seat_42  x1 x2 V → W p l e r_X9_seat s m ([.ref (gA G 213), .int a1] : List Value).toArray below meth c H locs 0 0 (MQ below (gQI G res) ([.ref (gA G 213), .int a1] : List Value).toArray s 0 0 (gF G)) (F0 m 42 ls []) := by
    intro x1 x2 V H locs ls hl hP hS hs hres
    have hs : (vp_in (MX9_at x2 (0 : Int32) V) 246) ∧ (PX9_seat_53 x2 (gu V 214 ((MX9_at x2 (0 : Int32) V)).toNatClampNeg x1)) := hs
    have hres : res = (BX9_seat_53 x2 (gu V 214 ((MX9_at x2 (0 : Int32) V)).toNatClampNeg x1)) := hres
    refine lv_aload_n hx hb dX9_seat_42 rfl (lv_at hl 0 rfl) ?_
    refine gh_get (v := .ref (gA G 214)) (C := RX9) (T := TX9) (N := 11) hx hb hw inlX9 hown hT hP 213 (Nat.le_of_ble_eq_true rfl) kd213 rfl rfl 0 (by decide) (hw _ uw117) rfl dX9_seat_43 ?_
    refine lv_iload_n hx hb dX9_seat_46 rfl (lv_at hl 2 rfl) ?_
    refine lv_iconst (v := 0) hx hb dX9_seat_47 (by decide) ?_
    refine gh_kr (va_runS (As := [.int x2, .int (0 : Int32)]) (rest := [.ref (gA G 214)]) ⟨hx, hb, hml, hown, hw⟩ (cc_X9_at l G V x2 (0 : Int32)) (va_cwS 2 hw gv_RX9_51 rfl rfl rfl dd_X9_at.2 ⟨Nat.le_of_ble_eq_true rfl, Nat.le_of_ble_eq_true rfl⟩) (gh_pre hT hP) rfl rfl hl.1 rfl (lv_room (Nat.le_of_ble_eq_true rfl)) dX9_seat_48 ⟨Nat.zero_le _, Nat.zero_le _⟩) hS (fun H locs hP hS => ?_)
    refine lv_iload_n hx hb dX9_seat_51 rfl (lv_at hl 1 rfl) ?_
    obtain ⟨ho_5, hs⟩ := hs
    refine gh_iast hx hb hT hP hS 214 (Nat.le_of_ble_eq_true rfl) kd214 ho_5 dX9_seat_52 (fun H locs hP hS => ?_)
    exact b_53 x2 (gu V 214 ((MX9_at x2 (0 : Int32) V)).toNatClampNeg x1) _ _ _ (lv_sub hl [0, 2] rfl) hP hS hs hres
  refine lv_iload_n hx hb dX9_seat_0 rfl (lv_at hl 1 rfl) ?_
  refine lv_iconst (v := 0) hx hb dX9_seat_1 (by decide) ?_
  refine lv_sipush (v := 999) hx hb dX9_seat_2 (by decide) ?_
  refine gh_kr (va_runS (As := [.int a1, .int (0 : Int32), .int (999 : Int32)]) (rest := []) ⟨hx, hb, hml, hown, hw⟩ (cc_X9_in l G V a1 (0 : Int32) (999 : Int32)) (va_cwS 3 hw gv_RX9_40 rfl rfl rfl dd_X9_in.2 ⟨Nat.le_of_ble_eq_true rfl, Nat.le_of_ble_eq_true rfl⟩) (gh_pre hT hP) rfl rfl hl.1 rfl (lv_room (Nat.le_of_ble_eq_true rfl)) dX9_seat_5 ⟨Nat.zero_le _, Nat.zero_le _⟩) hS (fun H locs hP hS => ?_)
  refine lv_if_ne (tgt := 13) hx hb dX9_seat_8 (by decide) (fun c_1 => ?_) (fun c_1 => ?_)
  · have hres := hres.trans (if_neg c_1)
    have hs := hs c_1
    refine lv_aload_n hx hb dX9_seat_13 rfl (lv_at hl 0 rfl) ?_
    refine gh_kr (va_runV (As := []) (rest := []) ⟨hx, hb, hml, hown, hw⟩ (cc_X9_runs l G V) (cwV 0 hw gv_RX9_44 rfl rfl rfl dd_X9_runs ⟨Nat.le_of_ble_eq_true rfl, Nat.le_of_ble_eq_true rfl⟩) (gh_preV hT hP (Nat.le_of_ble_eq_true rfl) kd213 rfl rfl) rfl rfl hl.1 rfl (lv_room (Nat.le_of_ble_eq_true rfl)) dX9_seat_14 ⟨Nat.zero_le _, Nat.zero_le _⟩) hS (fun H locs hP hS => ?_)
    refine lv_if_eq (tgt := 23) hx hb dX9_seat_17 (by decide) (fun c_2 => ?_) (fun c_2 => ?_)
    · have hres := hres.trans (if_pos c_2)
      have hs := hs c_2
      refine lv_aload_n hx hb dX9_seat_23 rfl (lv_at hl 0 rfl) ?_
      refine gh_get (v := .ref (gA G 214)) (C := RX9) (T := TX9) (N := 11) hx hb hw inlX9 hown hT hP 213 (Nat.le_of_ble_eq_true rfl) kd213 rfl rfl 0 (by decide) (hw _ uw117) rfl dX9_seat_24 ?_
      refine lv_iconst (v := 1) hx hb dX9_seat_27 (by decide) ?_
      refine gh_iald hx hb hT hP 214 (Nat.le_of_ble_eq_true rfl) kd214 (gh_ci (by decide)) dX9_seat_28 ?_
      refine lv_istore_n (lv' := [(2, .int (V 214 ((1 : Int32)).toNatClampNeg)), (0, .ref (gA G 213)), (1, .int a1)]) hx hb dX9_seat_29 rfl hl (by decide) rfl (fun ls hl => ?_)
      refine lv_iload_n hx hb dX9_seat_30 rfl (lv_at hl 0 rfl) ?_
      refine lv_iconst (v := 5) hx hb dX9_seat_31 (by decide) ?_
      refine lv_icmp_ne (tgt := 38) hx hb dX9_seat_32 (by decide) (fun c_3 => ?_) (fun c_3 => ?_)
      · have hres := hres.trans (if_neg c_3)
        have hs := hs c_3
        refine lv_aload_n hx hb dX9_seat_38 rfl (lv_at hl 1 rfl) ?_
        obtain ⟨ho_4, hs⟩ := hs
        refine gh_kv (va_runV (As := []) (rest := []) ⟨hx, hb, hml, hown, hw⟩ (cc_X9_changes l G V ho_4) (cwV 0 hw gv_RX9_48 rfl rfl rfl dd_X9_changes ⟨Nat.le_of_ble_eq_true rfl, Nat.le_of_ble_eq_true rfl⟩) (gh_preV hT hP (Nat.le_of_ble_eq_true rfl) kd213 rfl rfl) rfl rfl hl.1 rfl (lv_room (Nat.le_of_ble_eq_true rfl)) dX9_seat_39 ⟨Nat.zero_le _, Nat.zero_le _⟩) hS (fun H locs hP hS => ?_)
        exact b_42 a1 (V 214 ((1 : Int32)).toNatClampNeg) (MX9_changes V) _ _ _ (lv_sub hl [1, 2, 0] rfl) hP hS hs hres
      have hres := hres.trans (if_pos c_3)
      refine lv_bipush (v := -3) hx hb dX9_seat_35 (by decide) ?_
      exact gh_iret hx hb hr hlocks hP hS hT hres dX9_seat_37
    have hres := hres.trans (if_neg c_2)
    refine lv_bipush (v := -2) hx hb dX9_seat_20 (by decide) ?_
    exact gh_iret hx hb hr hlocks hP hS hT hres dX9_seat_22
  have hres := hres.trans (if_pos c_1)
  refine lv_iconst (v := -1) hx hb dX9_seat_11 (by decide) ?_
  exact gh_iret hx hb hr hlocks hP hS hT hres dX9_seat_12
def BX9_lend_83   (x1 : Int32) (V : gV) : Int32 × gV := ((V 214 ((MX9_at x1 (0 : Int32) V)).toNatClampNeg), V)
def PX9_lend_83   (x1 : Int32) (V : gV) : Prop := (vp_in (MX9_at x1 (0 : Int32) V) 246)
def BX9_lend_69   (x1 : Int32) (x2 : Int32) (x3 : Int32) (V : gV) : Int32 × gV := BX9_lend_83 x1 (gu V 214 ((MX9_at x2 (0 : Int32) V)).toNatClampNeg ((V 214 ((MX9_at x2 (0 : Int32) V)).toNatClampNeg) + x3))
def PX9_lend_69   (x1 : Int32) (x2 : Int32) (x3 : Int32) (V : gV) : Prop := (vp_in (MX9_at x2 (0 : Int32) V) 246) ∧ (vp_in (MX9_at x2 (0 : Int32) V) 246) ∧ (PX9_lend_83 x1 (gu V 214 ((MX9_at x2 (0 : Int32) V)).toNatClampNeg ((V 214 ((MX9_at x2 (0 : Int32) V)).toNatClampNeg) + x3)))
def BX9_lend_55   (x1 : Int32) (x2 : Int32) (x3 : Int32) (V : gV) : Int32 × gV := BX9_lend_69 x1 x2 x3 (gu V 214 ((MX9_at x1 (0 : Int32) V)).toNatClampNeg ((V 214 ((MX9_at x1 (0 : Int32) V)).toNatClampNeg) - x3))
def PX9_lend_55   (x1 : Int32) (x2 : Int32) (x3 : Int32) (V : gV) : Prop := (vp_in (MX9_at x1 (0 : Int32) V) 246) ∧ (vp_in (MX9_at x1 (0 : Int32) V) 246) ∧ (PX9_lend_69 x1 x2 x3 (gu V 214 ((MX9_at x1 (0 : Int32) V)).toNatClampNeg ((V 214 ((MX9_at x1 (0 : Int32) V)).toNatClampNeg) - x3)))
def MX9_lend  (a1 : Int32) (a2 : Int32) (a3 : Int32) (V : gV) : Int32 × gV := if (MX9_isPlayer a1 V) = 0 then (((-1 : Int32), V)) else (if (MX9_isPlayer a2 V) = 0 then (((-1 : Int32), V)) else (if a1 = a2 then (((-1 : Int32), V)) else (if (MX9_in a3 (1 : Int32) (999 : Int32) V) = 0 then (((-1 : Int32), V)) else (if a3 ≤ (V 214 ((MX9_at a1 (0 : Int32) V)).toNatClampNeg) then (BX9_lend_55 a1 a2 a3 (MX9_changes V)) else (((-2 : Int32), V))))))
def PX9_lend  (a1 : Int32) (a2 : Int32) (a3 : Int32) (V : gV) : Prop := ((¬ (MX9_isPlayer a1 V) = 0 → ((¬ (MX9_isPlayer a2 V) = 0 → ((¬ a1 = a2 → ((¬ (MX9_in a3 (1 : Int32) (999 : Int32) V) = 0 → (vp_in (MX9_at a1 (0 : Int32) V) 246) ∧ ((a3 ≤ (V 214 ((MX9_at a1 (0 : Int32) V)).toNatClampNeg) → (PX9_changes V) ∧ (PX9_lend_55 a1 a2 a3 (MX9_changes V))))))))))))
abbrev wc_X9_lend : List Cond := Cond.code yX9_lend cX9_lend 4 (some .int) :: wsL_law
abbrev r_X9_lend : Room := { frames := 1, cells := 0, slots := 0, locals := 22 }
theorem dd_X9_lend : yX9_lend.cls = RX9 ∧ yX9_lend.cls ≠ "java/lang/invoke/MethodHandle" ∧ yX9_lend.cls ≠ "java/lang/invoke/VarHandle" ∧ (parseMethodDescriptor yX9_lend.desc).map (fun d => d.parameters.length) = some 3 := by decide +kernel
set_option maxHeartbeats 8000000 in
set_option maxRecDepth 100000 in
theorem cc_X9_lend (l : Launch) (G : gG) (V : gV)   (a1 : Int32) (a2 : Int32) (a3 : Int32) (hs : PX9_lend a1 a2 a3 V) : Met l yX9_lend wc_X9_lend r_X9_lend (va_Pc [.ref (gA G 213), .int a1, .int a2, .int a3] (gW G V)) (gQI G (MX9_lend a1 a2 a3 V)) 0 0 (gF G) := by
  refine Met.ofW (cc := cX9_lend) (maxL := 4) (ret := (some .int)) (by decide) rfl ?_
  intro p e s m args below meth c s₁ B hml hv
  obtain ⟨rfl, hP, hT⟩ := hv
  have hx := B.exec
  have hb := B.bytes
  have hr := B.returns
  have hw := gh_hw (atoms_spec (ws := wc_X9_lend) B.pre)
  have hown : s.vm.findClass RX9 = some m.cls := findClass_of_methodNamed B.named
  have hlocks := B.notSynchronized
  have hS : va_S (gF G) s.heap s.heap [] := va_S.rf
  have hl := lv_entry ([.ref (gA G 213), .int a1, .int a2, .int a3]) (n := 4) (Nat.le_of_ble_eq_true rfl)
  rw [lg_entry_eq]
  generalize (lg_sl ([.ref (gA G 213), .int a1, .int a2, .int a3]) ++ List.replicate (4 - (lg_sl ([.ref (gA G 213), .int a1, .int a2, .int a3])).length) Slot.unset).toArray = ls at hl ⊢
  have hl : lv_has ls 4 [(0, .ref (gA G 213)), (1, .int a1), (2, .int a2), (3, .int a3)] := hl
  obtain ⟨res, hres⟩ : ∃ r, r = MX9_lend a1 a2 a3 V := ⟨_, rfl⟩
  rw [← hres]
  show W p l e r_X9_lend s m ([.ref (gA G 213), .int a1, .int a2, .int a3] : List Value).toArray below meth c s.heap [] 0 0 (MQ below (gQI G res) ([.ref (gA G 213), .int a1, .int a2, .int a3] : List Value).toArray s 0 0 (gF G)) (F0 m 0 ls [])
  have hs : ((¬ (MX9_isPlayer a1 V) = 0 → ((¬ (MX9_isPlayer a2 V) = 0 → ((¬ a1 = a2 → ((¬ (MX9_in a3 (1 : Int32) (999 : Int32) V) = 0 → (vp_in (MX9_at a1 (0 : Int32) V) 246) ∧ ((a3 ≤ (V 214 ((MX9_at a1 (0 : Int32) V)).toNatClampNeg) → (PX9_changes V) ∧ (PX9_lend_55 a1 a2 a3 (MX9_changes V)))))))))))) := hs
  have hres : res = (if (MX9_isPlayer a1 V) = 0 then (((-1 : Int32), V)) else (if (MX9_isPlayer a2 V) = 0 then (((-1 : Int32), V)) else (if a1 = a2 then (((-1 : Int32), V)) else (if (MX9_in a3 (1 : Int32) (999 : Int32) V) = 0 then (((-1 : Int32), V)) else (if a3 ≤ (V 214 ((MX9_at a1 (0 : Int32) V)).toNatClampNeg) then (BX9_lend_55 a1 a2 a3 (MX9_changes V)) else (((-2 : Int32), V))))))) := hres
  have b_83 : ∀ (x1 : Int32) (V : gV) (H : Heap) (locs : List Loc) (ls : Array Slot), lv_has ls 4 [(0, .ref (gA G 213)), (1, .int x1)] → va_P (gD G) vwCl (gL G V) H → va_S (gF G) s.heap H locs → PX9_lend_83  x1 V → res = BX9_lend_83  x1 V → W p l e r_X9_lend s m ([.ref (gA G 213), .int a1, .int a2, .int a3] : List Value).toArray below meth c H locs 0 0 (MQ below (gQI G res) ([.ref (gA G 213), .int a1, .int a2, .int a3] : List Value).toArray s 0 0 (gF G)) (F0 m 83 ls []) := by
    intro x1 V H locs ls hl hP hS hs hres
    have hs : (vp_in (MX9_at x1 (0 : Int32) V) 246) := hs
    have hres : res = (((V 214 ((MX9_at x1 (0 : Int32) V)).toNatClampNeg), V)) := hres
    refine lv_aload_n hx hb dX9_lend_83 rfl (lv_at hl 0 rfl) ?_
    refine gh_get (v := .ref (gA G 214)) (C := RX9) (T := TX9) (N := 11) hx hb hw inlX9 hown hT hP 213 (Nat.le_of_ble_eq_true rfl) kd213 rfl rfl 0 (by decide) (hw _ uw117) rfl dX9_lend_84 ?_
    refine lv_iload_n hx hb dX9_lend_87 rfl (lv_at hl 1 rfl) ?_
    refine lv_iconst (v := 0) hx hb dX9_lend_88 (by decide) ?_
    refine gh_kr (va_runS (As := [.int x1, .int (0 : Int32)]) (rest := [.ref (gA G 214)]) ⟨hx, hb, hml, hown, hw⟩ (cc_X9_at l G V x1 (0 : Int32)) (va_cwS 2 hw gv_RX9_51 rfl rfl rfl dd_X9_at.2 ⟨Nat.le_of_ble_eq_true rfl, Nat.le_of_ble_eq_true rfl⟩) (gh_pre hT hP) rfl rfl hl.1 rfl (lv_room (Nat.le_of_ble_eq_true rfl)) dX9_lend_89 ⟨Nat.zero_le _, Nat.zero_le _⟩) hS (fun H locs hP hS => ?_)
    have ho_12 := hs
    refine gh_iald hx hb hT hP 214 (Nat.le_of_ble_eq_true rfl) kd214 ho_12 dX9_lend_92 ?_
    exact gh_iret hx hb hr hlocks hP hS hT hres dX9_lend_93
  have b_69 : ∀ (x1 : Int32) (x2 : Int32) (x3 : Int32) (V : gV) (H : Heap) (locs : List Loc) (ls : Array Slot), lv_has ls 4 [(0, .ref (gA G 213)), (1, .int x1), (2, .int x2), (3, .int x3)] → va_P (gD G) vwCl (gL G V) H → va_S (gF G) s.heap H locs → PX9_lend_69  x1 x2 x3 V → res = BX9_lend_69  x1 x2 x3 V → W p l e r_X9_lend s m ([.ref (gA G 213), .int a1, .int a2, .int a3] : List Value).toArray below meth c H locs 0 0 (MQ below (gQI G res) ([.ref (gA G 213), .int a1, .int a2, .int a3] : List Value).toArray s 0 0 (gF G)) (F0 m 69 ls []) := by
    intro x1 x2 x3 V H locs ls hl hP hS hs hres
    have hs : (vp_in (MX9_at x2 (0 : Int32) V) 246) ∧ (vp_in (MX9_at x2 (0 : Int32) V) 246) ∧ (PX9_lend_83 x1 (gu V 214 ((MX9_at x2 (0 : Int32) V)).toNatClampNeg ((V 214 ((MX9_at x2 (0 : Int32) V)).toNatClampNeg) + x3))) := hs
    have hres : res = (BX9_lend_83 x1 (gu V 214 ((MX9_at x2 (0 : Int32) V)).toNatClampNeg ((V 214 ((MX9_at x2 (0 : Int32) V)).toNatClampNeg) + x3))) := hres
    refine lv_aload_n hx hb dX9_lend_69 rfl (lv_at hl 0 rfl) ?_
    refine gh_get (v := .ref (gA G 214)) (C := RX9) (T := TX9) (N := 11) hx hb hw inlX9 hown hT hP 213 (Nat.le_of_ble_eq_true rfl) kd213 rfl rfl 0 (by decide) (hw _ uw117) rfl dX9_lend_70 ?_
    refine lv_iload_n hx hb dX9_lend_73 rfl (lv_at hl 2 rfl) ?_
    refine lv_iconst (v := 0) hx hb dX9_lend_74 (by decide) ?_
    refine gh_kr (va_runS (As := [.int x2, .int (0 : Int32)]) (rest := [.ref (gA G 214)]) ⟨hx, hb, hml, hown, hw⟩ (cc_X9_at l G V x2 (0 : Int32)) (va_cwS 2 hw gv_RX9_51 rfl rfl rfl dd_X9_at.2 ⟨Nat.le_of_ble_eq_true rfl, Nat.le_of_ble_eq_true rfl⟩) (gh_pre hT hP) rfl rfl hl.1 rfl (lv_room (Nat.le_of_ble_eq_true rfl)) dX9_lend_75 ⟨Nat.zero_le _, Nat.zero_le _⟩) hS (fun H locs hP hS => ?_)
    refine lv_dup2_11 hx hb dX9_lend_78 rfl rfl ?_
    obtain ⟨ho_10, hs⟩ := hs
    refine gh_iald hx hb hT hP 214 (Nat.le_of_ble_eq_true rfl) kd214 ho_10 dX9_lend_79 ?_
    refine lv_iload_n hx hb dX9_lend_80 rfl (lv_at hl 3 rfl) ?_
    refine lv_iadd hx hb dX9_lend_81 ?_
    obtain ⟨ho_11, hs⟩ := hs
    refine gh_iast hx hb hT hP hS 214 (Nat.le_of_ble_eq_true rfl) kd214 ho_11 dX9_lend_82 (fun H locs hP hS => ?_)
    exact b_83 x1 (gu V 214 ((MX9_at x2 (0 : Int32) V)).toNatClampNeg ((V 214 ((MX9_at x2 (0 : Int32) V)).toNatClampNeg) + x3)) _ _ _ (lv_sub hl [0, 1] rfl) hP hS hs hres
  have b_55 : ∀ (x1 : Int32) (x2 : Int32) (x3 : Int32) (V : gV) (H : Heap) (locs : List Loc) (ls : Array Slot), lv_has ls 4 [(0, .ref (gA G 213)), (1, .int x1), (2, .int x2), (3, .int x3)] → va_P (gD G) vwCl (gL G V) H → va_S (gF G) s.heap H locs → PX9_lend_55  x1 x2 x3 V → res = BX9_lend_55  x1 x2 x3 V → W p l e r_X9_lend s m ([.ref (gA G 213), .int a1, .int a2, .int a3] : List Value).toArray below meth c H locs 0 0 (MQ below (gQI G res) ([.ref (gA G 213), .int a1, .int a2, .int a3] : List Value).toArray s 0 0 (gF G)) (F0 m 55 ls []) := by
    intro x1 x2 x3 V H locs ls hl hP hS hs hres
    have hs : (vp_in (MX9_at x1 (0 : Int32) V) 246) ∧ (vp_in (MX9_at x1 (0 : Int32) V) 246) ∧ (PX9_lend_69 x1 x2 x3 (gu V 214 ((MX9_at x1 (0 : Int32) V)).toNatClampNeg ((V 214 ((MX9_at x1 (0 : Int32) V)).toNatClampNeg) - x3))) := hs
    have hres : res = (BX9_lend_69 x1 x2 x3 (gu V 214 ((MX9_at x1 (0 : Int32) V)).toNatClampNeg ((V 214 ((MX9_at x1 (0 : Int32) V)).toNatClampNeg) - x3))) := hres
    refine lv_aload_n hx hb dX9_lend_55 rfl (lv_at hl 0 rfl) ?_
    refine gh_get (v := .ref (gA G 214)) (C := RX9) (T := TX9) (N := 11) hx hb hw inlX9 hown hT hP 213 (Nat.le_of_ble_eq_true rfl) kd213 rfl rfl 0 (by decide) (hw _ uw117) rfl dX9_lend_56 ?_
    refine lv_iload_n hx hb dX9_lend_59 rfl (lv_at hl 1 rfl) ?_
    refine lv_iconst (v := 0) hx hb dX9_lend_60 (by decide) ?_
    refine gh_kr (va_runS (As := [.int x1, .int (0 : Int32)]) (rest := [.ref (gA G 214)]) ⟨hx, hb, hml, hown, hw⟩ (cc_X9_at l G V x1 (0 : Int32)) (va_cwS 2 hw gv_RX9_51 rfl rfl rfl dd_X9_at.2 ⟨Nat.le_of_ble_eq_true rfl, Nat.le_of_ble_eq_true rfl⟩) (gh_pre hT hP) rfl rfl hl.1 rfl (lv_room (Nat.le_of_ble_eq_true rfl)) dX9_lend_61 ⟨Nat.zero_le _, Nat.zero_le _⟩) hS (fun H locs hP hS => ?_)
    refine lv_dup2_11 hx hb dX9_lend_64 rfl rfl ?_
    obtain ⟨ho_8, hs⟩ := hs
    refine gh_iald hx hb hT hP 214 (Nat.le_of_ble_eq_true rfl) kd214 ho_8 dX9_lend_65 ?_
    refine lv_iload_n hx hb dX9_lend_66 rfl (lv_at hl 3 rfl) ?_
    refine lv_isub hx hb dX9_lend_67 ?_
    obtain ⟨ho_9, hs⟩ := hs
    refine gh_iast hx hb hT hP hS 214 (Nat.le_of_ble_eq_true rfl) kd214 ho_9 dX9_lend_68 (fun H locs hP hS => ?_)
    exact b_69 x1 x2 x3 (gu V 214 ((MX9_at x1 (0 : Int32) V)).toNatClampNeg ((V 214 ((MX9_at x1 (0 : Int32) V)).toNatClampNeg) - x3)) _ _ _ (lv_sub hl [0, 1, 2, 3] rfl) hP hS hs hres
  refine lv_aload_n hx hb dX9_lend_0 rfl (lv_at hl 0 rfl) ?_
  refine lv_iload_n hx hb dX9_lend_1 rfl (lv_at hl 1 rfl) ?_
  refine gh_kr (va_runV (As := [.int a1]) (rest := []) ⟨hx, hb, hml, hown, hw⟩ (cc_X9_isPlayer l G V a1) (cwV 1 hw gv_RX9_54 rfl rfl rfl dd_X9_isPlayer ⟨Nat.le_of_ble_eq_true rfl, Nat.le_of_ble_eq_true rfl⟩) (gh_preV hT hP (Nat.le_of_ble_eq_true rfl) kd213 rfl rfl) rfl rfl hl.1 rfl (lv_room (Nat.le_of_ble_eq_true rfl)) dX9_lend_2 ⟨Nat.zero_le _, Nat.zero_le _⟩) hS (fun H locs hP hS => ?_)
  refine lv_if_eq (tgt := 32) hx hb dX9_lend_5 (by decide) (fun c_1 => ?_) (fun c_1 => ?_)
  · have hres := hres.trans (if_pos c_1)
    refine lv_iconst (v := -1) hx hb dX9_lend_32 (by decide) ?_
    exact gh_iret hx hb hr hlocks hP hS hT hres dX9_lend_33
  have hres := hres.trans (if_neg c_1)
  have hs := hs c_1
  refine lv_aload_n hx hb dX9_lend_8 rfl (lv_at hl 0 rfl) ?_
  refine lv_iload_n hx hb dX9_lend_9 rfl (lv_at hl 2 rfl) ?_
  refine gh_kr (va_runV (As := [.int a2]) (rest := []) ⟨hx, hb, hml, hown, hw⟩ (cc_X9_isPlayer l G V a2) (cwV 1 hw gv_RX9_54 rfl rfl rfl dd_X9_isPlayer ⟨Nat.le_of_ble_eq_true rfl, Nat.le_of_ble_eq_true rfl⟩) (gh_preV hT hP (Nat.le_of_ble_eq_true rfl) kd213 rfl rfl) rfl rfl hl.1 rfl (lv_room (Nat.le_of_ble_eq_true rfl)) dX9_lend_10 ⟨Nat.zero_le _, Nat.zero_le _⟩) hS (fun H locs hP hS => ?_)
  refine lv_if_eq (tgt := 32) hx hb dX9_lend_13 (by decide) (fun c_2 => ?_) (fun c_2 => ?_)
  · have hres := hres.trans (if_pos c_2)
    refine lv_iconst (v := -1) hx hb dX9_lend_32 (by decide) ?_
    exact gh_iret hx hb hr hlocks hP hS hT hres dX9_lend_33
  have hres := hres.trans (if_neg c_2)
  have hs := hs c_2
  refine lv_iload_n hx hb dX9_lend_16 rfl (lv_at hl 1 rfl) ?_
  refine lv_iload_n hx hb dX9_lend_17 rfl (lv_at hl 2 rfl) ?_
  refine lv_icmp_eq (tgt := 32) hx hb dX9_lend_18 (by decide) (fun c_3 => ?_) (fun c_3 => ?_)
  · have hres := hres.trans (if_pos c_3)
    refine lv_iconst (v := -1) hx hb dX9_lend_32 (by decide) ?_
    exact gh_iret hx hb hr hlocks hP hS hT hres dX9_lend_33
  have hres := hres.trans (if_neg c_3)
  have hs := hs c_3
  refine lv_iload_n hx hb dX9_lend_21 rfl (lv_at hl 3 rfl) ?_
  refine lv_iconst (v := 1) hx hb dX9_lend_22 (by decide) ?_
  refine lv_sipush (v := 999) hx hb dX9_lend_23 (by decide) ?_
  refine gh_kr (va_runS (As := [.int a3, .int (1 : Int32), .int (999 : Int32)]) (rest := []) ⟨hx, hb, hml, hown, hw⟩ (cc_X9_in l G V a3 (1 : Int32) (999 : Int32)) (va_cwS 3 hw gv_RX9_40 rfl rfl rfl dd_X9_in.2 ⟨Nat.le_of_ble_eq_true rfl, Nat.le_of_ble_eq_true rfl⟩) (gh_pre hT hP) rfl rfl hl.1 rfl (lv_room (Nat.le_of_ble_eq_true rfl)) dX9_lend_26 ⟨Nat.zero_le _, Nat.zero_le _⟩) hS (fun H locs hP hS => ?_)
  refine lv_if_ne (tgt := 34) hx hb dX9_lend_29 (by decide) (fun c_4 => ?_) (fun c_4 => ?_)
  · have hres := hres.trans (if_neg c_4)
    have hs := hs c_4
    refine lv_aload_n hx hb dX9_lend_34 rfl (lv_at hl 0 rfl) ?_
    refine gh_get (v := .ref (gA G 214)) (C := RX9) (T := TX9) (N := 11) hx hb hw inlX9 hown hT hP 213 (Nat.le_of_ble_eq_true rfl) kd213 rfl rfl 0 (by decide) (hw _ uw117) rfl dX9_lend_35 ?_
    refine lv_iload_n hx hb dX9_lend_38 rfl (lv_at hl 1 rfl) ?_
    refine lv_iconst (v := 0) hx hb dX9_lend_39 (by decide) ?_
    refine gh_kr (va_runS (As := [.int a1, .int (0 : Int32)]) (rest := [.ref (gA G 214)]) ⟨hx, hb, hml, hown, hw⟩ (cc_X9_at l G V a1 (0 : Int32)) (va_cwS 2 hw gv_RX9_51 rfl rfl rfl dd_X9_at.2 ⟨Nat.le_of_ble_eq_true rfl, Nat.le_of_ble_eq_true rfl⟩) (gh_pre hT hP) rfl rfl hl.1 rfl (lv_room (Nat.le_of_ble_eq_true rfl)) dX9_lend_40 ⟨Nat.zero_le _, Nat.zero_le _⟩) hS (fun H locs hP hS => ?_)
    obtain ⟨ho_5, hs⟩ := hs
    refine gh_iald hx hb hT hP 214 (Nat.le_of_ble_eq_true rfl) kd214 ho_5 dX9_lend_43 ?_
    refine lv_iload_n hx hb dX9_lend_44 rfl (lv_at hl 3 rfl) ?_
    refine lv_icmp_ge (tgt := 51) hx hb dX9_lend_45 (by decide) (fun c_6 => ?_) (fun c_6 => ?_)
    · have hres := hres.trans (if_pos c_6)
      have hs := hs c_6
      refine lv_aload_n hx hb dX9_lend_51 rfl (lv_at hl 0 rfl) ?_
      obtain ⟨ho_7, hs⟩ := hs
      refine gh_kv (va_runV (As := []) (rest := []) ⟨hx, hb, hml, hown, hw⟩ (cc_X9_changes l G V ho_7) (cwV 0 hw gv_RX9_48 rfl rfl rfl dd_X9_changes ⟨Nat.le_of_ble_eq_true rfl, Nat.le_of_ble_eq_true rfl⟩) (gh_preV hT hP (Nat.le_of_ble_eq_true rfl) kd213 rfl rfl) rfl rfl hl.1 rfl (lv_room (Nat.le_of_ble_eq_true rfl)) dX9_lend_52 ⟨Nat.zero_le _, Nat.zero_le _⟩) hS (fun H locs hP hS => ?_)
      exact b_55 a1 a2 a3 (MX9_changes V) _ _ _ (lv_sub hl [0, 1, 2, 3] rfl) hP hS hs hres
    have hres := hres.trans (if_neg c_6)
    refine lv_bipush (v := -2) hx hb dX9_lend_48 (by decide) ?_
    exact gh_iret hx hb hr hlocks hP hS hT hres dX9_lend_50
  have hres := hres.trans (if_pos c_4)
  refine lv_iconst (v := -1) hx hb dX9_lend_32 (by decide) ?_
  exact gh_iret hx hb hr hlocks hP hS hT hres dX9_lend_33
def BX9_set_30   (x2 : Int32) (V : gV) : Int32 × gV := ((V 214 ((11 : Int32)).toNatClampNeg), (gu V 214 ((11 : Int32)).toNatClampNeg x2))
def MX9_set  (a1 : Int32) (a2 : Int32) (V : gV) : Int32 × gV := if a1 = 0 then (if (MX9_in a2 (1 : Int32) (12 : Int32) V) = 0 then (((-1 : Int32), V)) else (if (MX9_runs V) = 0 then (BX9_set_30 a2 (MX9_changes V)) else (((-2 : Int32), V)))) else (((-1 : Int32), V))
def PX9_set  (a1 : Int32) (a2 : Int32) (V : gV) : Prop := ((a1 = 0 → ((¬ (MX9_in a2 (1 : Int32) (12 : Int32) V) = 0 → (((MX9_runs V) = 0 → (PX9_changes V)))))))
abbrev wc_X9_set : List Cond := Cond.code yX9_set cX9_set 4 (some .int) :: wsL_law
abbrev r_X9_set : Room := { frames := 1, cells := 0, slots := 0, locals := 22 }
theorem dd_X9_set : yX9_set.cls = RX9 ∧ yX9_set.cls ≠ "java/lang/invoke/MethodHandle" ∧ yX9_set.cls ≠ "java/lang/invoke/VarHandle" ∧ (parseMethodDescriptor yX9_set.desc).map (fun d => d.parameters.length) = some 2 := by decide +kernel
set_option maxHeartbeats 8000000 in
set_option maxRecDepth 100000 in
theorem cc_X9_set (l : Launch) (G : gG) (V : gV)   (a1 : Int32) (a2 : Int32) (hs : PX9_set a1 a2 V) : Met l yX9_set wc_X9_set r_X9_set (va_Pc [.ref (gA G 213), .int a1, .int a2] (gW G V)) (gQI G (MX9_set a1 a2 V)) 0 0 (gF G) := by
  refine Met.ofW (cc := cX9_set) (maxL := 4) (ret := (some .int)) (by decide) rfl ?_
  intro p e s m args below meth c s₁ B hml hv
  obtain ⟨rfl, hP, hT⟩ := hv
  have hx := B.exec
  have hb := B.bytes
  have hr := B.returns
  have hw := gh_hw (atoms_spec (ws := wc_X9_set) B.pre)
  have hown : s.vm.findClass RX9 = some m.cls := findClass_of_methodNamed B.named
  have hlocks := B.notSynchronized
  have hS : va_S (gF G) s.heap s.heap [] := va_S.rf
  have hl := lv_entry ([.ref (gA G 213), .int a1, .int a2]) (n := 4) (Nat.le_of_ble_eq_true rfl)
  rw [lg_entry_eq]
  generalize (lg_sl ([.ref (gA G 213), .int a1, .int a2]) ++ List.replicate (4 - (lg_sl ([.ref (gA G 213), .int a1, .int a2])).length) Slot.unset).toArray = ls at hl ⊢
  have hl : lv_has ls 4 [(0, .ref (gA G 213)), (1, .int a1), (2, .int a2)] := hl
  obtain ⟨res, hres⟩ : ∃ r, r = MX9_set a1 a2 V := ⟨_, rfl⟩
  rw [← hres]
  show W p l e r_X9_set s m ([.ref (gA G 213), .int a1, .int a2] : List Value).toArray below meth c s.heap [] 0 0 (MQ below (gQI G res) ([.ref (gA G 213), .int a1, .int a2] : List Value).toArray s 0 0 (gF G)) (F0 m 0 ls [])
  have hs : ((a1 = 0 → ((¬ (MX9_in a2 (1 : Int32) (12 : Int32) V) = 0 → (((MX9_runs V) = 0 → (PX9_changes V))))))) := hs
  have hres : res = (if a1 = 0 then (if (MX9_in a2 (1 : Int32) (12 : Int32) V) = 0 then (((-1 : Int32), V)) else (if (MX9_runs V) = 0 then (BX9_set_30 a2 (MX9_changes V)) else (((-2 : Int32), V)))) else (((-1 : Int32), V))) := hres
  have b_30 : ∀ (x2 : Int32) (V : gV) (H : Heap) (locs : List Loc) (ls : Array Slot), lv_has ls 4 [(0, .ref (gA G 213)), (2, .int x2)] → va_P (gD G) vwCl (gL G V) H → va_S (gF G) s.heap H locs → res = BX9_set_30  x2 V → W p l e r_X9_set s m ([.ref (gA G 213), .int a1, .int a2] : List Value).toArray below meth c H locs 0 0 (MQ below (gQI G res) ([.ref (gA G 213), .int a1, .int a2] : List Value).toArray s 0 0 (gF G)) (F0 m 30 ls []) := by
    intro x2 V H locs ls hl hP hS hres
    have hres : res = (((V 214 ((11 : Int32)).toNatClampNeg), (gu V 214 ((11 : Int32)).toNatClampNeg x2))) := hres
    refine lv_aload_n hx hb dX9_set_30 rfl (lv_at hl 0 rfl) ?_
    refine gh_get (v := .ref (gA G 214)) (C := RX9) (T := TX9) (N := 11) hx hb hw inlX9 hown hT hP 213 (Nat.le_of_ble_eq_true rfl) kd213 rfl rfl 0 (by decide) (hw _ uw117) rfl dX9_set_31 ?_
    refine lv_bipush (v := 11) hx hb dX9_set_34 (by decide) ?_
    refine gh_iald hx hb hT hP 214 (Nat.le_of_ble_eq_true rfl) kd214 (gh_ci (by decide)) dX9_set_36 ?_
    refine lv_istore_n (lv' := [(3, .int (V 214 ((11 : Int32)).toNatClampNeg)), (0, .ref (gA G 213)), (2, .int x2)]) hx hb dX9_set_37 rfl hl (by decide) rfl (fun ls hl => ?_)
    refine lv_aload_n hx hb dX9_set_38 rfl (lv_at hl 1 rfl) ?_
    refine gh_get (v := .ref (gA G 214)) (C := RX9) (T := TX9) (N := 11) hx hb hw inlX9 hown hT hP 213 (Nat.le_of_ble_eq_true rfl) kd213 rfl rfl 0 (by decide) (hw _ uw117) rfl dX9_set_39 ?_
    refine lv_bipush (v := 11) hx hb dX9_set_42 (by decide) ?_
    refine lv_iload_n hx hb dX9_set_44 rfl (lv_at hl 2 rfl) ?_
    refine gh_iast hx hb hT hP hS 214 (Nat.le_of_ble_eq_true rfl) kd214 (gh_ci (by decide)) dX9_set_45 (fun H locs hP hS => ?_)
    refine lv_iload_n hx hb dX9_set_46 rfl (lv_at hl 0 rfl) ?_
    exact gh_iret hx hb hr hlocks hP hS hT hres dX9_set_47
  refine lv_iload_n hx hb dX9_set_0 rfl (lv_at hl 1 rfl) ?_
  refine lv_if_ne (tgt := 14) hx hb dX9_set_1 (by decide) (fun c_1 => ?_) (fun c_1 => ?_)
  · have hres := hres.trans (if_neg c_1)
    refine lv_iconst (v := -1) hx hb dX9_set_14 (by decide) ?_
    exact gh_iret hx hb hr hlocks hP hS hT hres dX9_set_15
  have hres := hres.trans (if_pos c_1)
  have hs := hs c_1
  refine lv_iload_n hx hb dX9_set_4 rfl (lv_at hl 2 rfl) ?_
  refine lv_iconst (v := 1) hx hb dX9_set_5 (by decide) ?_
  refine lv_bipush (v := 12) hx hb dX9_set_6 (by decide) ?_
  refine gh_kr (va_runS (As := [.int a2, .int (1 : Int32), .int (12 : Int32)]) (rest := []) ⟨hx, hb, hml, hown, hw⟩ (cc_X9_in l G V a2 (1 : Int32) (12 : Int32)) (va_cwS 3 hw gv_RX9_40 rfl rfl rfl dd_X9_in.2 ⟨Nat.le_of_ble_eq_true rfl, Nat.le_of_ble_eq_true rfl⟩) (gh_pre hT hP) rfl rfl hl.1 rfl (lv_room (Nat.le_of_ble_eq_true rfl)) dX9_set_8 ⟨Nat.zero_le _, Nat.zero_le _⟩) hS (fun H locs hP hS => ?_)
  refine lv_if_ne (tgt := 16) hx hb dX9_set_11 (by decide) (fun c_2 => ?_) (fun c_2 => ?_)
  · have hres := hres.trans (if_neg c_2)
    have hs := hs c_2
    refine lv_aload_n hx hb dX9_set_16 rfl (lv_at hl 0 rfl) ?_
    refine gh_kr (va_runV (As := []) (rest := []) ⟨hx, hb, hml, hown, hw⟩ (cc_X9_runs l G V) (cwV 0 hw gv_RX9_44 rfl rfl rfl dd_X9_runs ⟨Nat.le_of_ble_eq_true rfl, Nat.le_of_ble_eq_true rfl⟩) (gh_preV hT hP (Nat.le_of_ble_eq_true rfl) kd213 rfl rfl) rfl rfl hl.1 rfl (lv_room (Nat.le_of_ble_eq_true rfl)) dX9_set_17 ⟨Nat.zero_le _, Nat.zero_le _⟩) hS (fun H locs hP hS => ?_)
    refine lv_if_eq (tgt := 26) hx hb dX9_set_20 (by decide) (fun c_3 => ?_) (fun c_3 => ?_)
    · have hres := hres.trans (if_pos c_3)
      have hs := hs c_3
      refine lv_aload_n hx hb dX9_set_26 rfl (lv_at hl 0 rfl) ?_
      have ho_4 := hs
      refine gh_kv (va_runV (As := []) (rest := []) ⟨hx, hb, hml, hown, hw⟩ (cc_X9_changes l G V ho_4) (cwV 0 hw gv_RX9_48 rfl rfl rfl dd_X9_changes ⟨Nat.le_of_ble_eq_true rfl, Nat.le_of_ble_eq_true rfl⟩) (gh_preV hT hP (Nat.le_of_ble_eq_true rfl) kd213 rfl rfl) rfl rfl hl.1 rfl (lv_room (Nat.le_of_ble_eq_true rfl)) dX9_set_27 ⟨Nat.zero_le _, Nat.zero_le _⟩) hS (fun H locs hP hS => ?_)
      exact b_30 a2 (MX9_changes V) _ _ _ (lv_sub hl [0, 2] rfl) hP hS hres
    have hres := hres.trans (if_neg c_3)
    refine lv_bipush (v := -2) hx hb dX9_set_23 (by decide) ?_
    exact gh_iret hx hb hr hlocks hP hS hT hres dX9_set_25
  have hres := hres.trans (if_pos c_2)
  refine lv_iconst (v := -1) hx hb dX9_set_14 (by decide) ?_
  exact gh_iret hx hb hr hlocks hP hS hT hres dX9_set_15
def BX9_seed_10   (x1 : Int32) (V : gV) : Int32 × gV := ((V 214 ((10 : Int32)).toNatClampNeg), (gu V 214 ((10 : Int32)).toNatClampNeg x1))
def MX9_seed  (a1 : Int32) (V : gV) : Int32 × gV := if 0 ≤ a1 then (BX9_seed_10 a1 (MX9_changes V)) else (((-1 : Int32), V))
def PX9_seed  (a1 : Int32) (V : gV) : Prop := ((0 ≤ a1 → (PX9_changes V)))
abbrev wc_X9_seed : List Cond := Cond.code yX9_seed cX9_seed 3 (some .int) :: wsL_law
abbrev r_X9_seed : Room := { frames := 1, cells := 0, slots := 0, locals := 21 }
theorem dd_X9_seed : yX9_seed.cls = RX9 ∧ yX9_seed.cls ≠ "java/lang/invoke/MethodHandle" ∧ yX9_seed.cls ≠ "java/lang/invoke/VarHandle" ∧ (parseMethodDescriptor yX9_seed.desc).map (fun d => d.parameters.length) = some 1 := by decide +kernel
set_option maxHeartbeats 8000000 in
set_option maxRecDepth 100000 in
theorem cc_X9_seed (l : Launch) (G : gG) (V : gV)   (a1 : Int32) (hs : PX9_seed a1 V) : Met l yX9_seed wc_X9_seed r_X9_seed (va_Pc [.ref (gA G 213), .int a1] (gW G V)) (gQI G (MX9_seed a1 V)) 0 0 (gF G) := by
  refine Met.ofW (cc := cX9_seed) (maxL := 3) (ret := (some .int)) (by decide) rfl ?_
  intro p e s m args below meth c s₁ B hml hv
  obtain ⟨rfl, hP, hT⟩ := hv
  have hx := B.exec
  have hb := B.bytes
  have hr := B.returns
  have hw := gh_hw (atoms_spec (ws := wc_X9_seed) B.pre)
  have hown : s.vm.findClass RX9 = some m.cls := findClass_of_methodNamed B.named
  have hlocks := B.notSynchronized
  have hS : va_S (gF G) s.heap s.heap [] := va_S.rf
  have hl := lv_entry ([.ref (gA G 213), .int a1]) (n := 3) (Nat.le_of_ble_eq_true rfl)
  rw [lg_entry_eq]
  generalize (lg_sl ([.ref (gA G 213), .int a1]) ++ List.replicate (3 - (lg_sl ([.ref (gA G 213), .int a1])).length) Slot.unset).toArray = ls at hl ⊢
  have hl : lv_has ls 3 [(0, .ref (gA G 213)), (1, .int a1)] := hl
  obtain ⟨res, hres⟩ : ∃ r, r = MX9_seed a1 V := ⟨_, rfl⟩
  rw [← hres]
  show W p l e r_X9_seed s m ([.ref (gA G 213), .int a1] : List Value).toArray below meth c s.heap [] 0 0 (MQ below (gQI G res) ([.ref (gA G 213), .int a1] : List Value).toArray s 0 0 (gF G)) (F0 m 0 ls [])
  have hs : ((0 ≤ a1 → (PX9_changes V))) := hs
  have hres : res = (if 0 ≤ a1 then (BX9_seed_10 a1 (MX9_changes V)) else (((-1 : Int32), V))) := hres
  have b_10 : ∀ (x1 : Int32) (V : gV) (H : Heap) (locs : List Loc) (ls : Array Slot), lv_has ls 3 [(0, .ref (gA G 213)), (1, .int x1)] → va_P (gD G) vwCl (gL G V) H → va_S (gF G) s.heap H locs → res = BX9_seed_10  x1 V → W p l e r_X9_seed s m ([.ref (gA G 213), .int a1] : List Value).toArray below meth c H locs 0 0 (MQ below (gQI G res) ([.ref (gA G 213), .int a1] : List Value).toArray s 0 0 (gF G)) (F0 m 10 ls []) := by
    intro x1 V H locs ls hl hP hS hres
    have hres : res = (((V 214 ((10 : Int32)).toNatClampNeg), (gu V 214 ((10 : Int32)).toNatClampNeg x1))) := hres
    refine lv_aload_n hx hb dX9_seed_10 rfl (lv_at hl 0 rfl) ?_
    refine gh_get (v := .ref (gA G 214)) (C := RX9) (T := TX9) (N := 11) hx hb hw inlX9 hown hT hP 213 (Nat.le_of_ble_eq_true rfl) kd213 rfl rfl 0 (by decide) (hw _ uw117) rfl dX9_seed_11 ?_
    refine lv_bipush (v := 10) hx hb dX9_seed_14 (by decide) ?_
    refine gh_iald hx hb hT hP 214 (Nat.le_of_ble_eq_true rfl) kd214 (gh_ci (by decide)) dX9_seed_16 ?_
    refine lv_istore_n (lv' := [(2, .int (V 214 ((10 : Int32)).toNatClampNeg)), (0, .ref (gA G 213)), (1, .int x1)]) hx hb dX9_seed_17 rfl hl (by decide) rfl (fun ls hl => ?_)
    refine lv_aload_n hx hb dX9_seed_18 rfl (lv_at hl 1 rfl) ?_
    refine gh_get (v := .ref (gA G 214)) (C := RX9) (T := TX9) (N := 11) hx hb hw inlX9 hown hT hP 213 (Nat.le_of_ble_eq_true rfl) kd213 rfl rfl 0 (by decide) (hw _ uw117) rfl dX9_seed_19 ?_
    refine lv_bipush (v := 10) hx hb dX9_seed_22 (by decide) ?_
    refine lv_iload_n hx hb dX9_seed_24 rfl (lv_at hl 2 rfl) ?_
    refine gh_iast hx hb hT hP hS 214 (Nat.le_of_ble_eq_true rfl) kd214 (gh_ci (by decide)) dX9_seed_25 (fun H locs hP hS => ?_)
    refine lv_iload_n hx hb dX9_seed_26 rfl (lv_at hl 0 rfl) ?_
    exact gh_iret hx hb hr hlocks hP hS hT hres dX9_seed_27
  refine lv_iload_n hx hb dX9_seed_0 rfl (lv_at hl 1 rfl) ?_
  refine lv_if_ge (tgt := 6) hx hb dX9_seed_1 (by decide) (fun c_1 => ?_) (fun c_1 => ?_)
  · have hres := hres.trans (if_pos c_1)
    have hs := hs c_1
    refine lv_aload_n hx hb dX9_seed_6 rfl (lv_at hl 0 rfl) ?_
    have ho_2 := hs
    refine gh_kv (va_runV (As := []) (rest := []) ⟨hx, hb, hml, hown, hw⟩ (cc_X9_changes l G V ho_2) (cwV 0 hw gv_RX9_48 rfl rfl rfl dd_X9_changes ⟨Nat.le_of_ble_eq_true rfl, Nat.le_of_ble_eq_true rfl⟩) (gh_preV hT hP (Nat.le_of_ble_eq_true rfl) kd213 rfl rfl) rfl rfl hl.1 rfl (lv_room (Nat.le_of_ble_eq_true rfl)) dX9_seed_7 ⟨Nat.zero_le _, Nat.zero_le _⟩) hS (fun H locs hP hS => ?_)
    exact b_10 a1 (MX9_changes V) _ _ _ (lv_sub hl [0, 1] rfl) hP hS hres
  have hres := hres.trans (if_neg c_1)
  refine lv_iconst (v := -1) hx hb dX9_seed_4 (by decide) ?_
  exact gh_iret hx hb hr hlocks hP hS hT hres dX9_seed_5
theorem gv_RX9_68 : GoodIn wsL_law (wsV RX9 68 RX9 yX9_canPay wc_X9_canPay) := gh_gV uw348 uw349 uw350 uw5 uw351
def BX9_begin_242  (K206 : Int32 → Int32 → gV → Int32 × gV) (x1 : Int32) (x2 : Int32) (V : gV) : Int32 × gV := K206 x1 (x2 + (1 : Int32)) V
def PX9_begin_242  (KP206 : Int32 → Int32 → gV → Prop) (x1 : Int32) (x2 : Int32) (V : gV) : Prop := (KP206 x1 (x2 + (1 : Int32)) V)
def BX9_begin_230  (K206 : Int32 → Int32 → gV → Int32 × gV) (x1 : Int32) (x2 : Int32) (V : gV) : Int32 × gV := BX9_begin_242 K206 x1 x2 (gu V 214 ((MX9_at x2 (4 : Int32) V)).toNatClampNeg (26 : Int32))
def PX9_begin_230  (KP206 : Int32 → Int32 → gV → Prop) (x1 : Int32) (x2 : Int32) (V : gV) : Prop := (vp_in (MX9_at x2 (4 : Int32) V) 246) ∧ (PX9_begin_242 KP206 x1 x2 (gu V 214 ((MX9_at x2 (4 : Int32) V)).toNatClampNeg (26 : Int32)))
def BX9_begin_206   : Nat → Int32 → Int32 → gV → Int32 × gV
  | 0, _, _, V => (0, V)
  | n + 1, x1, x2, V => if (V 214 ((1 : Int32)).toNatClampNeg) ≤ x2 then (((MX9_of (V 214 ((13 : Int32)).toNatClampNeg) (0 : Int32) V), V)) else (BX9_begin_230 (BX9_begin_206 n) x1 x2 (gu V 214 ((MX9_at x2 (0 : Int32) V)).toNatClampNeg ((V 214 ((MX9_at x2 (0 : Int32) V)).toNatClampNeg) - x1)))
def PX9_begin_206   : Nat → Int32 → Int32 → gV → Prop
  | 0, _, _, _ => False
  | n + 1, x1, x2, V => (((V 214 ((1 : Int32)).toNatClampNeg) ≤ x2 → (PX9_of (V 214 ((13 : Int32)).toNatClampNeg) (0 : Int32) V)) ∧ (¬ (V 214 ((1 : Int32)).toNatClampNeg) ≤ x2 → (vp_in (MX9_at x2 (0 : Int32) V) 246) ∧ (vp_in (MX9_at x2 (0 : Int32) V) 246) ∧ (PX9_begin_230 (PX9_begin_206 n) x1 x2 (gu V 214 ((MX9_at x2 (0 : Int32) V)).toNatClampNeg ((V 214 ((MX9_at x2 (0 : Int32) V)).toNatClampNeg) - x1)))))
def BX9_begin_204   (x1 : Int32) (V : gV) : Int32 × gV := BX9_begin_206 1000 x1 (0 : Int32) V
def PX9_begin_204   (x1 : Int32) (V : gV) : Prop := (PX9_begin_206 1000 x1 (0 : Int32) V)
def BX9_begin_193   (x1 : Int32) (V : gV) : Int32 × gV := BX9_begin_204 x1 (gu V 214 ((8 : Int32)).toNatClampNeg ((V 214 ((8 : Int32)).toNatClampNeg) + (1 : Int32)))
def PX9_begin_193   (x1 : Int32) (V : gV) : Prop := (PX9_begin_204 x1 (gu V 214 ((8 : Int32)).toNatClampNeg ((V 214 ((8 : Int32)).toNatClampNeg) + (1 : Int32))))
def BX9_begin_186   (x1 : Int32) (V : gV) : Int32 × gV := BX9_begin_193 x1 (gu V 214 ((2 : Int32)).toNatClampNeg (1 : Int32))
def PX9_begin_186   (x1 : Int32) (V : gV) : Prop := (PX9_begin_193 x1 (gu V 214 ((2 : Int32)).toNatClampNeg (1 : Int32)))
def BX9_begin_178   (x1 : Int32) (V : gV) : Int32 × gV := BX9_begin_186 x1 (gu V 214 ((7 : Int32)).toNatClampNeg (0 : Int32))
def PX9_begin_178   (x1 : Int32) (V : gV) : Prop := (PX9_begin_186 x1 (gu V 214 ((7 : Int32)).toNatClampNeg (0 : Int32)))
def BX9_begin_170   (x1 : Int32) (V : gV) : Int32 × gV := BX9_begin_178 x1 (gu V 214 ((6 : Int32)).toNatClampNeg (0 : Int32))
def PX9_begin_170   (x1 : Int32) (V : gV) : Prop := (PX9_begin_178 x1 (gu V 214 ((6 : Int32)).toNatClampNeg (0 : Int32)))
def BX9_begin_163   (x1 : Int32) (V : gV) : Int32 × gV := BX9_begin_170 x1 (gu V 214 ((5 : Int32)).toNatClampNeg (0 : Int32))
def PX9_begin_163   (x1 : Int32) (V : gV) : Prop := (PX9_begin_170 x1 (gu V 214 ((5 : Int32)).toNatClampNeg (0 : Int32)))
def BX9_begin_155   (x1 : Int32) (V : gV) : Int32 × gV := BX9_begin_163 x1 (gu V 214 ((14 : Int32)).toNatClampNeg x1)
def PX9_begin_155   (x1 : Int32) (V : gV) : Prop := (PX9_begin_163 x1 (gu V 214 ((14 : Int32)).toNatClampNeg x1))
def BX9_begin_141   (x1 : Int32) (V : gV) : Int32 × gV := BX9_begin_155 x1 (gu V 214 ((4 : Int32)).toNatClampNeg (x1 * (V 214 ((1 : Int32)).toNatClampNeg)))
def PX9_begin_141   (x1 : Int32) (V : gV) : Prop := (PX9_begin_155 x1 (gu V 214 ((4 : Int32)).toNatClampNeg (x1 * (V 214 ((1 : Int32)).toNatClampNeg))))
def BX9_begin_128   (x1 : Int32) (V : gV) : Int32 × gV := BX9_begin_141 x1 (gu V 214 ((3 : Int32)).toNatClampNeg (V 214 ((12 : Int32)).toNatClampNeg))
def PX9_begin_128   (x1 : Int32) (V : gV) : Prop := (PX9_begin_141 x1 (gu V 214 ((3 : Int32)).toNatClampNeg (V 214 ((12 : Int32)).toNatClampNeg)))
def BX9_begin_105   (x1 : Int32) (V : gV) : Int32 × gV := BX9_begin_128 x1 (gu V 214 ((12 : Int32)).toNatClampNeg (((V 214 ((12 : Int32)).toNatClampNeg) + (1 : Int32)) - ((V 214 ((12 : Int32)).toNatClampNeg) + (1 : Int32)) / (V 214 ((1 : Int32)).toNatClampNeg) * (V 214 ((1 : Int32)).toNatClampNeg)))
def PX9_begin_105   (x1 : Int32) (V : gV) : Prop := (¬ (V 214 ((1 : Int32)).toNatClampNeg) = 0) ∧ (PX9_begin_128 x1 (gu V 214 ((12 : Int32)).toNatClampNeg (((V 214 ((12 : Int32)).toNatClampNeg) + (1 : Int32)) - ((V 214 ((12 : Int32)).toNatClampNeg) + (1 : Int32)) / (V 214 ((1 : Int32)).toNatClampNeg) * (V 214 ((1 : Int32)).toNatClampNeg))))
def BX9_begin_81   (x1 : Int32) (V : gV) : Int32 × gV := BX9_begin_105 x1 (gu V 214 ((((16 : Int32) + ((11 : Int32) * (V 214 ((13 : Int32)).toNatClampNeg))) + (2 : Int32))).toNatClampNeg ((V 214 ((((16 : Int32) + ((11 : Int32) * (V 214 ((13 : Int32)).toNatClampNeg))) + (2 : Int32))).toNatClampNeg) + (1 : Int32)))
def PX9_begin_81   (x1 : Int32) (V : gV) : Prop := (vp_in (((16 : Int32) + ((11 : Int32) * (V 214 ((13 : Int32)).toNatClampNeg))) + (2 : Int32)) 246) ∧ (vp_in (((16 : Int32) + ((11 : Int32) * (V 214 ((13 : Int32)).toNatClampNeg))) + (2 : Int32)) 246) ∧ (PX9_begin_105 x1 (gu V 214 ((((16 : Int32) + ((11 : Int32) * (V 214 ((13 : Int32)).toNatClampNeg))) + (2 : Int32))).toNatClampNeg ((V 214 ((((16 : Int32) + ((11 : Int32) * (V 214 ((13 : Int32)).toNatClampNeg))) + (2 : Int32))).toNatClampNeg) + (1 : Int32))))
def BX9_begin_63   (x1 : Int32) (V : gV) : Int32 × gV := BX9_begin_81 x1 (gu V 214 ((13 : Int32)).toNatClampNeg (MX9_wordBy (V 214 ((10 : Int32)).toNatClampNeg) V))
def PX9_begin_63   (x1 : Int32) (V : gV) : Prop := (PX9_wordBy (V 214 ((10 : Int32)).toNatClampNeg) V) ∧ (PX9_begin_81 x1 (gu V 214 ((13 : Int32)).toNatClampNeg (MX9_wordBy (V 214 ((10 : Int32)).toNatClampNeg) V)))
def BX9_begin_52   (x1 : Int32) (V : gV) : Int32 × gV := BX9_begin_63 x1 (gu V 214 ((10 : Int32)).toNatClampNeg (MX9_drawn V))
def PX9_begin_52   (x1 : Int32) (V : gV) : Prop := (PX9_begin_63 x1 (gu V 214 ((10 : Int32)).toNatClampNeg (MX9_drawn V)))
def MX9_begin  (a1 : Int32) (V : gV) : Int32 × gV := if (MX9_in a1 (1 : Int32) (50 : Int32) V) = 0 then (((-1 : Int32), V)) else (if (MX9_runs V) = 0 then (if (V 214 ((0 : Int32)).toNatClampNeg) = 0 then (((-2 : Int32), V)) else (if (V 214 ((1 : Int32)).toNatClampNeg) = 0 then (((-2 : Int32), V)) else (if (MX9_canPay a1 V) = 0 then (((-2 : Int32), V)) else (BX9_begin_52 a1 (MX9_changes V))))) else (((-2 : Int32), V)))
def PX9_begin  (a1 : Int32) (V : gV) : Prop := ((¬ (MX9_in a1 (1 : Int32) (50 : Int32) V) = 0 → (((MX9_runs V) = 0 → ((¬ (V 214 ((0 : Int32)).toNatClampNeg) = 0 → ((¬ (V 214 ((1 : Int32)).toNatClampNeg) = 0 → (PX9_canPay a1 V) ∧ ((¬ (MX9_canPay a1 V) = 0 → (PX9_changes V) ∧ (PX9_begin_52 a1 (MX9_changes V))))))))))))
abbrev wc_X9_begin : List Cond := Cond.code yX9_begin cX9_begin 3 (some .int) :: wsL_law
abbrev r_X9_begin : Room := { frames := 3, cells := 0, slots := 0, locals := 67 }
theorem dd_X9_begin : yX9_begin.cls = RX9 ∧ yX9_begin.cls ≠ "java/lang/invoke/MethodHandle" ∧ yX9_begin.cls ≠ "java/lang/invoke/VarHandle" ∧ (parseMethodDescriptor yX9_begin.desc).map (fun d => d.parameters.length) = some 1 := by decide +kernel
set_option maxHeartbeats 8000000 in
set_option maxRecDepth 100000 in
theorem cc_X9_begin (l : Launch) (G : gG) (V : gV)   (a1 : Int32) (hs : PX9_begin a1 V) : Met l yX9_begin wc_X9_begin r_X9_begin (va_Pc [.ref (gA G 213), .int a1] (gW G V)) (gQI G (MX9_begin a1 V)) 0 0 (gF G) := by
  refine Met.ofW (cc := cX9_begin) (maxL := 3) (ret := (some .int)) (by decide) rfl ?_
  intro p e s m args below meth c s₁ B hml hv
  obtain ⟨rfl, hP, hT⟩ := hv
  have hx := B.exec
  have hb := B.bytes
  have hr := B.returns
  have hw := gh_hw (atoms_spec (ws := wc_X9_begin) B.pre)
  have hown : s.vm.findClass RX9 = some m.cls := findClass_of_methodNamed B.named
  have hlocks := B.notSynchronized
  have hS : va_S (gF G) s.heap s.heap [] := va_S.rf
  have hl := lv_entry ([.ref (gA G 213), .int a1]) (n := 3) (Nat.le_of_ble_eq_true rfl)
  rw [lg_entry_eq]
  generalize (lg_sl ([.ref (gA G 213), .int a1]) ++ List.replicate (3 - (lg_sl ([.ref (gA G 213), .int a1])).length) Slot.unset).toArray = ls at hl ⊢
  have hl : lv_has ls 3 [(0, .ref (gA G 213)), (1, .int a1)] := hl
  obtain ⟨res, hres⟩ : ∃ r, r = MX9_begin a1 V := ⟨_, rfl⟩
  rw [← hres]
  show W p l e r_X9_begin s m ([.ref (gA G 213), .int a1] : List Value).toArray below meth c s.heap [] 0 0 (MQ below (gQI G res) ([.ref (gA G 213), .int a1] : List Value).toArray s 0 0 (gF G)) (F0 m 0 ls [])
  have hs : ((¬ (MX9_in a1 (1 : Int32) (50 : Int32) V) = 0 → (((MX9_runs V) = 0 → ((¬ (V 214 ((0 : Int32)).toNatClampNeg) = 0 → ((¬ (V 214 ((1 : Int32)).toNatClampNeg) = 0 → (PX9_canPay a1 V) ∧ ((¬ (MX9_canPay a1 V) = 0 → (PX9_changes V) ∧ (PX9_begin_52 a1 (MX9_changes V)))))))))))) := hs
  have hres : res = (if (MX9_in a1 (1 : Int32) (50 : Int32) V) = 0 then (((-1 : Int32), V)) else (if (MX9_runs V) = 0 then (if (V 214 ((0 : Int32)).toNatClampNeg) = 0 then (((-2 : Int32), V)) else (if (V 214 ((1 : Int32)).toNatClampNeg) = 0 then (((-2 : Int32), V)) else (if (MX9_canPay a1 V) = 0 then (((-2 : Int32), V)) else (BX9_begin_52 a1 (MX9_changes V))))) else (((-2 : Int32), V)))) := hres
  have b_206 : ∀ (n : Nat) (x1 : Int32) (x2 : Int32) (V : gV) (H : Heap) (locs : List Loc) (ls : Array Slot), lv_has ls 3 [(0, .ref (gA G 213)), (1, .int x1), (2, .int x2)] → va_P (gD G) vwCl (gL G V) H → va_S (gF G) s.heap H locs → PX9_begin_206  n x1 x2 V → res = BX9_begin_206  n x1 x2 V → W p l e r_X9_begin s m ([.ref (gA G 213), .int a1] : List Value).toArray below meth c H locs 0 0 (MQ below (gQI G res) ([.ref (gA G 213), .int a1] : List Value).toArray s 0 0 (gF G)) (F0 m 206 ls []) := by
    intro n
    induction n with
    | zero =>
      intro x1 x2 V H locs ls hl hP hS hs hres
      exact (show False from hs).elim
    | succ n206 ih206 =>
      have b_242 : ∀ (x1 : Int32) (x2 : Int32) (V : gV) (H : Heap) (locs : List Loc) (ls : Array Slot), lv_has ls 3 [(0, .ref (gA G 213)), (1, .int x1), (2, .int x2)] → va_P (gD G) vwCl (gL G V) H → va_S (gF G) s.heap H locs → PX9_begin_242 (PX9_begin_206 n206) x1 x2 V → res = BX9_begin_242 (BX9_begin_206 n206) x1 x2 V → W p l e r_X9_begin s m ([.ref (gA G 213), .int a1] : List Value).toArray below meth c H locs 0 0 (MQ below (gQI G res) ([.ref (gA G 213), .int a1] : List Value).toArray s 0 0 (gF G)) (F0 m 242 ls []) := by
        intro x1 x2 V H locs ls hl hP hS hs hres
        have hs : ((PX9_begin_206 n206) x1 (x2 + (1 : Int32)) V) := hs
        have hres : res = ((BX9_begin_206 n206) x1 (x2 + (1 : Int32)) V) := hres
        refine lv_iinc (v := (x2 + (1 : Int32))) (lv' := [(2, .int (x2 + (1 : Int32))), (0, .ref (gA G 213)), (1, .int x1)]) hx hb dX9_begin_242 hl (k := 2) rfl rfl (by decide) rfl (fun ls hl => ?_)
        refine lv_goto (tgt := 206) hx hb dX9_begin_245 (by decide) ?_
        exact ih206 x1 (x2 + (1 : Int32)) V _ _ _ (lv_sub hl [1, 2, 0] rfl) hP hS hs hres
      have b_230 : ∀ (x1 : Int32) (x2 : Int32) (V : gV) (H : Heap) (locs : List Loc) (ls : Array Slot), lv_has ls 3 [(0, .ref (gA G 213)), (1, .int x1), (2, .int x2)] → va_P (gD G) vwCl (gL G V) H → va_S (gF G) s.heap H locs → PX9_begin_230 (PX9_begin_206 n206) x1 x2 V → res = BX9_begin_230 (BX9_begin_206 n206) x1 x2 V → W p l e r_X9_begin s m ([.ref (gA G 213), .int a1] : List Value).toArray below meth c H locs 0 0 (MQ below (gQI G res) ([.ref (gA G 213), .int a1] : List Value).toArray s 0 0 (gF G)) (F0 m 230 ls []) := by
        intro x1 x2 V H locs ls hl hP hS hs hres
        have hs : (vp_in (MX9_at x2 (4 : Int32) V) 246) ∧ (PX9_begin_242 (PX9_begin_206 n206) x1 x2 (gu V 214 ((MX9_at x2 (4 : Int32) V)).toNatClampNeg (26 : Int32))) := hs
        have hres : res = (BX9_begin_242 (BX9_begin_206 n206) x1 x2 (gu V 214 ((MX9_at x2 (4 : Int32) V)).toNatClampNeg (26 : Int32))) := hres
        refine lv_aload_n hx hb dX9_begin_230 rfl (lv_at hl 0 rfl) ?_
        refine gh_get (v := .ref (gA G 214)) (C := RX9) (T := TX9) (N := 11) hx hb hw inlX9 hown hT hP 213 (Nat.le_of_ble_eq_true rfl) kd213 rfl rfl 0 (by decide) (hw _ uw117) rfl dX9_begin_231 ?_
        refine lv_iload_n hx hb dX9_begin_234 rfl (lv_at hl 2 rfl) ?_
        refine lv_iconst (v := 4) hx hb dX9_begin_235 (by decide) ?_
        refine gh_kr (va_runS (As := [.int x2, .int (4 : Int32)]) (rest := [.ref (gA G 214)]) ⟨hx, hb, hml, hown, hw⟩ (cc_X9_at l G V x2 (4 : Int32)) (va_cwS 2 hw gv_RX9_51 rfl rfl rfl dd_X9_at.2 ⟨Nat.le_of_ble_eq_true rfl, Nat.le_of_ble_eq_true rfl⟩) (gh_pre hT hP) rfl rfl hl.1 rfl (lv_room (Nat.le_of_ble_eq_true rfl)) dX9_begin_236 ⟨Nat.zero_le _, Nat.zero_le _⟩) hS (fun H locs hP hS => ?_)
        refine lv_bipush (v := 26) hx hb dX9_begin_239 (by decide) ?_
        obtain ⟨ho_16, hs⟩ := hs
        refine gh_iast hx hb hT hP hS 214 (Nat.le_of_ble_eq_true rfl) kd214 ho_16 dX9_begin_241 (fun H locs hP hS => ?_)
        exact b_242 x1 x2 (gu V 214 ((MX9_at x2 (4 : Int32) V)).toNatClampNeg (26 : Int32)) _ _ _ (lv_sub hl [0, 1, 2] rfl) hP hS hs hres
      intro x1 x2 V H locs ls hl hP hS hs hres
      have hs : (((V 214 ((1 : Int32)).toNatClampNeg) ≤ x2 → (PX9_of (V 214 ((13 : Int32)).toNatClampNeg) (0 : Int32) V)) ∧ (¬ (V 214 ((1 : Int32)).toNatClampNeg) ≤ x2 → (vp_in (MX9_at x2 (0 : Int32) V) 246) ∧ (vp_in (MX9_at x2 (0 : Int32) V) 246) ∧ (PX9_begin_230 (PX9_begin_206 n206) x1 x2 (gu V 214 ((MX9_at x2 (0 : Int32) V)).toNatClampNeg ((V 214 ((MX9_at x2 (0 : Int32) V)).toNatClampNeg) - x1))))) := hs
      have hres : res = (if (V 214 ((1 : Int32)).toNatClampNeg) ≤ x2 then (((MX9_of (V 214 ((13 : Int32)).toNatClampNeg) (0 : Int32) V), V)) else (BX9_begin_230 (BX9_begin_206 n206) x1 x2 (gu V 214 ((MX9_at x2 (0 : Int32) V)).toNatClampNeg ((V 214 ((MX9_at x2 (0 : Int32) V)).toNatClampNeg) - x1)))) := hres
      refine lv_iload_n hx hb dX9_begin_206 rfl (lv_at hl 2 rfl) ?_
      refine lv_aload_n hx hb dX9_begin_207 rfl (lv_at hl 0 rfl) ?_
      refine gh_get (v := .ref (gA G 214)) (C := RX9) (T := TX9) (N := 11) hx hb hw inlX9 hown hT hP 213 (Nat.le_of_ble_eq_true rfl) kd213 rfl rfl 0 (by decide) (hw _ uw117) rfl dX9_begin_208 ?_
      refine lv_iconst (v := 1) hx hb dX9_begin_211 (by decide) ?_
      refine gh_iald hx hb hT hP 214 (Nat.le_of_ble_eq_true rfl) kd214 (gh_ci (by decide)) dX9_begin_212 ?_
      refine lv_icmp_ge (tgt := 248) hx hb dX9_begin_213 (by decide) (fun c_12 => ?_) (fun c_12 => ?_)
      · have hres := hres.trans (if_pos c_12)
        have hs := hs.1 c_12
        refine lv_aload_n hx hb dX9_begin_248 rfl (lv_at hl 0 rfl) ?_
        refine lv_aload_n hx hb dX9_begin_249 rfl (lv_at hl 0 rfl) ?_
        refine gh_get (v := .ref (gA G 214)) (C := RX9) (T := TX9) (N := 11) hx hb hw inlX9 hown hT hP 213 (Nat.le_of_ble_eq_true rfl) kd213 rfl rfl 0 (by decide) (hw _ uw117) rfl dX9_begin_250 ?_
        refine lv_bipush (v := 13) hx hb dX9_begin_253 (by decide) ?_
        refine gh_iald hx hb hT hP 214 (Nat.le_of_ble_eq_true rfl) kd214 (gh_ci (by decide)) dX9_begin_255 ?_
        refine lv_iconst (v := 0) hx hb dX9_begin_256 (by decide) ?_
        have ho_13 := hs
        refine gh_kr (va_runV (As := [.int (V 214 ((13 : Int32)).toNatClampNeg), .int (0 : Int32)]) (rest := []) ⟨hx, hb, hml, hown, hw⟩ (cc_X9_of l G V (V 214 ((13 : Int32)).toNatClampNeg) (0 : Int32) ho_13) (cwV 2 hw gv_RX9_29 rfl rfl rfl dd_X9_of ⟨Nat.le_of_ble_eq_true rfl, Nat.le_of_ble_eq_true rfl⟩) (gh_preV hT hP (Nat.le_of_ble_eq_true rfl) kd213 rfl rfl) rfl rfl hl.1 rfl (lv_room (Nat.le_of_ble_eq_true rfl)) dX9_begin_257 ⟨Nat.zero_le _, Nat.zero_le _⟩) hS (fun H locs hP hS => ?_)
        exact gh_iret hx hb hr hlocks hP hS hT hres dX9_begin_260
      have hres := hres.trans (if_neg c_12)
      have hs := hs.2 c_12
      refine lv_aload_n hx hb dX9_begin_216 rfl (lv_at hl 0 rfl) ?_
      refine gh_get (v := .ref (gA G 214)) (C := RX9) (T := TX9) (N := 11) hx hb hw inlX9 hown hT hP 213 (Nat.le_of_ble_eq_true rfl) kd213 rfl rfl 0 (by decide) (hw _ uw117) rfl dX9_begin_217 ?_
      refine lv_iload_n hx hb dX9_begin_220 rfl (lv_at hl 2 rfl) ?_
      refine lv_iconst (v := 0) hx hb dX9_begin_221 (by decide) ?_
      refine gh_kr (va_runS (As := [.int x2, .int (0 : Int32)]) (rest := [.ref (gA G 214)]) ⟨hx, hb, hml, hown, hw⟩ (cc_X9_at l G V x2 (0 : Int32)) (va_cwS 2 hw gv_RX9_51 rfl rfl rfl dd_X9_at.2 ⟨Nat.le_of_ble_eq_true rfl, Nat.le_of_ble_eq_true rfl⟩) (gh_pre hT hP) rfl rfl hl.1 rfl (lv_room (Nat.le_of_ble_eq_true rfl)) dX9_begin_222 ⟨Nat.zero_le _, Nat.zero_le _⟩) hS (fun H locs hP hS => ?_)
      refine lv_dup2_11 hx hb dX9_begin_225 rfl rfl ?_
      obtain ⟨ho_14, hs⟩ := hs
      refine gh_iald hx hb hT hP 214 (Nat.le_of_ble_eq_true rfl) kd214 ho_14 dX9_begin_226 ?_
      refine lv_iload_n hx hb dX9_begin_227 rfl (lv_at hl 1 rfl) ?_
      refine lv_isub hx hb dX9_begin_228 ?_
      obtain ⟨ho_15, hs⟩ := hs
      refine gh_iast hx hb hT hP hS 214 (Nat.le_of_ble_eq_true rfl) kd214 ho_15 dX9_begin_229 (fun H locs hP hS => ?_)
      exact b_230 x1 x2 (gu V 214 ((MX9_at x2 (0 : Int32) V)).toNatClampNeg ((V 214 ((MX9_at x2 (0 : Int32) V)).toNatClampNeg) - x1)) _ _ _ (lv_sub hl [0, 1, 2] rfl) hP hS hs hres
  have b_204 : ∀ (x1 : Int32) (V : gV) (H : Heap) (locs : List Loc) (ls : Array Slot), lv_has ls 3 [(0, .ref (gA G 213)), (1, .int x1)] → va_P (gD G) vwCl (gL G V) H → va_S (gF G) s.heap H locs → PX9_begin_204  x1 V → res = BX9_begin_204  x1 V → W p l e r_X9_begin s m ([.ref (gA G 213), .int a1] : List Value).toArray below meth c H locs 0 0 (MQ below (gQI G res) ([.ref (gA G 213), .int a1] : List Value).toArray s 0 0 (gF G)) (F0 m 204 ls []) := by
    intro x1 V H locs ls hl hP hS hs hres
    have hs : (PX9_begin_206 1000 x1 (0 : Int32) V) := hs
    have hres : res = (BX9_begin_206 1000 x1 (0 : Int32) V) := hres
    refine lv_iconst (v := 0) hx hb dX9_begin_204 (by decide) ?_
    refine lv_istore_n (lv' := [(2, .int (0 : Int32)), (0, .ref (gA G 213)), (1, .int x1)]) hx hb dX9_begin_205 rfl hl (by decide) rfl (fun ls hl => ?_)
    exact b_206 1000 x1 (0 : Int32) V _ _ _ (lv_sub hl [1, 2, 0] rfl) hP hS hs hres
  have b_193 : ∀ (x1 : Int32) (V : gV) (H : Heap) (locs : List Loc) (ls : Array Slot), lv_has ls 3 [(0, .ref (gA G 213)), (1, .int x1)] → va_P (gD G) vwCl (gL G V) H → va_S (gF G) s.heap H locs → PX9_begin_193  x1 V → res = BX9_begin_193  x1 V → W p l e r_X9_begin s m ([.ref (gA G 213), .int a1] : List Value).toArray below meth c H locs 0 0 (MQ below (gQI G res) ([.ref (gA G 213), .int a1] : List Value).toArray s 0 0 (gF G)) (F0 m 193 ls []) := by
    intro x1 V H locs ls hl hP hS hs hres
    have hs : (PX9_begin_204 x1 (gu V 214 ((8 : Int32)).toNatClampNeg ((V 214 ((8 : Int32)).toNatClampNeg) + (1 : Int32)))) := hs
    have hres : res = (BX9_begin_204 x1 (gu V 214 ((8 : Int32)).toNatClampNeg ((V 214 ((8 : Int32)).toNatClampNeg) + (1 : Int32)))) := hres
    refine lv_aload_n hx hb dX9_begin_193 rfl (lv_at hl 0 rfl) ?_
    refine gh_get (v := .ref (gA G 214)) (C := RX9) (T := TX9) (N := 11) hx hb hw inlX9 hown hT hP 213 (Nat.le_of_ble_eq_true rfl) kd213 rfl rfl 0 (by decide) (hw _ uw117) rfl dX9_begin_194 ?_
    refine lv_bipush (v := 8) hx hb dX9_begin_197 (by decide) ?_
    refine lv_dup2_11 hx hb dX9_begin_199 rfl rfl ?_
    refine gh_iald hx hb hT hP 214 (Nat.le_of_ble_eq_true rfl) kd214 (gh_ci (by decide)) dX9_begin_200 ?_
    refine lv_iconst (v := 1) hx hb dX9_begin_201 (by decide) ?_
    refine lv_iadd hx hb dX9_begin_202 ?_
    refine gh_iast hx hb hT hP hS 214 (Nat.le_of_ble_eq_true rfl) kd214 (gh_ci (by decide)) dX9_begin_203 (fun H locs hP hS => ?_)
    exact b_204 x1 (gu V 214 ((8 : Int32)).toNatClampNeg ((V 214 ((8 : Int32)).toNatClampNeg) + (1 : Int32))) _ _ _ (lv_sub hl [0, 1] rfl) hP hS hs hres
  have b_186 : ∀ (x1 : Int32) (V : gV) (H : Heap) (locs : List Loc) (ls : Array Slot), lv_has ls 3 [(0, .ref (gA G 213)), (1, .int x1)] → va_P (gD G) vwCl (gL G V) H → va_S (gF G) s.heap H locs → PX9_begin_186  x1 V → res = BX9_begin_186  x1 V → W p l e r_X9_begin s m ([.ref (gA G 213), .int a1] : List Value).toArray below meth c H locs 0 0 (MQ below (gQI G res) ([.ref (gA G 213), .int a1] : List Value).toArray s 0 0 (gF G)) (F0 m 186 ls []) := by
    intro x1 V H locs ls hl hP hS hs hres
    have hs : (PX9_begin_193 x1 (gu V 214 ((2 : Int32)).toNatClampNeg (1 : Int32))) := hs
    have hres : res = (BX9_begin_193 x1 (gu V 214 ((2 : Int32)).toNatClampNeg (1 : Int32))) := hres
    refine lv_aload_n hx hb dX9_begin_186 rfl (lv_at hl 0 rfl) ?_
    refine gh_get (v := .ref (gA G 214)) (C := RX9) (T := TX9) (N := 11) hx hb hw inlX9 hown hT hP 213 (Nat.le_of_ble_eq_true rfl) kd213 rfl rfl 0 (by decide) (hw _ uw117) rfl dX9_begin_187 ?_
    refine lv_iconst (v := 2) hx hb dX9_begin_190 (by decide) ?_
    refine lv_iconst (v := 1) hx hb dX9_begin_191 (by decide) ?_
    refine gh_iast hx hb hT hP hS 214 (Nat.le_of_ble_eq_true rfl) kd214 (gh_ci (by decide)) dX9_begin_192 (fun H locs hP hS => ?_)
    exact b_193 x1 (gu V 214 ((2 : Int32)).toNatClampNeg (1 : Int32)) _ _ _ (lv_sub hl [0, 1] rfl) hP hS hs hres
  have b_178 : ∀ (x1 : Int32) (V : gV) (H : Heap) (locs : List Loc) (ls : Array Slot), lv_has ls 3 [(0, .ref (gA G 213)), (1, .int x1)] → va_P (gD G) vwCl (gL G V) H → va_S (gF G) s.heap H locs → PX9_begin_178  x1 V → res = BX9_begin_178  x1 V → W p l e r_X9_begin s m ([.ref (gA G 213), .int a1] : List Value).toArray below meth c H locs 0 0 (MQ below (gQI G res) ([.ref (gA G 213), .int a1] : List Value).toArray s 0 0 (gF G)) (F0 m 178 ls []) := by
    intro x1 V H locs ls hl hP hS hs hres
    have hs : (PX9_begin_186 x1 (gu V 214 ((7 : Int32)).toNatClampNeg (0 : Int32))) := hs
    have hres : res = (BX9_begin_186 x1 (gu V 214 ((7 : Int32)).toNatClampNeg (0 : Int32))) := hres
    refine lv_aload_n hx hb dX9_begin_178 rfl (lv_at hl 0 rfl) ?_
    refine gh_get (v := .ref (gA G 214)) (C := RX9) (T := TX9) (N := 11) hx hb hw inlX9 hown hT hP 213 (Nat.le_of_ble_eq_true rfl) kd213 rfl rfl 0 (by decide) (hw _ uw117) rfl dX9_begin_179 ?_
    refine lv_bipush (v := 7) hx hb dX9_begin_182 (by decide) ?_
    refine lv_iconst (v := 0) hx hb dX9_begin_184 (by decide) ?_
    refine gh_iast hx hb hT hP hS 214 (Nat.le_of_ble_eq_true rfl) kd214 (gh_ci (by decide)) dX9_begin_185 (fun H locs hP hS => ?_)
    exact b_186 x1 (gu V 214 ((7 : Int32)).toNatClampNeg (0 : Int32)) _ _ _ (lv_sub hl [0, 1] rfl) hP hS hs hres
  have b_170 : ∀ (x1 : Int32) (V : gV) (H : Heap) (locs : List Loc) (ls : Array Slot), lv_has ls 3 [(0, .ref (gA G 213)), (1, .int x1)] → va_P (gD G) vwCl (gL G V) H → va_S (gF G) s.heap H locs → PX9_begin_170  x1 V → res = BX9_begin_170  x1 V → W p l e r_X9_begin s m ([.ref (gA G 213), .int a1] : List Value).toArray below meth c H locs 0 0 (MQ below (gQI G res) ([.ref (gA G 213), .int a1] : List Value).toArray s 0 0 (gF G)) (F0 m 170 ls []) := by
    intro x1 V H locs ls hl hP hS hs hres
    have hs : (PX9_begin_178 x1 (gu V 214 ((6 : Int32)).toNatClampNeg (0 : Int32))) := hs
    have hres : res = (BX9_begin_178 x1 (gu V 214 ((6 : Int32)).toNatClampNeg (0 : Int32))) := hres
    refine lv_aload_n hx hb dX9_begin_170 rfl (lv_at hl 0 rfl) ?_
    refine gh_get (v := .ref (gA G 214)) (C := RX9) (T := TX9) (N := 11) hx hb hw inlX9 hown hT hP 213 (Nat.le_of_ble_eq_true rfl) kd213 rfl rfl 0 (by decide) (hw _ uw117) rfl dX9_begin_171 ?_
    refine lv_bipush (v := 6) hx hb dX9_begin_174 (by decide) ?_
    refine lv_iconst (v := 0) hx hb dX9_begin_176 (by decide) ?_
    refine gh_iast hx hb hT hP hS 214 (Nat.le_of_ble_eq_true rfl) kd214 (gh_ci (by decide)) dX9_begin_177 (fun H locs hP hS => ?_)
    exact b_178 x1 (gu V 214 ((6 : Int32)).toNatClampNeg (0 : Int32)) _ _ _ (lv_sub hl [0, 1] rfl) hP hS hs hres
  have b_163 : ∀ (x1 : Int32) (V : gV) (H : Heap) (locs : List Loc) (ls : Array Slot), lv_has ls 3 [(0, .ref (gA G 213)), (1, .int x1)] → va_P (gD G) vwCl (gL G V) H → va_S (gF G) s.heap H locs → PX9_begin_163  x1 V → res = BX9_begin_163  x1 V → W p l e r_X9_begin s m ([.ref (gA G 213), .int a1] : List Value).toArray below meth c H locs 0 0 (MQ below (gQI G res) ([.ref (gA G 213), .int a1] : List Value).toArray s 0 0 (gF G)) (F0 m 163 ls []) := by
    intro x1 V H locs ls hl hP hS hs hres
    have hs : (PX9_begin_170 x1 (gu V 214 ((5 : Int32)).toNatClampNeg (0 : Int32))) := hs
    have hres : res = (BX9_begin_170 x1 (gu V 214 ((5 : Int32)).toNatClampNeg (0 : Int32))) := hres
    refine lv_aload_n hx hb dX9_begin_163 rfl (lv_at hl 0 rfl) ?_
    refine gh_get (v := .ref (gA G 214)) (C := RX9) (T := TX9) (N := 11) hx hb hw inlX9 hown hT hP 213 (Nat.le_of_ble_eq_true rfl) kd213 rfl rfl 0 (by decide) (hw _ uw117) rfl dX9_begin_164 ?_
    refine lv_iconst (v := 5) hx hb dX9_begin_167 (by decide) ?_
    refine lv_iconst (v := 0) hx hb dX9_begin_168 (by decide) ?_
    refine gh_iast hx hb hT hP hS 214 (Nat.le_of_ble_eq_true rfl) kd214 (gh_ci (by decide)) dX9_begin_169 (fun H locs hP hS => ?_)
    exact b_170 x1 (gu V 214 ((5 : Int32)).toNatClampNeg (0 : Int32)) _ _ _ (lv_sub hl [0, 1] rfl) hP hS hs hres
  have b_155 : ∀ (x1 : Int32) (V : gV) (H : Heap) (locs : List Loc) (ls : Array Slot), lv_has ls 3 [(0, .ref (gA G 213)), (1, .int x1)] → va_P (gD G) vwCl (gL G V) H → va_S (gF G) s.heap H locs → PX9_begin_155  x1 V → res = BX9_begin_155  x1 V → W p l e r_X9_begin s m ([.ref (gA G 213), .int a1] : List Value).toArray below meth c H locs 0 0 (MQ below (gQI G res) ([.ref (gA G 213), .int a1] : List Value).toArray s 0 0 (gF G)) (F0 m 155 ls []) := by
    intro x1 V H locs ls hl hP hS hs hres
    have hs : (PX9_begin_163 x1 (gu V 214 ((14 : Int32)).toNatClampNeg x1)) := hs
    have hres : res = (BX9_begin_163 x1 (gu V 214 ((14 : Int32)).toNatClampNeg x1)) := hres
    refine lv_aload_n hx hb dX9_begin_155 rfl (lv_at hl 0 rfl) ?_
    refine gh_get (v := .ref (gA G 214)) (C := RX9) (T := TX9) (N := 11) hx hb hw inlX9 hown hT hP 213 (Nat.le_of_ble_eq_true rfl) kd213 rfl rfl 0 (by decide) (hw _ uw117) rfl dX9_begin_156 ?_
    refine lv_bipush (v := 14) hx hb dX9_begin_159 (by decide) ?_
    refine lv_iload_n hx hb dX9_begin_161 rfl (lv_at hl 1 rfl) ?_
    refine gh_iast hx hb hT hP hS 214 (Nat.le_of_ble_eq_true rfl) kd214 (gh_ci (by decide)) dX9_begin_162 (fun H locs hP hS => ?_)
    exact b_163 x1 (gu V 214 ((14 : Int32)).toNatClampNeg x1) _ _ _ (lv_sub hl [0, 1] rfl) hP hS hs hres
  have b_141 : ∀ (x1 : Int32) (V : gV) (H : Heap) (locs : List Loc) (ls : Array Slot), lv_has ls 3 [(0, .ref (gA G 213)), (1, .int x1)] → va_P (gD G) vwCl (gL G V) H → va_S (gF G) s.heap H locs → PX9_begin_141  x1 V → res = BX9_begin_141  x1 V → W p l e r_X9_begin s m ([.ref (gA G 213), .int a1] : List Value).toArray below meth c H locs 0 0 (MQ below (gQI G res) ([.ref (gA G 213), .int a1] : List Value).toArray s 0 0 (gF G)) (F0 m 141 ls []) := by
    intro x1 V H locs ls hl hP hS hs hres
    have hs : (PX9_begin_155 x1 (gu V 214 ((4 : Int32)).toNatClampNeg (x1 * (V 214 ((1 : Int32)).toNatClampNeg)))) := hs
    have hres : res = (BX9_begin_155 x1 (gu V 214 ((4 : Int32)).toNatClampNeg (x1 * (V 214 ((1 : Int32)).toNatClampNeg)))) := hres
    refine lv_aload_n hx hb dX9_begin_141 rfl (lv_at hl 0 rfl) ?_
    refine gh_get (v := .ref (gA G 214)) (C := RX9) (T := TX9) (N := 11) hx hb hw inlX9 hown hT hP 213 (Nat.le_of_ble_eq_true rfl) kd213 rfl rfl 0 (by decide) (hw _ uw117) rfl dX9_begin_142 ?_
    refine lv_iconst (v := 4) hx hb dX9_begin_145 (by decide) ?_
    refine lv_iload_n hx hb dX9_begin_146 rfl (lv_at hl 1 rfl) ?_
    refine lv_aload_n hx hb dX9_begin_147 rfl (lv_at hl 0 rfl) ?_
    refine gh_get (v := .ref (gA G 214)) (C := RX9) (T := TX9) (N := 11) hx hb hw inlX9 hown hT hP 213 (Nat.le_of_ble_eq_true rfl) kd213 rfl rfl 0 (by decide) (hw _ uw117) rfl dX9_begin_148 ?_
    refine lv_iconst (v := 1) hx hb dX9_begin_151 (by decide) ?_
    refine gh_iald hx hb hT hP 214 (Nat.le_of_ble_eq_true rfl) kd214 (gh_ci (by decide)) dX9_begin_152 ?_
    refine lv_imul hx hb dX9_begin_153 ?_
    refine gh_iast hx hb hT hP hS 214 (Nat.le_of_ble_eq_true rfl) kd214 (gh_ci (by decide)) dX9_begin_154 (fun H locs hP hS => ?_)
    exact b_155 x1 (gu V 214 ((4 : Int32)).toNatClampNeg (x1 * (V 214 ((1 : Int32)).toNatClampNeg))) _ _ _ (lv_sub hl [0, 1] rfl) hP hS hs hres
  have b_128 : ∀ (x1 : Int32) (V : gV) (H : Heap) (locs : List Loc) (ls : Array Slot), lv_has ls 3 [(0, .ref (gA G 213)), (1, .int x1)] → va_P (gD G) vwCl (gL G V) H → va_S (gF G) s.heap H locs → PX9_begin_128  x1 V → res = BX9_begin_128  x1 V → W p l e r_X9_begin s m ([.ref (gA G 213), .int a1] : List Value).toArray below meth c H locs 0 0 (MQ below (gQI G res) ([.ref (gA G 213), .int a1] : List Value).toArray s 0 0 (gF G)) (F0 m 128 ls []) := by
    intro x1 V H locs ls hl hP hS hs hres
    have hs : (PX9_begin_141 x1 (gu V 214 ((3 : Int32)).toNatClampNeg (V 214 ((12 : Int32)).toNatClampNeg))) := hs
    have hres : res = (BX9_begin_141 x1 (gu V 214 ((3 : Int32)).toNatClampNeg (V 214 ((12 : Int32)).toNatClampNeg))) := hres
    refine lv_aload_n hx hb dX9_begin_128 rfl (lv_at hl 0 rfl) ?_
    refine gh_get (v := .ref (gA G 214)) (C := RX9) (T := TX9) (N := 11) hx hb hw inlX9 hown hT hP 213 (Nat.le_of_ble_eq_true rfl) kd213 rfl rfl 0 (by decide) (hw _ uw117) rfl dX9_begin_129 ?_
    refine lv_iconst (v := 3) hx hb dX9_begin_132 (by decide) ?_
    refine lv_aload_n hx hb dX9_begin_133 rfl (lv_at hl 0 rfl) ?_
    refine gh_get (v := .ref (gA G 214)) (C := RX9) (T := TX9) (N := 11) hx hb hw inlX9 hown hT hP 213 (Nat.le_of_ble_eq_true rfl) kd213 rfl rfl 0 (by decide) (hw _ uw117) rfl dX9_begin_134 ?_
    refine lv_bipush (v := 12) hx hb dX9_begin_137 (by decide) ?_
    refine gh_iald hx hb hT hP 214 (Nat.le_of_ble_eq_true rfl) kd214 (gh_ci (by decide)) dX9_begin_139 ?_
    refine gh_iast hx hb hT hP hS 214 (Nat.le_of_ble_eq_true rfl) kd214 (gh_ci (by decide)) dX9_begin_140 (fun H locs hP hS => ?_)
    exact b_141 x1 (gu V 214 ((3 : Int32)).toNatClampNeg (V 214 ((12 : Int32)).toNatClampNeg)) _ _ _ (lv_sub hl [0, 1] rfl) hP hS hs hres
  have b_105 : ∀ (x1 : Int32) (V : gV) (H : Heap) (locs : List Loc) (ls : Array Slot), lv_has ls 3 [(0, .ref (gA G 213)), (1, .int x1)] → va_P (gD G) vwCl (gL G V) H → va_S (gF G) s.heap H locs → PX9_begin_105  x1 V → res = BX9_begin_105  x1 V → W p l e r_X9_begin s m ([.ref (gA G 213), .int a1] : List Value).toArray below meth c H locs 0 0 (MQ below (gQI G res) ([.ref (gA G 213), .int a1] : List Value).toArray s 0 0 (gF G)) (F0 m 105 ls []) := by
    intro x1 V H locs ls hl hP hS hs hres
    have hs : (¬ (V 214 ((1 : Int32)).toNatClampNeg) = 0) ∧ (PX9_begin_128 x1 (gu V 214 ((12 : Int32)).toNatClampNeg (((V 214 ((12 : Int32)).toNatClampNeg) + (1 : Int32)) - ((V 214 ((12 : Int32)).toNatClampNeg) + (1 : Int32)) / (V 214 ((1 : Int32)).toNatClampNeg) * (V 214 ((1 : Int32)).toNatClampNeg)))) := hs
    have hres : res = (BX9_begin_128 x1 (gu V 214 ((12 : Int32)).toNatClampNeg (((V 214 ((12 : Int32)).toNatClampNeg) + (1 : Int32)) - ((V 214 ((12 : Int32)).toNatClampNeg) + (1 : Int32)) / (V 214 ((1 : Int32)).toNatClampNeg) * (V 214 ((1 : Int32)).toNatClampNeg)))) := hres
    refine lv_aload_n hx hb dX9_begin_105 rfl (lv_at hl 0 rfl) ?_
    refine gh_get (v := .ref (gA G 214)) (C := RX9) (T := TX9) (N := 11) hx hb hw inlX9 hown hT hP 213 (Nat.le_of_ble_eq_true rfl) kd213 rfl rfl 0 (by decide) (hw _ uw117) rfl dX9_begin_106 ?_
    refine lv_bipush (v := 12) hx hb dX9_begin_109 (by decide) ?_
    refine lv_aload_n hx hb dX9_begin_111 rfl (lv_at hl 0 rfl) ?_
    refine gh_get (v := .ref (gA G 214)) (C := RX9) (T := TX9) (N := 11) hx hb hw inlX9 hown hT hP 213 (Nat.le_of_ble_eq_true rfl) kd213 rfl rfl 0 (by decide) (hw _ uw117) rfl dX9_begin_112 ?_
    refine lv_bipush (v := 12) hx hb dX9_begin_115 (by decide) ?_
    refine gh_iald hx hb hT hP 214 (Nat.le_of_ble_eq_true rfl) kd214 (gh_ci (by decide)) dX9_begin_117 ?_
    refine lv_iconst (v := 1) hx hb dX9_begin_118 (by decide) ?_
    refine lv_iadd hx hb dX9_begin_119 ?_
    refine lv_aload_n hx hb dX9_begin_120 rfl (lv_at hl 0 rfl) ?_
    refine gh_get (v := .ref (gA G 214)) (C := RX9) (T := TX9) (N := 11) hx hb hw inlX9 hown hT hP 213 (Nat.le_of_ble_eq_true rfl) kd213 rfl rfl 0 (by decide) (hw _ uw117) rfl dX9_begin_121 ?_
    refine lv_iconst (v := 1) hx hb dX9_begin_124 (by decide) ?_
    refine gh_iald hx hb hT hP 214 (Nat.le_of_ble_eq_true rfl) kd214 (gh_ci (by decide)) dX9_begin_125 ?_
    obtain ⟨ho_11, hs⟩ := hs
    refine lv_irem hx hb dX9_begin_126 ho_11 ?_
    refine gh_iast hx hb hT hP hS 214 (Nat.le_of_ble_eq_true rfl) kd214 (gh_ci (by decide)) dX9_begin_127 (fun H locs hP hS => ?_)
    exact b_128 x1 (gu V 214 ((12 : Int32)).toNatClampNeg (((V 214 ((12 : Int32)).toNatClampNeg) + (1 : Int32)) - ((V 214 ((12 : Int32)).toNatClampNeg) + (1 : Int32)) / (V 214 ((1 : Int32)).toNatClampNeg) * (V 214 ((1 : Int32)).toNatClampNeg))) _ _ _ (lv_sub hl [0, 1] rfl) hP hS hs hres
  have b_81 : ∀ (x1 : Int32) (V : gV) (H : Heap) (locs : List Loc) (ls : Array Slot), lv_has ls 3 [(0, .ref (gA G 213)), (1, .int x1)] → va_P (gD G) vwCl (gL G V) H → va_S (gF G) s.heap H locs → PX9_begin_81  x1 V → res = BX9_begin_81  x1 V → W p l e r_X9_begin s m ([.ref (gA G 213), .int a1] : List Value).toArray below meth c H locs 0 0 (MQ below (gQI G res) ([.ref (gA G 213), .int a1] : List Value).toArray s 0 0 (gF G)) (F0 m 81 ls []) := by
    intro x1 V H locs ls hl hP hS hs hres
    have hs : (vp_in (((16 : Int32) + ((11 : Int32) * (V 214 ((13 : Int32)).toNatClampNeg))) + (2 : Int32)) 246) ∧ (vp_in (((16 : Int32) + ((11 : Int32) * (V 214 ((13 : Int32)).toNatClampNeg))) + (2 : Int32)) 246) ∧ (PX9_begin_105 x1 (gu V 214 ((((16 : Int32) + ((11 : Int32) * (V 214 ((13 : Int32)).toNatClampNeg))) + (2 : Int32))).toNatClampNeg ((V 214 ((((16 : Int32) + ((11 : Int32) * (V 214 ((13 : Int32)).toNatClampNeg))) + (2 : Int32))).toNatClampNeg) + (1 : Int32)))) := hs
    have hres : res = (BX9_begin_105 x1 (gu V 214 ((((16 : Int32) + ((11 : Int32) * (V 214 ((13 : Int32)).toNatClampNeg))) + (2 : Int32))).toNatClampNeg ((V 214 ((((16 : Int32) + ((11 : Int32) * (V 214 ((13 : Int32)).toNatClampNeg))) + (2 : Int32))).toNatClampNeg) + (1 : Int32)))) := hres
    refine lv_aload_n hx hb dX9_begin_81 rfl (lv_at hl 0 rfl) ?_
    refine gh_get (v := .ref (gA G 214)) (C := RX9) (T := TX9) (N := 11) hx hb hw inlX9 hown hT hP 213 (Nat.le_of_ble_eq_true rfl) kd213 rfl rfl 0 (by decide) (hw _ uw117) rfl dX9_begin_82 ?_
    refine lv_bipush (v := 16) hx hb dX9_begin_85 (by decide) ?_
    refine lv_bipush (v := 11) hx hb dX9_begin_87 (by decide) ?_
    refine lv_aload_n hx hb dX9_begin_89 rfl (lv_at hl 0 rfl) ?_
    refine gh_get (v := .ref (gA G 214)) (C := RX9) (T := TX9) (N := 11) hx hb hw inlX9 hown hT hP 213 (Nat.le_of_ble_eq_true rfl) kd213 rfl rfl 0 (by decide) (hw _ uw117) rfl dX9_begin_90 ?_
    refine lv_bipush (v := 13) hx hb dX9_begin_93 (by decide) ?_
    refine gh_iald hx hb hT hP 214 (Nat.le_of_ble_eq_true rfl) kd214 (gh_ci (by decide)) dX9_begin_95 ?_
    refine lv_imul hx hb dX9_begin_96 ?_
    refine lv_iadd hx hb dX9_begin_97 ?_
    refine lv_iconst (v := 2) hx hb dX9_begin_98 (by decide) ?_
    refine lv_iadd hx hb dX9_begin_99 ?_
    refine lv_dup2_11 hx hb dX9_begin_100 rfl rfl ?_
    obtain ⟨ho_9, hs⟩ := hs
    refine gh_iald hx hb hT hP 214 (Nat.le_of_ble_eq_true rfl) kd214 ho_9 dX9_begin_101 ?_
    refine lv_iconst (v := 1) hx hb dX9_begin_102 (by decide) ?_
    refine lv_iadd hx hb dX9_begin_103 ?_
    obtain ⟨ho_10, hs⟩ := hs
    refine gh_iast hx hb hT hP hS 214 (Nat.le_of_ble_eq_true rfl) kd214 ho_10 dX9_begin_104 (fun H locs hP hS => ?_)
    exact b_105 x1 (gu V 214 ((((16 : Int32) + ((11 : Int32) * (V 214 ((13 : Int32)).toNatClampNeg))) + (2 : Int32))).toNatClampNeg ((V 214 ((((16 : Int32) + ((11 : Int32) * (V 214 ((13 : Int32)).toNatClampNeg))) + (2 : Int32))).toNatClampNeg) + (1 : Int32))) _ _ _ (lv_sub hl [0, 1] rfl) hP hS hs hres
  have b_63 : ∀ (x1 : Int32) (V : gV) (H : Heap) (locs : List Loc) (ls : Array Slot), lv_has ls 3 [(0, .ref (gA G 213)), (1, .int x1)] → va_P (gD G) vwCl (gL G V) H → va_S (gF G) s.heap H locs → PX9_begin_63  x1 V → res = BX9_begin_63  x1 V → W p l e r_X9_begin s m ([.ref (gA G 213), .int a1] : List Value).toArray below meth c H locs 0 0 (MQ below (gQI G res) ([.ref (gA G 213), .int a1] : List Value).toArray s 0 0 (gF G)) (F0 m 63 ls []) := by
    intro x1 V H locs ls hl hP hS hs hres
    have hs : (PX9_wordBy (V 214 ((10 : Int32)).toNatClampNeg) V) ∧ (PX9_begin_81 x1 (gu V 214 ((13 : Int32)).toNatClampNeg (MX9_wordBy (V 214 ((10 : Int32)).toNatClampNeg) V))) := hs
    have hres : res = (BX9_begin_81 x1 (gu V 214 ((13 : Int32)).toNatClampNeg (MX9_wordBy (V 214 ((10 : Int32)).toNatClampNeg) V))) := hres
    refine lv_aload_n hx hb dX9_begin_63 rfl (lv_at hl 0 rfl) ?_
    refine gh_get (v := .ref (gA G 214)) (C := RX9) (T := TX9) (N := 11) hx hb hw inlX9 hown hT hP 213 (Nat.le_of_ble_eq_true rfl) kd213 rfl rfl 0 (by decide) (hw _ uw117) rfl dX9_begin_64 ?_
    refine lv_bipush (v := 13) hx hb dX9_begin_67 (by decide) ?_
    refine lv_aload_n hx hb dX9_begin_69 rfl (lv_at hl 0 rfl) ?_
    refine lv_aload_n hx hb dX9_begin_70 rfl (lv_at hl 0 rfl) ?_
    refine gh_get (v := .ref (gA G 214)) (C := RX9) (T := TX9) (N := 11) hx hb hw inlX9 hown hT hP 213 (Nat.le_of_ble_eq_true rfl) kd213 rfl rfl 0 (by decide) (hw _ uw117) rfl dX9_begin_71 ?_
    refine lv_bipush (v := 10) hx hb dX9_begin_74 (by decide) ?_
    refine gh_iald hx hb hT hP 214 (Nat.le_of_ble_eq_true rfl) kd214 (gh_ci (by decide)) dX9_begin_76 ?_
    obtain ⟨ho_8, hs⟩ := hs
    refine gh_kr (va_runV (As := [.int (V 214 ((10 : Int32)).toNatClampNeg)]) (rest := [.int (13 : Int32), .ref (gA G 214)]) ⟨hx, hb, hml, hown, hw⟩ (cc_X9_wordBy l G V (V 214 ((10 : Int32)).toNatClampNeg) ho_8) (cwV 1 hw gv_RX9_74 rfl rfl rfl dd_X9_wordBy ⟨Nat.le_of_ble_eq_true rfl, Nat.le_of_ble_eq_true rfl⟩) (gh_preV hT hP (Nat.le_of_ble_eq_true rfl) kd213 rfl rfl) rfl rfl hl.1 rfl (lv_room (Nat.le_of_ble_eq_true rfl)) dX9_begin_77 ⟨Nat.zero_le _, Nat.zero_le _⟩) hS (fun H locs hP hS => ?_)
    refine gh_iast hx hb hT hP hS 214 (Nat.le_of_ble_eq_true rfl) kd214 (gh_ci (by decide)) dX9_begin_80 (fun H locs hP hS => ?_)
    exact b_81 x1 (gu V 214 ((13 : Int32)).toNatClampNeg (MX9_wordBy (V 214 ((10 : Int32)).toNatClampNeg) V)) _ _ _ (lv_sub hl [0, 1] rfl) hP hS hs hres
  have b_52 : ∀ (x1 : Int32) (V : gV) (H : Heap) (locs : List Loc) (ls : Array Slot), lv_has ls 3 [(0, .ref (gA G 213)), (1, .int x1)] → va_P (gD G) vwCl (gL G V) H → va_S (gF G) s.heap H locs → PX9_begin_52  x1 V → res = BX9_begin_52  x1 V → W p l e r_X9_begin s m ([.ref (gA G 213), .int a1] : List Value).toArray below meth c H locs 0 0 (MQ below (gQI G res) ([.ref (gA G 213), .int a1] : List Value).toArray s 0 0 (gF G)) (F0 m 52 ls []) := by
    intro x1 V H locs ls hl hP hS hs hres
    have hs : (PX9_begin_63 x1 (gu V 214 ((10 : Int32)).toNatClampNeg (MX9_drawn V))) := hs
    have hres : res = (BX9_begin_63 x1 (gu V 214 ((10 : Int32)).toNatClampNeg (MX9_drawn V))) := hres
    refine lv_aload_n hx hb dX9_begin_52 rfl (lv_at hl 0 rfl) ?_
    refine gh_get (v := .ref (gA G 214)) (C := RX9) (T := TX9) (N := 11) hx hb hw inlX9 hown hT hP 213 (Nat.le_of_ble_eq_true rfl) kd213 rfl rfl 0 (by decide) (hw _ uw117) rfl dX9_begin_53 ?_
    refine lv_bipush (v := 10) hx hb dX9_begin_56 (by decide) ?_
    refine lv_aload_n hx hb dX9_begin_58 rfl (lv_at hl 0 rfl) ?_
    refine gh_kr (va_runV (As := []) (rest := [.int (10 : Int32), .ref (gA G 214)]) ⟨hx, hb, hml, hown, hw⟩ (cc_X9_drawn l G V) (cwV 0 hw gv_RX9_71 rfl rfl rfl dd_X9_drawn ⟨Nat.le_of_ble_eq_true rfl, Nat.le_of_ble_eq_true rfl⟩) (gh_preV hT hP (Nat.le_of_ble_eq_true rfl) kd213 rfl rfl) rfl rfl hl.1 rfl (lv_room (Nat.le_of_ble_eq_true rfl)) dX9_begin_59 ⟨Nat.zero_le _, Nat.zero_le _⟩) hS (fun H locs hP hS => ?_)
    refine gh_iast hx hb hT hP hS 214 (Nat.le_of_ble_eq_true rfl) kd214 (gh_ci (by decide)) dX9_begin_62 (fun H locs hP hS => ?_)
    exact b_63 x1 (gu V 214 ((10 : Int32)).toNatClampNeg (MX9_drawn V)) _ _ _ (lv_sub hl [0, 1] rfl) hP hS hs hres
  refine lv_iload_n hx hb dX9_begin_0 rfl (lv_at hl 1 rfl) ?_
  refine lv_iconst (v := 1) hx hb dX9_begin_1 (by decide) ?_
  refine lv_bipush (v := 50) hx hb dX9_begin_2 (by decide) ?_
  refine gh_kr (va_runS (As := [.int a1, .int (1 : Int32), .int (50 : Int32)]) (rest := []) ⟨hx, hb, hml, hown, hw⟩ (cc_X9_in l G V a1 (1 : Int32) (50 : Int32)) (va_cwS 3 hw gv_RX9_40 rfl rfl rfl dd_X9_in.2 ⟨Nat.le_of_ble_eq_true rfl, Nat.le_of_ble_eq_true rfl⟩) (gh_pre hT hP) rfl rfl hl.1 rfl (lv_room (Nat.le_of_ble_eq_true rfl)) dX9_begin_4 ⟨Nat.zero_le _, Nat.zero_le _⟩) hS (fun H locs hP hS => ?_)
  refine lv_if_ne (tgt := 12) hx hb dX9_begin_7 (by decide) (fun c_1 => ?_) (fun c_1 => ?_)
  · have hres := hres.trans (if_neg c_1)
    have hs := hs c_1
    refine lv_aload_n hx hb dX9_begin_12 rfl (lv_at hl 0 rfl) ?_
    refine gh_kr (va_runV (As := []) (rest := []) ⟨hx, hb, hml, hown, hw⟩ (cc_X9_runs l G V) (cwV 0 hw gv_RX9_44 rfl rfl rfl dd_X9_runs ⟨Nat.le_of_ble_eq_true rfl, Nat.le_of_ble_eq_true rfl⟩) (gh_preV hT hP (Nat.le_of_ble_eq_true rfl) kd213 rfl rfl) rfl rfl hl.1 rfl (lv_room (Nat.le_of_ble_eq_true rfl)) dX9_begin_13 ⟨Nat.zero_le _, Nat.zero_le _⟩) hS (fun H locs hP hS => ?_)
    refine lv_if_ne (tgt := 45) hx hb dX9_begin_16 (by decide) (fun c_2 => ?_) (fun c_2 => ?_)
    · have hres := hres.trans (if_neg c_2)
      refine lv_bipush (v := -2) hx hb dX9_begin_45 (by decide) ?_
      exact gh_iret hx hb hr hlocks hP hS hT hres dX9_begin_47
    have hres := hres.trans (if_pos c_2)
    have hs := hs c_2
    refine lv_aload_n hx hb dX9_begin_19 rfl (lv_at hl 0 rfl) ?_
    refine gh_get (v := .ref (gA G 214)) (C := RX9) (T := TX9) (N := 11) hx hb hw inlX9 hown hT hP 213 (Nat.le_of_ble_eq_true rfl) kd213 rfl rfl 0 (by decide) (hw _ uw117) rfl dX9_begin_20 ?_
    refine lv_iconst (v := 0) hx hb dX9_begin_23 (by decide) ?_
    refine gh_iald hx hb hT hP 214 (Nat.le_of_ble_eq_true rfl) kd214 (gh_ci (by decide)) dX9_begin_24 ?_
    refine lv_if_eq (tgt := 45) hx hb dX9_begin_25 (by decide) (fun c_3 => ?_) (fun c_3 => ?_)
    · have hres := hres.trans (if_pos c_3)
      refine lv_bipush (v := -2) hx hb dX9_begin_45 (by decide) ?_
      exact gh_iret hx hb hr hlocks hP hS hT hres dX9_begin_47
    have hres := hres.trans (if_neg c_3)
    have hs := hs c_3
    refine lv_aload_n hx hb dX9_begin_28 rfl (lv_at hl 0 rfl) ?_
    refine gh_get (v := .ref (gA G 214)) (C := RX9) (T := TX9) (N := 11) hx hb hw inlX9 hown hT hP 213 (Nat.le_of_ble_eq_true rfl) kd213 rfl rfl 0 (by decide) (hw _ uw117) rfl dX9_begin_29 ?_
    refine lv_iconst (v := 1) hx hb dX9_begin_32 (by decide) ?_
    refine gh_iald hx hb hT hP 214 (Nat.le_of_ble_eq_true rfl) kd214 (gh_ci (by decide)) dX9_begin_33 ?_
    refine lv_if_eq (tgt := 45) hx hb dX9_begin_34 (by decide) (fun c_4 => ?_) (fun c_4 => ?_)
    · have hres := hres.trans (if_pos c_4)
      refine lv_bipush (v := -2) hx hb dX9_begin_45 (by decide) ?_
      exact gh_iret hx hb hr hlocks hP hS hT hres dX9_begin_47
    have hres := hres.trans (if_neg c_4)
    have hs := hs c_4
    refine lv_aload_n hx hb dX9_begin_37 rfl (lv_at hl 0 rfl) ?_
    refine lv_iload_n hx hb dX9_begin_38 rfl (lv_at hl 1 rfl) ?_
    obtain ⟨ho_5, hs⟩ := hs
    refine gh_kr (va_runV (As := [.int a1]) (rest := []) ⟨hx, hb, hml, hown, hw⟩ (cc_X9_canPay l G V a1 ho_5) (cwV 1 hw gv_RX9_68 rfl rfl rfl dd_X9_canPay ⟨Nat.le_of_ble_eq_true rfl, Nat.le_of_ble_eq_true rfl⟩) (gh_preV hT hP (Nat.le_of_ble_eq_true rfl) kd213 rfl rfl) rfl rfl hl.1 rfl (lv_room (Nat.le_of_ble_eq_true rfl)) dX9_begin_39 ⟨Nat.zero_le _, Nat.zero_le _⟩) hS (fun H locs hP hS => ?_)
    refine lv_if_ne (tgt := 48) hx hb dX9_begin_42 (by decide) (fun c_6 => ?_) (fun c_6 => ?_)
    · have hres := hres.trans (if_neg c_6)
      have hs := hs c_6
      refine lv_aload_n hx hb dX9_begin_48 rfl (lv_at hl 0 rfl) ?_
      obtain ⟨ho_7, hs⟩ := hs
      refine gh_kv (va_runV (As := []) (rest := []) ⟨hx, hb, hml, hown, hw⟩ (cc_X9_changes l G V ho_7) (cwV 0 hw gv_RX9_48 rfl rfl rfl dd_X9_changes ⟨Nat.le_of_ble_eq_true rfl, Nat.le_of_ble_eq_true rfl⟩) (gh_preV hT hP (Nat.le_of_ble_eq_true rfl) kd213 rfl rfl) rfl rfl hl.1 rfl (lv_room (Nat.le_of_ble_eq_true rfl)) dX9_begin_49 ⟨Nat.zero_le _, Nat.zero_le _⟩) hS (fun H locs hP hS => ?_)
      exact b_52 a1 (MX9_changes V) _ _ _ (lv_sub hl [0, 1] rfl) hP hS hs hres
    have hres := hres.trans (if_pos c_6)
    refine lv_bipush (v := -2) hx hb dX9_begin_45 (by decide) ?_
    exact gh_iret hx hb hr hlocks hP hS hT hres dX9_begin_47
  have hres := hres.trans (if_pos c_1)
  refine lv_iconst (v := -1) hx hb dX9_begin_10 (by decide) ?_
  exact gh_iret hx hb hr hlocks hP hS hT hres dX9_begin_11
theorem gv_RX9_91 : GoodIn wsL_law (wsV RX9 91 RX9 yX9_hits wc_X9_hits) := gh_gV uw467 uw468 uw469 uw5 uw470
theorem gv_RX9_88 : GoodIn wsL_law (wsV RX9 88 RX9 yX9_misses wc_X9_misses) := gh_gV uw459 uw460 uw461 uw5 uw462
def BX9_guess_144   (x2 : Int32) (V : gV) : Int32 × gV := ((MX9_ones x2 V), V)
def PX9_guess_144   (x2 : Int32) (V : gV) : Prop := (PX9_ones x2 V)
def BX9_guess_141   (x2 : Int32) (s0 : Int32) (s1 : Int32) (s2 : Int32) (V : gV) : Int32 × gV := BX9_guess_144 x2 (MX9_hits s2 s1 s0 V)
def PX9_guess_141   (x2 : Int32) (s0 : Int32) (s1 : Int32) (s2 : Int32) (V : gV) : Prop := (PX9_hits s2 s1 s0 V) ∧ (PX9_guess_144 x2 (MX9_hits s2 s1 s0 V))
def BX9_guess_107   (x2 : Int32) (x3 : Int32) (x4 : Int32) (V : gV) : Int32 × gV := if x2 = 0 then (BX9_guess_144 x2 (MX9_misses V)) else (if x4 = 0 then (BX9_guess_141 x2 x3 x4 x2 V) else (BX9_guess_141 x2 (V 214 ((MX9_at x3 (5 : Int32) V)).toNatClampNeg) x4 x2 V))
def PX9_guess_107   (x2 : Int32) (x3 : Int32) (x4 : Int32) (V : gV) : Prop := ((x2 = 0 → (PX9_misses V) ∧ (PX9_guess_144 x2 (MX9_misses V))) ∧ (¬ x2 = 0 → ((x4 = 0 → (PX9_guess_141 x2 x3 x4 x2 V)) ∧ (¬ x4 = 0 → (vp_in (MX9_at x3 (5 : Int32) V) 246) ∧ (PX9_guess_141 x2 (V 214 ((MX9_at x3 (5 : Int32) V)).toNatClampNeg) x4 x2 V)))))
def BX9_guess_94   (x1 : Int32) (x2 : Int32) (x3 : Int32) (x4 : Int32) (V : gV) : Int32 × gV := BX9_guess_107 x2 x3 x4 (gu V 214 ((6 : Int32)).toNatClampNeg ((V 214 ((6 : Int32)).toNatClampNeg) ||| ((1 : Int32) <<< (x1 &&& 31))))
def PX9_guess_94   (x1 : Int32) (x2 : Int32) (x3 : Int32) (x4 : Int32) (V : gV) : Prop := (PX9_guess_107 x2 x3 x4 (gu V 214 ((6 : Int32)).toNatClampNeg ((V 214 ((6 : Int32)).toNatClampNeg) ||| ((1 : Int32) <<< (x1 &&& 31)))))
def BX9_guess_80   (x1 : Int32) (x2 : Int32) (x3 : Int32) (s0 : Int32) (V : gV) : Int32 × gV := BX9_guess_94 x1 x2 x3 s0 (gu V 214 ((MX9_at x3 (4 : Int32) V)).toNatClampNeg (26 : Int32))
def PX9_guess_80   (x1 : Int32) (x2 : Int32) (x3 : Int32) (s0 : Int32) (V : gV) : Prop := (vp_in (MX9_at x3 (4 : Int32) V) 246) ∧ (PX9_guess_94 x1 x2 x3 s0 (gu V 214 ((MX9_at x3 (4 : Int32) V)).toNatClampNeg (26 : Int32)))
def BX9_guess_41   (x1 : Int32) (V : gV) : Int32 × gV := if (V 214 ((MX9_at (V 214 ((3 : Int32)).toNatClampNeg) (4 : Int32) V)).toNatClampNeg) = x1 then (BX9_guess_80 x1 (MX9_places (V 214 ((13 : Int32)).toNatClampNeg) x1 V) (V 214 ((3 : Int32)).toNatClampNeg) (1 : Int32) V) else (BX9_guess_80 x1 (MX9_places (V 214 ((13 : Int32)).toNatClampNeg) x1 V) (V 214 ((3 : Int32)).toNatClampNeg) (0 : Int32) V)
def PX9_guess_41   (x1 : Int32) (V : gV) : Prop := (PX9_places (V 214 ((13 : Int32)).toNatClampNeg) x1 V) ∧ (vp_in (MX9_at (V 214 ((3 : Int32)).toNatClampNeg) (4 : Int32) V) 246) ∧ (((V 214 ((MX9_at (V 214 ((3 : Int32)).toNatClampNeg) (4 : Int32) V)).toNatClampNeg) = x1 → (PX9_guess_80 x1 (MX9_places (V 214 ((13 : Int32)).toNatClampNeg) x1 V) (V 214 ((3 : Int32)).toNatClampNeg) (1 : Int32) V)) ∧ (¬ (V 214 ((MX9_at (V 214 ((3 : Int32)).toNatClampNeg) (4 : Int32) V)).toNatClampNeg) = x1 → (PX9_guess_80 x1 (MX9_places (V 214 ((13 : Int32)).toNatClampNeg) x1 V) (V 214 ((3 : Int32)).toNatClampNeg) (0 : Int32) V)))
def MX9_guess  (a1 : Int32) (V : gV) : Int32 × gV := if (MX9_in a1 (0 : Int32) (25 : Int32) V) = 0 then (((-1 : Int32), V)) else (if (MX9_runs V) = 0 then (((-2 : Int32), V)) else (if (((V 214 ((6 : Int32)).toNatClampNeg) >>> (a1 &&& 31)) &&& (1 : Int32)) = (1 : Int32) then (((-2 : Int32), V)) else (BX9_guess_41 a1 (MX9_changes V))))
def PX9_guess  (a1 : Int32) (V : gV) : Prop := ((¬ (MX9_in a1 (0 : Int32) (25 : Int32) V) = 0 → ((¬ (MX9_runs V) = 0 → ((¬ (((V 214 ((6 : Int32)).toNatClampNeg) >>> (a1 &&& 31)) &&& (1 : Int32)) = (1 : Int32) → (PX9_changes V) ∧ (PX9_guess_41 a1 (MX9_changes V))))))))
abbrev wc_X9_guess : List Cond := Cond.code yX9_guess cX9_guess 5 (some .int) :: wsL_law
abbrev r_X9_guess : Room := { frames := 3, cells := 0, slots := 0, locals := 69 }
theorem dd_X9_guess : yX9_guess.cls = RX9 ∧ yX9_guess.cls ≠ "java/lang/invoke/MethodHandle" ∧ yX9_guess.cls ≠ "java/lang/invoke/VarHandle" ∧ (parseMethodDescriptor yX9_guess.desc).map (fun d => d.parameters.length) = some 1 := by decide +kernel
set_option maxHeartbeats 8000000 in
set_option maxRecDepth 100000 in
theorem cc_X9_guess (l : Launch) (G : gG) (V : gV)   (a1 : Int32) (hs : PX9_guess a1 V) : Met l yX9_guess wc_X9_guess r_X9_guess (va_Pc [.ref (gA G 213), .int a1] (gW G V)) (gQI G (MX9_guess a1 V)) 0 0 (gF G) := by
  refine Met.ofW (cc := cX9_guess) (maxL := 5) (ret := (some .int)) (by decide) rfl ?_
  intro p e s m args below meth c s₁ B hml hv
  obtain ⟨rfl, hP, hT⟩ := hv
  have hx := B.exec
  have hb := B.bytes
  have hr := B.returns
  have hw := gh_hw (atoms_spec (ws := wc_X9_guess) B.pre)
  have hown : s.vm.findClass RX9 = some m.cls := findClass_of_methodNamed B.named
  have hlocks := B.notSynchronized
  have hS : va_S (gF G) s.heap s.heap [] := va_S.rf
  have hl := lv_entry ([.ref (gA G 213), .int a1]) (n := 5) (Nat.le_of_ble_eq_true rfl)
  rw [lg_entry_eq]
  generalize (lg_sl ([.ref (gA G 213), .int a1]) ++ List.replicate (5 - (lg_sl ([.ref (gA G 213), .int a1])).length) Slot.unset).toArray = ls at hl ⊢
  have hl : lv_has ls 5 [(0, .ref (gA G 213)), (1, .int a1)] := hl
  obtain ⟨res, hres⟩ : ∃ r, r = MX9_guess a1 V := ⟨_, rfl⟩
  rw [← hres]
  show W p l e r_X9_guess s m ([.ref (gA G 213), .int a1] : List Value).toArray below meth c s.heap [] 0 0 (MQ below (gQI G res) ([.ref (gA G 213), .int a1] : List Value).toArray s 0 0 (gF G)) (F0 m 0 ls [])
  have hs : ((¬ (MX9_in a1 (0 : Int32) (25 : Int32) V) = 0 → ((¬ (MX9_runs V) = 0 → ((¬ (((V 214 ((6 : Int32)).toNatClampNeg) >>> (a1 &&& 31)) &&& (1 : Int32)) = (1 : Int32) → (PX9_changes V) ∧ (PX9_guess_41 a1 (MX9_changes V)))))))) := hs
  have hres : res = (if (MX9_in a1 (0 : Int32) (25 : Int32) V) = 0 then (((-1 : Int32), V)) else (if (MX9_runs V) = 0 then (((-2 : Int32), V)) else (if (((V 214 ((6 : Int32)).toNatClampNeg) >>> (a1 &&& 31)) &&& (1 : Int32)) = (1 : Int32) then (((-2 : Int32), V)) else (BX9_guess_41 a1 (MX9_changes V))))) := hres
  have b_144 : ∀ (x2 : Int32) (V : gV) (H : Heap) (locs : List Loc) (ls : Array Slot), lv_has ls 5 [(2, .int x2)] → va_P (gD G) vwCl (gL G V) H → va_S (gF G) s.heap H locs → PX9_guess_144  x2 V → res = BX9_guess_144  x2 V → W p l e r_X9_guess s m ([.ref (gA G 213), .int a1] : List Value).toArray below meth c H locs 0 0 (MQ below (gQI G res) ([.ref (gA G 213), .int a1] : List Value).toArray s 0 0 (gF G)) (F0 m 144 ls []) := by
    intro x2 V H locs ls hl hP hS hs hres
    have hs : (PX9_ones x2 V) := hs
    have hres : res = (((MX9_ones x2 V), V)) := hres
    refine lv_iload_n hx hb dX9_guess_144 rfl (lv_at hl 0 rfl) ?_
    have ho_12 := hs
    refine gh_kr (va_runS (As := [.int x2]) (rest := []) ⟨hx, hb, hml, hown, hw⟩ (cc_X9_ones l G V x2 ho_12) (va_cwS 1 hw gv_RX9_82 rfl rfl rfl dd_X9_ones.2 ⟨Nat.le_of_ble_eq_true rfl, Nat.le_of_ble_eq_true rfl⟩) (gh_pre hT hP) rfl rfl hl.1 rfl (lv_room (Nat.le_of_ble_eq_true rfl)) dX9_guess_145 ⟨Nat.zero_le _, Nat.zero_le _⟩) hS (fun H locs hP hS => ?_)
    exact gh_iret hx hb hr hlocks hP hS hT hres dX9_guess_148
  have b_141 : ∀ (x2 : Int32) (s0 : Int32) (s1 : Int32) (s2 : Int32) (V : gV) (H : Heap) (locs : List Loc) (ls : Array Slot), lv_has ls 5 [(2, .int x2)] → va_P (gD G) vwCl (gL G V) H → va_S (gF G) s.heap H locs → PX9_guess_141  x2 s0 s1 s2 V → res = BX9_guess_141  x2 s0 s1 s2 V → W p l e r_X9_guess s m ([.ref (gA G 213), .int a1] : List Value).toArray below meth c H locs 0 0 (MQ below (gQI G res) ([.ref (gA G 213), .int a1] : List Value).toArray s 0 0 (gF G)) (F0 m 141 ls [.int s0, .int s1, .int s2, .ref (gA G 213)]) := by
    intro x2 s0 s1 s2 V H locs ls hl hP hS hs hres
    have hs : (PX9_hits s2 s1 s0 V) ∧ (PX9_guess_144 x2 (MX9_hits s2 s1 s0 V)) := hs
    have hres : res = (BX9_guess_144 x2 (MX9_hits s2 s1 s0 V)) := hres
    obtain ⟨ho_11, hs⟩ := hs
    refine gh_kv (va_runV (As := [.int s2, .int s1, .int s0]) (rest := []) ⟨hx, hb, hml, hown, hw⟩ (cc_X9_hits l G V s2 s1 s0 ho_11) (cwV 3 hw gv_RX9_91 rfl rfl rfl dd_X9_hits ⟨Nat.le_of_ble_eq_true rfl, Nat.le_of_ble_eq_true rfl⟩) (gh_preV hT hP (Nat.le_of_ble_eq_true rfl) kd213 rfl rfl) rfl rfl hl.1 rfl (lv_room (Nat.le_of_ble_eq_true rfl)) dX9_guess_141 ⟨Nat.zero_le _, Nat.zero_le _⟩) hS (fun H locs hP hS => ?_)
    exact b_144 x2 (MX9_hits s2 s1 s0 V) _ _ _ (lv_sub hl [0] rfl) hP hS hs hres
  have b_107 : ∀ (x2 : Int32) (x3 : Int32) (x4 : Int32) (V : gV) (H : Heap) (locs : List Loc) (ls : Array Slot), lv_has ls 5 [(0, .ref (gA G 213)), (2, .int x2), (3, .int x3), (4, .int x4)] → va_P (gD G) vwCl (gL G V) H → va_S (gF G) s.heap H locs → PX9_guess_107  x2 x3 x4 V → res = BX9_guess_107  x2 x3 x4 V → W p l e r_X9_guess s m ([.ref (gA G 213), .int a1] : List Value).toArray below meth c H locs 0 0 (MQ below (gQI G res) ([.ref (gA G 213), .int a1] : List Value).toArray s 0 0 (gF G)) (F0 m 107 ls []) := by
    intro x2 x3 x4 V H locs ls hl hP hS hs hres
    have hs : ((x2 = 0 → (PX9_misses V) ∧ (PX9_guess_144 x2 (MX9_misses V))) ∧ (¬ x2 = 0 → ((x4 = 0 → (PX9_guess_141 x2 x3 x4 x2 V)) ∧ (¬ x4 = 0 → (vp_in (MX9_at x3 (5 : Int32) V) 246) ∧ (PX9_guess_141 x2 (V 214 ((MX9_at x3 (5 : Int32) V)).toNatClampNeg) x4 x2 V))))) := hs
    have hres : res = (if x2 = 0 then (BX9_guess_144 x2 (MX9_misses V)) else (if x4 = 0 then (BX9_guess_141 x2 x3 x4 x2 V) else (BX9_guess_141 x2 (V 214 ((MX9_at x3 (5 : Int32) V)).toNatClampNeg) x4 x2 V))) := hres
    refine lv_iload_n hx hb dX9_guess_107 rfl (lv_at hl 1 rfl) ?_
    refine lv_if_ne (tgt := 118) hx hb dX9_guess_108 (by decide) (fun c_9 => ?_) (fun c_9 => ?_)
    · have hres := hres.trans (if_neg c_9)
      have hs := hs.2 c_9
      refine lv_aload_n hx hb dX9_guess_118 rfl (lv_at hl 0 rfl) ?_
      refine lv_iload_n hx hb dX9_guess_119 rfl (lv_at hl 1 rfl) ?_
      refine lv_iload hx hb dX9_guess_120 (lv_at hl 3 rfl) ?_
      refine lv_iload hx hb dX9_guess_122 (lv_at hl 3 rfl) ?_
      refine lv_if_eq (tgt := 140) hx hb dX9_guess_124 (by decide) (fun c_10 => ?_) (fun c_10 => ?_)
      · have hres := hres.trans (if_pos c_10)
        have hs := hs.1 c_10
        refine lv_iload_n hx hb dX9_guess_140 rfl (lv_at hl 2 rfl) ?_
        exact b_141 x2 x3 x4 x2 V _ _ _ (lv_sub hl [1] rfl) hP hS hs hres
      have hres := hres.trans (if_neg c_10)
      have hs := hs.2 c_10
      refine lv_aload_n hx hb dX9_guess_127 rfl (lv_at hl 0 rfl) ?_
      refine gh_get (v := .ref (gA G 214)) (C := RX9) (T := TX9) (N := 11) hx hb hw inlX9 hown hT hP 213 (Nat.le_of_ble_eq_true rfl) kd213 rfl rfl 0 (by decide) (hw _ uw117) rfl dX9_guess_128 ?_
      refine lv_iload_n hx hb dX9_guess_131 rfl (lv_at hl 2 rfl) ?_
      refine lv_iconst (v := 5) hx hb dX9_guess_132 (by decide) ?_
      refine gh_kr (va_runS (As := [.int x3, .int (5 : Int32)]) (rest := [.ref (gA G 214), .int x4, .int x2, .ref (gA G 213)]) ⟨hx, hb, hml, hown, hw⟩ (cc_X9_at l G V x3 (5 : Int32)) (va_cwS 2 hw gv_RX9_51 rfl rfl rfl dd_X9_at.2 ⟨Nat.le_of_ble_eq_true rfl, Nat.le_of_ble_eq_true rfl⟩) (gh_pre hT hP) rfl rfl hl.1 rfl (lv_room (Nat.le_of_ble_eq_true rfl)) dX9_guess_133 ⟨Nat.zero_le _, Nat.zero_le _⟩) hS (fun H locs hP hS => ?_)
      obtain ⟨ho_13, hs⟩ := hs
      refine gh_iald hx hb hT hP 214 (Nat.le_of_ble_eq_true rfl) kd214 ho_13 dX9_guess_136 ?_
      refine lv_goto (tgt := 141) hx hb dX9_guess_137 (by decide) ?_
      exact b_141 x2 (V 214 ((MX9_at x3 (5 : Int32) V)).toNatClampNeg) x4 x2 V _ _ _ (lv_sub hl [1] rfl) hP hS hs hres
    have hres := hres.trans (if_pos c_9)
    have hs := hs.1 c_9
    refine lv_aload_n hx hb dX9_guess_111 rfl (lv_at hl 0 rfl) ?_
    obtain ⟨ho_14, hs⟩ := hs
    refine gh_kv (va_runV (As := []) (rest := []) ⟨hx, hb, hml, hown, hw⟩ (cc_X9_misses l G V ho_14) (cwV 0 hw gv_RX9_88 rfl rfl rfl dd_X9_misses ⟨Nat.le_of_ble_eq_true rfl, Nat.le_of_ble_eq_true rfl⟩) (gh_preV hT hP (Nat.le_of_ble_eq_true rfl) kd213 rfl rfl) rfl rfl hl.1 rfl (lv_room (Nat.le_of_ble_eq_true rfl)) dX9_guess_112 ⟨Nat.zero_le _, Nat.zero_le _⟩) hS (fun H locs hP hS => ?_)
    refine lv_goto (tgt := 144) hx hb dX9_guess_115 (by decide) ?_
    exact b_144 x2 (MX9_misses V) _ _ _ (lv_sub hl [1] rfl) hP hS hs hres
  have b_94 : ∀ (x1 : Int32) (x2 : Int32) (x3 : Int32) (x4 : Int32) (V : gV) (H : Heap) (locs : List Loc) (ls : Array Slot), lv_has ls 5 [(0, .ref (gA G 213)), (1, .int x1), (2, .int x2), (3, .int x3), (4, .int x4)] → va_P (gD G) vwCl (gL G V) H → va_S (gF G) s.heap H locs → PX9_guess_94  x1 x2 x3 x4 V → res = BX9_guess_94  x1 x2 x3 x4 V → W p l e r_X9_guess s m ([.ref (gA G 213), .int a1] : List Value).toArray below meth c H locs 0 0 (MQ below (gQI G res) ([.ref (gA G 213), .int a1] : List Value).toArray s 0 0 (gF G)) (F0 m 94 ls []) := by
    intro x1 x2 x3 x4 V H locs ls hl hP hS hs hres
    have hs : (PX9_guess_107 x2 x3 x4 (gu V 214 ((6 : Int32)).toNatClampNeg ((V 214 ((6 : Int32)).toNatClampNeg) ||| ((1 : Int32) <<< (x1 &&& 31))))) := hs
    have hres : res = (BX9_guess_107 x2 x3 x4 (gu V 214 ((6 : Int32)).toNatClampNeg ((V 214 ((6 : Int32)).toNatClampNeg) ||| ((1 : Int32) <<< (x1 &&& 31))))) := hres
    refine lv_aload_n hx hb dX9_guess_94 rfl (lv_at hl 0 rfl) ?_
    refine gh_get (v := .ref (gA G 214)) (C := RX9) (T := TX9) (N := 11) hx hb hw inlX9 hown hT hP 213 (Nat.le_of_ble_eq_true rfl) kd213 rfl rfl 0 (by decide) (hw _ uw117) rfl dX9_guess_95 ?_
    refine lv_bipush (v := 6) hx hb dX9_guess_98 (by decide) ?_
    refine lv_dup2_11 hx hb dX9_guess_100 rfl rfl ?_
    refine gh_iald hx hb hT hP 214 (Nat.le_of_ble_eq_true rfl) kd214 (gh_ci (by decide)) dX9_guess_101 ?_
    refine lv_iconst (v := 1) hx hb dX9_guess_102 (by decide) ?_
    refine lv_iload_n hx hb dX9_guess_103 rfl (lv_at hl 1 rfl) ?_
    refine lv_ishl hx hb dX9_guess_104 ?_
    refine lv_ior hx hb dX9_guess_105 ?_
    refine gh_iast hx hb hT hP hS 214 (Nat.le_of_ble_eq_true rfl) kd214 (gh_ci (by decide)) dX9_guess_106 (fun H locs hP hS => ?_)
    exact b_107 x2 x3 x4 (gu V 214 ((6 : Int32)).toNatClampNeg ((V 214 ((6 : Int32)).toNatClampNeg) ||| ((1 : Int32) <<< (x1 &&& 31)))) _ _ _ (lv_sub hl [0, 2, 3, 4] rfl) hP hS hs hres
  have b_80 : ∀ (x1 : Int32) (x2 : Int32) (x3 : Int32) (s0 : Int32) (V : gV) (H : Heap) (locs : List Loc) (ls : Array Slot), lv_has ls 5 [(0, .ref (gA G 213)), (1, .int x1), (2, .int x2), (3, .int x3)] → va_P (gD G) vwCl (gL G V) H → va_S (gF G) s.heap H locs → PX9_guess_80  x1 x2 x3 s0 V → res = BX9_guess_80  x1 x2 x3 s0 V → W p l e r_X9_guess s m ([.ref (gA G 213), .int a1] : List Value).toArray below meth c H locs 0 0 (MQ below (gQI G res) ([.ref (gA G 213), .int a1] : List Value).toArray s 0 0 (gF G)) (F0 m 80 ls [.int s0]) := by
    intro x1 x2 x3 s0 V H locs ls hl hP hS hs hres
    have hs : (vp_in (MX9_at x3 (4 : Int32) V) 246) ∧ (PX9_guess_94 x1 x2 x3 s0 (gu V 214 ((MX9_at x3 (4 : Int32) V)).toNatClampNeg (26 : Int32))) := hs
    have hres : res = (BX9_guess_94 x1 x2 x3 s0 (gu V 214 ((MX9_at x3 (4 : Int32) V)).toNatClampNeg (26 : Int32))) := hres
    refine lv_istore (lv' := [(4, .int s0), (0, .ref (gA G 213)), (1, .int x1), (2, .int x2), (3, .int x3)]) hx hb dX9_guess_80 hl (by decide) rfl (fun ls hl => ?_)
    refine lv_aload_n hx hb dX9_guess_82 rfl (lv_at hl 1 rfl) ?_
    refine gh_get (v := .ref (gA G 214)) (C := RX9) (T := TX9) (N := 11) hx hb hw inlX9 hown hT hP 213 (Nat.le_of_ble_eq_true rfl) kd213 rfl rfl 0 (by decide) (hw _ uw117) rfl dX9_guess_83 ?_
    refine lv_iload_n hx hb dX9_guess_86 rfl (lv_at hl 4 rfl) ?_
    refine lv_iconst (v := 4) hx hb dX9_guess_87 (by decide) ?_
    refine gh_kr (va_runS (As := [.int x3, .int (4 : Int32)]) (rest := [.ref (gA G 214)]) ⟨hx, hb, hml, hown, hw⟩ (cc_X9_at l G V x3 (4 : Int32)) (va_cwS 2 hw gv_RX9_51 rfl rfl rfl dd_X9_at.2 ⟨Nat.le_of_ble_eq_true rfl, Nat.le_of_ble_eq_true rfl⟩) (gh_pre hT hP) rfl rfl hl.1 rfl (lv_room (Nat.le_of_ble_eq_true rfl)) dX9_guess_88 ⟨Nat.zero_le _, Nat.zero_le _⟩) hS (fun H locs hP hS => ?_)
    refine lv_bipush (v := 26) hx hb dX9_guess_91 (by decide) ?_
    obtain ⟨ho_8, hs⟩ := hs
    refine gh_iast hx hb hT hP hS 214 (Nat.le_of_ble_eq_true rfl) kd214 ho_8 dX9_guess_93 (fun H locs hP hS => ?_)
    exact b_94 x1 x2 x3 s0 (gu V 214 ((MX9_at x3 (4 : Int32) V)).toNatClampNeg (26 : Int32)) _ _ _ (lv_sub hl [1, 2, 3, 4, 0] rfl) hP hS hs hres
  have b_41 : ∀ (x1 : Int32) (V : gV) (H : Heap) (locs : List Loc) (ls : Array Slot), lv_has ls 5 [(0, .ref (gA G 213)), (1, .int x1)] → va_P (gD G) vwCl (gL G V) H → va_S (gF G) s.heap H locs → PX9_guess_41  x1 V → res = BX9_guess_41  x1 V → W p l e r_X9_guess s m ([.ref (gA G 213), .int a1] : List Value).toArray below meth c H locs 0 0 (MQ below (gQI G res) ([.ref (gA G 213), .int a1] : List Value).toArray s 0 0 (gF G)) (F0 m 41 ls []) := by
    intro x1 V H locs ls hl hP hS hs hres
    have hs : (PX9_places (V 214 ((13 : Int32)).toNatClampNeg) x1 V) ∧ (vp_in (MX9_at (V 214 ((3 : Int32)).toNatClampNeg) (4 : Int32) V) 246) ∧ (((V 214 ((MX9_at (V 214 ((3 : Int32)).toNatClampNeg) (4 : Int32) V)).toNatClampNeg) = x1 → (PX9_guess_80 x1 (MX9_places (V 214 ((13 : Int32)).toNatClampNeg) x1 V) (V 214 ((3 : Int32)).toNatClampNeg) (1 : Int32) V)) ∧ (¬ (V 214 ((MX9_at (V 214 ((3 : Int32)).toNatClampNeg) (4 : Int32) V)).toNatClampNeg) = x1 → (PX9_guess_80 x1 (MX9_places (V 214 ((13 : Int32)).toNatClampNeg) x1 V) (V 214 ((3 : Int32)).toNatClampNeg) (0 : Int32) V))) := hs
    have hres : res = (if (V 214 ((MX9_at (V 214 ((3 : Int32)).toNatClampNeg) (4 : Int32) V)).toNatClampNeg) = x1 then (BX9_guess_80 x1 (MX9_places (V 214 ((13 : Int32)).toNatClampNeg) x1 V) (V 214 ((3 : Int32)).toNatClampNeg) (1 : Int32) V) else (BX9_guess_80 x1 (MX9_places (V 214 ((13 : Int32)).toNatClampNeg) x1 V) (V 214 ((3 : Int32)).toNatClampNeg) (0 : Int32) V)) := hres
    refine lv_aload_n hx hb dX9_guess_41 rfl (lv_at hl 0 rfl) ?_
    refine lv_aload_n hx hb dX9_guess_42 rfl (lv_at hl 0 rfl) ?_
    refine gh_get (v := .ref (gA G 214)) (C := RX9) (T := TX9) (N := 11) hx hb hw inlX9 hown hT hP 213 (Nat.le_of_ble_eq_true rfl) kd213 rfl rfl 0 (by decide) (hw _ uw117) rfl dX9_guess_43 ?_
    refine lv_bipush (v := 13) hx hb dX9_guess_46 (by decide) ?_
    refine gh_iald hx hb hT hP 214 (Nat.le_of_ble_eq_true rfl) kd214 (gh_ci (by decide)) dX9_guess_48 ?_
    refine lv_iload_n hx hb dX9_guess_49 rfl (lv_at hl 1 rfl) ?_
    obtain ⟨ho_5, hs⟩ := hs
    refine gh_kr (va_runV (As := [.int (V 214 ((13 : Int32)).toNatClampNeg), .int x1]) (rest := []) ⟨hx, hb, hml, hown, hw⟩ (cc_X9_places l G V (V 214 ((13 : Int32)).toNatClampNeg) x1 ho_5) (cwV 2 hw gv_RX9_85 rfl rfl rfl dd_X9_places ⟨Nat.le_of_ble_eq_true rfl, Nat.le_of_ble_eq_true rfl⟩) (gh_preV hT hP (Nat.le_of_ble_eq_true rfl) kd213 rfl rfl) rfl rfl hl.1 rfl (lv_room (Nat.le_of_ble_eq_true rfl)) dX9_guess_50 ⟨Nat.zero_le _, Nat.zero_le _⟩) hS (fun H locs hP hS => ?_)
    refine lv_istore_n (lv' := [(2, .int (MX9_places (V 214 ((13 : Int32)).toNatClampNeg) x1 V)), (0, .ref (gA G 213)), (1, .int x1)]) hx hb dX9_guess_53 rfl hl (by decide) rfl (fun ls hl => ?_)
    refine lv_aload_n hx hb dX9_guess_54 rfl (lv_at hl 1 rfl) ?_
    refine gh_get (v := .ref (gA G 214)) (C := RX9) (T := TX9) (N := 11) hx hb hw inlX9 hown hT hP 213 (Nat.le_of_ble_eq_true rfl) kd213 rfl rfl 0 (by decide) (hw _ uw117) rfl dX9_guess_55 ?_
    refine lv_iconst (v := 3) hx hb dX9_guess_58 (by decide) ?_
    refine gh_iald hx hb hT hP 214 (Nat.le_of_ble_eq_true rfl) kd214 (gh_ci (by decide)) dX9_guess_59 ?_
    refine lv_istore_n (lv' := [(3, .int (V 214 ((3 : Int32)).toNatClampNeg)), (2, .int (MX9_places (V 214 ((13 : Int32)).toNatClampNeg) x1 V)), (0, .ref (gA G 213)), (1, .int x1)]) hx hb dX9_guess_60 rfl hl (by decide) rfl (fun ls hl => ?_)
    refine lv_aload_n hx hb dX9_guess_61 rfl (lv_at hl 2 rfl) ?_
    refine gh_get (v := .ref (gA G 214)) (C := RX9) (T := TX9) (N := 11) hx hb hw inlX9 hown hT hP 213 (Nat.le_of_ble_eq_true rfl) kd213 rfl rfl 0 (by decide) (hw _ uw117) rfl dX9_guess_62 ?_
    refine lv_iload_n hx hb dX9_guess_65 rfl (lv_at hl 0 rfl) ?_
    refine lv_iconst (v := 4) hx hb dX9_guess_66 (by decide) ?_
    refine gh_kr (va_runS (As := [.int (V 214 ((3 : Int32)).toNatClampNeg), .int (4 : Int32)]) (rest := [.ref (gA G 214)]) ⟨hx, hb, hml, hown, hw⟩ (cc_X9_at l G V (V 214 ((3 : Int32)).toNatClampNeg) (4 : Int32)) (va_cwS 2 hw gv_RX9_51 rfl rfl rfl dd_X9_at.2 ⟨Nat.le_of_ble_eq_true rfl, Nat.le_of_ble_eq_true rfl⟩) (gh_pre hT hP) rfl rfl hl.1 rfl (lv_room (Nat.le_of_ble_eq_true rfl)) dX9_guess_67 ⟨Nat.zero_le _, Nat.zero_le _⟩) hS (fun H locs hP hS => ?_)
    obtain ⟨ho_6, hs⟩ := hs
    refine gh_iald hx hb hT hP 214 (Nat.le_of_ble_eq_true rfl) kd214 ho_6 dX9_guess_70 ?_
    refine lv_iload_n hx hb dX9_guess_71 rfl (lv_at hl 3 rfl) ?_
    refine lv_icmp_ne (tgt := 79) hx hb dX9_guess_72 (by decide) (fun c_7 => ?_) (fun c_7 => ?_)
    · have hres := hres.trans (if_neg c_7)
      have hs := hs.2 c_7
      refine lv_iconst (v := 0) hx hb dX9_guess_79 (by decide) ?_
      exact b_80 x1 (MX9_places (V 214 ((13 : Int32)).toNatClampNeg) x1 V) (V 214 ((3 : Int32)).toNatClampNeg) (0 : Int32) V _ _ _ (lv_sub hl [2, 3, 1, 0] rfl) hP hS hs hres
    have hres := hres.trans (if_pos c_7)
    have hs := hs.1 c_7
    refine lv_iconst (v := 1) hx hb dX9_guess_75 (by decide) ?_
    refine lv_goto (tgt := 80) hx hb dX9_guess_76 (by decide) ?_
    exact b_80 x1 (MX9_places (V 214 ((13 : Int32)).toNatClampNeg) x1 V) (V 214 ((3 : Int32)).toNatClampNeg) (1 : Int32) V _ _ _ (lv_sub hl [2, 3, 1, 0] rfl) hP hS hs hres
  refine lv_iload_n hx hb dX9_guess_0 rfl (lv_at hl 1 rfl) ?_
  refine lv_iconst (v := 0) hx hb dX9_guess_1 (by decide) ?_
  refine lv_bipush (v := 25) hx hb dX9_guess_2 (by decide) ?_
  refine gh_kr (va_runS (As := [.int a1, .int (0 : Int32), .int (25 : Int32)]) (rest := []) ⟨hx, hb, hml, hown, hw⟩ (cc_X9_in l G V a1 (0 : Int32) (25 : Int32)) (va_cwS 3 hw gv_RX9_40 rfl rfl rfl dd_X9_in.2 ⟨Nat.le_of_ble_eq_true rfl, Nat.le_of_ble_eq_true rfl⟩) (gh_pre hT hP) rfl rfl hl.1 rfl (lv_room (Nat.le_of_ble_eq_true rfl)) dX9_guess_4 ⟨Nat.zero_le _, Nat.zero_le _⟩) hS (fun H locs hP hS => ?_)
  refine lv_if_ne (tgt := 12) hx hb dX9_guess_7 (by decide) (fun c_1 => ?_) (fun c_1 => ?_)
  · have hres := hres.trans (if_neg c_1)
    have hs := hs c_1
    refine lv_aload_n hx hb dX9_guess_12 rfl (lv_at hl 0 rfl) ?_
    refine gh_kr (va_runV (As := []) (rest := []) ⟨hx, hb, hml, hown, hw⟩ (cc_X9_runs l G V) (cwV 0 hw gv_RX9_44 rfl rfl rfl dd_X9_runs ⟨Nat.le_of_ble_eq_true rfl, Nat.le_of_ble_eq_true rfl⟩) (gh_preV hT hP (Nat.le_of_ble_eq_true rfl) kd213 rfl rfl) rfl rfl hl.1 rfl (lv_room (Nat.le_of_ble_eq_true rfl)) dX9_guess_13 ⟨Nat.zero_le _, Nat.zero_le _⟩) hS (fun H locs hP hS => ?_)
    refine lv_if_eq (tgt := 34) hx hb dX9_guess_16 (by decide) (fun c_2 => ?_) (fun c_2 => ?_)
    · have hres := hres.trans (if_pos c_2)
      refine lv_bipush (v := -2) hx hb dX9_guess_34 (by decide) ?_
      exact gh_iret hx hb hr hlocks hP hS hT hres dX9_guess_36
    have hres := hres.trans (if_neg c_2)
    have hs := hs c_2
    refine lv_aload_n hx hb dX9_guess_19 rfl (lv_at hl 0 rfl) ?_
    refine gh_get (v := .ref (gA G 214)) (C := RX9) (T := TX9) (N := 11) hx hb hw inlX9 hown hT hP 213 (Nat.le_of_ble_eq_true rfl) kd213 rfl rfl 0 (by decide) (hw _ uw117) rfl dX9_guess_20 ?_
    refine lv_bipush (v := 6) hx hb dX9_guess_23 (by decide) ?_
    refine gh_iald hx hb hT hP 214 (Nat.le_of_ble_eq_true rfl) kd214 (gh_ci (by decide)) dX9_guess_25 ?_
    refine lv_iload_n hx hb dX9_guess_26 rfl (lv_at hl 1 rfl) ?_
    refine lv_ishr hx hb dX9_guess_27 ?_
    refine lv_iconst (v := 1) hx hb dX9_guess_28 (by decide) ?_
    refine lv_iand hx hb dX9_guess_29 ?_
    refine lv_iconst (v := 1) hx hb dX9_guess_30 (by decide) ?_
    refine lv_icmp_ne (tgt := 37) hx hb dX9_guess_31 (by decide) (fun c_3 => ?_) (fun c_3 => ?_)
    · have hres := hres.trans (if_neg c_3)
      have hs := hs c_3
      refine lv_aload_n hx hb dX9_guess_37 rfl (lv_at hl 0 rfl) ?_
      obtain ⟨ho_4, hs⟩ := hs
      refine gh_kv (va_runV (As := []) (rest := []) ⟨hx, hb, hml, hown, hw⟩ (cc_X9_changes l G V ho_4) (cwV 0 hw gv_RX9_48 rfl rfl rfl dd_X9_changes ⟨Nat.le_of_ble_eq_true rfl, Nat.le_of_ble_eq_true rfl⟩) (gh_preV hT hP (Nat.le_of_ble_eq_true rfl) kd213 rfl rfl) rfl rfl hl.1 rfl (lv_room (Nat.le_of_ble_eq_true rfl)) dX9_guess_38 ⟨Nat.zero_le _, Nat.zero_le _⟩) hS (fun H locs hP hS => ?_)
      exact b_41 a1 (MX9_changes V) _ _ _ (lv_sub hl [0, 1] rfl) hP hS hs hres
    have hres := hres.trans (if_pos c_3)
    refine lv_bipush (v := -2) hx hb dX9_guess_34 (by decide) ?_
    exact gh_iret hx hb hr hlocks hP hS hT hres dX9_guess_36
  have hres := hres.trans (if_pos c_1)
  refine lv_iconst (v := -1) hx hb dX9_guess_10 (by decide) ?_
  exact gh_iret hx hb hr hlocks hP hS hT hres dX9_guess_11
def BX9_tell_62   (x2 : Int32) (V : gV) : Int32 × gV := if x2 = 0 then (((0 : Int32), V)) else (((1 : Int32), V))
def BX9_tell_40   (s0 : Int32) (V : gV) : Int32 × gV := if s0 = 0 then (BX9_tell_62 s0 (MX9_misses V)) else (BX9_tell_62 s0 (MX9_ends (V 214 ((3 : Int32)).toNatClampNeg) V))
def PX9_tell_40   (s0 : Int32) (V : gV) : Prop := ((s0 = 0 → (PX9_misses V)) ∧ (¬ s0 = 0 → (PX9_ends (V 214 ((3 : Int32)).toNatClampNeg) V)))
def BX9_tell_24   (x1 : Int32) (V : gV) : Int32 × gV := if x1 = (V 214 ((13 : Int32)).toNatClampNeg) then (BX9_tell_40 (1 : Int32) V) else (BX9_tell_40 (0 : Int32) V)
def PX9_tell_24   (x1 : Int32) (V : gV) : Prop := ((x1 = (V 214 ((13 : Int32)).toNatClampNeg) → (PX9_tell_40 (1 : Int32) V)) ∧ (¬ x1 = (V 214 ((13 : Int32)).toNatClampNeg) → (PX9_tell_40 (0 : Int32) V)))
def MX9_tell  (a1 : Int32) (V : gV) : Int32 × gV := if (MX9_isWord a1 V) = 0 then (((-1 : Int32), V)) else (if (MX9_runs V) = 0 then (((-2 : Int32), V)) else (BX9_tell_24 a1 (MX9_changes V)))
def PX9_tell  (a1 : Int32) (V : gV) : Prop := ((¬ (MX9_isWord a1 V) = 0 → ((¬ (MX9_runs V) = 0 → (PX9_changes V) ∧ (PX9_tell_24 a1 (MX9_changes V))))))
abbrev wc_X9_tell : List Cond := Cond.code yX9_tell cX9_tell 3 (some .int) :: wsL_law
abbrev r_X9_tell : Room := { frames := 3, cells := 0, slots := 0, locals := 63 }
theorem dd_X9_tell : yX9_tell.cls = RX9 ∧ yX9_tell.cls ≠ "java/lang/invoke/MethodHandle" ∧ yX9_tell.cls ≠ "java/lang/invoke/VarHandle" ∧ (parseMethodDescriptor yX9_tell.desc).map (fun d => d.parameters.length) = some 1 := by decide +kernel
set_option maxHeartbeats 8000000 in
set_option maxRecDepth 100000 in
theorem cc_X9_tell (l : Launch) (G : gG) (V : gV)   (a1 : Int32) (hs : PX9_tell a1 V) : Met l yX9_tell wc_X9_tell r_X9_tell (va_Pc [.ref (gA G 213), .int a1] (gW G V)) (gQI G (MX9_tell a1 V)) 0 0 (gF G) := by
  refine Met.ofW (cc := cX9_tell) (maxL := 3) (ret := (some .int)) (by decide) rfl ?_
  intro p e s m args below meth c s₁ B hml hv
  obtain ⟨rfl, hP, hT⟩ := hv
  have hx := B.exec
  have hb := B.bytes
  have hr := B.returns
  have hw := gh_hw (atoms_spec (ws := wc_X9_tell) B.pre)
  have hown : s.vm.findClass RX9 = some m.cls := findClass_of_methodNamed B.named
  have hlocks := B.notSynchronized
  have hS : va_S (gF G) s.heap s.heap [] := va_S.rf
  have hl := lv_entry ([.ref (gA G 213), .int a1]) (n := 3) (Nat.le_of_ble_eq_true rfl)
  rw [lg_entry_eq]
  generalize (lg_sl ([.ref (gA G 213), .int a1]) ++ List.replicate (3 - (lg_sl ([.ref (gA G 213), .int a1])).length) Slot.unset).toArray = ls at hl ⊢
  have hl : lv_has ls 3 [(0, .ref (gA G 213)), (1, .int a1)] := hl
  obtain ⟨res, hres⟩ : ∃ r, r = MX9_tell a1 V := ⟨_, rfl⟩
  rw [← hres]
  show W p l e r_X9_tell s m ([.ref (gA G 213), .int a1] : List Value).toArray below meth c s.heap [] 0 0 (MQ below (gQI G res) ([.ref (gA G 213), .int a1] : List Value).toArray s 0 0 (gF G)) (F0 m 0 ls [])
  have hs : ((¬ (MX9_isWord a1 V) = 0 → ((¬ (MX9_runs V) = 0 → (PX9_changes V) ∧ (PX9_tell_24 a1 (MX9_changes V)))))) := hs
  have hres : res = (if (MX9_isWord a1 V) = 0 then (((-1 : Int32), V)) else (if (MX9_runs V) = 0 then (((-2 : Int32), V)) else (BX9_tell_24 a1 (MX9_changes V)))) := hres
  have b_62 : ∀ (x2 : Int32) (V : gV) (H : Heap) (locs : List Loc) (ls : Array Slot), lv_has ls 3 [(2, .int x2)] → va_P (gD G) vwCl (gL G V) H → va_S (gF G) s.heap H locs → res = BX9_tell_62  x2 V → W p l e r_X9_tell s m ([.ref (gA G 213), .int a1] : List Value).toArray below meth c H locs 0 0 (MQ below (gQI G res) ([.ref (gA G 213), .int a1] : List Value).toArray s 0 0 (gF G)) (F0 m 62 ls []) := by
    intro x2 V H locs ls hl hP hS hres
    have hres : res = (if x2 = 0 then (((0 : Int32), V)) else (((1 : Int32), V))) := hres
    refine lv_iload_n hx hb dX9_tell_62 rfl (lv_at hl 0 rfl) ?_
    refine lv_if_eq (tgt := 70) hx hb dX9_tell_63 (by decide) (fun c_7 => ?_) (fun c_7 => ?_)
    · have hres := hres.trans (if_pos c_7)
      refine lv_iconst (v := 0) hx hb dX9_tell_70 (by decide) ?_
      exact gh_iret hx hb hr hlocks hP hS hT hres dX9_tell_71
    have hres := hres.trans (if_neg c_7)
    refine lv_iconst (v := 1) hx hb dX9_tell_66 (by decide) ?_
    refine lv_goto (tgt := 71) hx hb dX9_tell_67 (by decide) ?_
    exact gh_iret hx hb hr hlocks hP hS hT hres dX9_tell_71
  have b_40 : ∀ (s0 : Int32) (V : gV) (H : Heap) (locs : List Loc) (ls : Array Slot), lv_has ls 3 [(0, .ref (gA G 213))] → va_P (gD G) vwCl (gL G V) H → va_S (gF G) s.heap H locs → PX9_tell_40  s0 V → res = BX9_tell_40  s0 V → W p l e r_X9_tell s m ([.ref (gA G 213), .int a1] : List Value).toArray below meth c H locs 0 0 (MQ below (gQI G res) ([.ref (gA G 213), .int a1] : List Value).toArray s 0 0 (gF G)) (F0 m 40 ls [.int s0]) := by
    intro s0 V H locs ls hl hP hS hs hres
    have hs : ((s0 = 0 → (PX9_misses V)) ∧ (¬ s0 = 0 → (PX9_ends (V 214 ((3 : Int32)).toNatClampNeg) V))) := hs
    have hres : res = (if s0 = 0 then (BX9_tell_62 s0 (MX9_misses V)) else (BX9_tell_62 s0 (MX9_ends (V 214 ((3 : Int32)).toNatClampNeg) V))) := hres
    refine lv_istore_n (lv' := [(2, .int s0), (0, .ref (gA G 213))]) hx hb dX9_tell_40 rfl hl (by decide) rfl (fun ls hl => ?_)
    refine lv_iload_n hx hb dX9_tell_41 rfl (lv_at hl 0 rfl) ?_
    refine lv_if_eq (tgt := 58) hx hb dX9_tell_42 (by decide) (fun c_5 => ?_) (fun c_5 => ?_)
    · have hres := hres.trans (if_pos c_5)
      have hs := hs.1 c_5
      refine lv_aload_n hx hb dX9_tell_58 rfl (lv_at hl 1 rfl) ?_
      have ho_6 := hs
      refine gh_kv (va_runV (As := []) (rest := []) ⟨hx, hb, hml, hown, hw⟩ (cc_X9_misses l G V ho_6) (cwV 0 hw gv_RX9_88 rfl rfl rfl dd_X9_misses ⟨Nat.le_of_ble_eq_true rfl, Nat.le_of_ble_eq_true rfl⟩) (gh_preV hT hP (Nat.le_of_ble_eq_true rfl) kd213 rfl rfl) rfl rfl hl.1 rfl (lv_room (Nat.le_of_ble_eq_true rfl)) dX9_tell_59 ⟨Nat.zero_le _, Nat.zero_le _⟩) hS (fun H locs hP hS => ?_)
      exact b_62 s0 (MX9_misses V) _ _ _ (lv_sub hl [0] rfl) hP hS hres
    have hres := hres.trans (if_neg c_5)
    have hs := hs.2 c_5
    refine lv_aload_n hx hb dX9_tell_45 rfl (lv_at hl 1 rfl) ?_
    refine lv_aload_n hx hb dX9_tell_46 rfl (lv_at hl 1 rfl) ?_
    refine gh_get (v := .ref (gA G 214)) (C := RX9) (T := TX9) (N := 11) hx hb hw inlX9 hown hT hP 213 (Nat.le_of_ble_eq_true rfl) kd213 rfl rfl 0 (by decide) (hw _ uw117) rfl dX9_tell_47 ?_
    refine lv_iconst (v := 3) hx hb dX9_tell_50 (by decide) ?_
    refine gh_iald hx hb hT hP 214 (Nat.le_of_ble_eq_true rfl) kd214 (gh_ci (by decide)) dX9_tell_51 ?_
    have ho_8 := hs
    refine gh_kv (va_runV (As := [.int (V 214 ((3 : Int32)).toNatClampNeg)]) (rest := []) ⟨hx, hb, hml, hown, hw⟩ (cc_X9_ends l G V (V 214 ((3 : Int32)).toNatClampNeg) ho_8) (cwV 1 hw gv_RX9_78 rfl rfl rfl dd_X9_ends ⟨Nat.le_of_ble_eq_true rfl, Nat.le_of_ble_eq_true rfl⟩) (gh_preV hT hP (Nat.le_of_ble_eq_true rfl) kd213 rfl rfl) rfl rfl hl.1 rfl (lv_room (Nat.le_of_ble_eq_true rfl)) dX9_tell_52 ⟨Nat.zero_le _, Nat.zero_le _⟩) hS (fun H locs hP hS => ?_)
    refine lv_goto (tgt := 62) hx hb dX9_tell_55 (by decide) ?_
    exact b_62 s0 (MX9_ends (V 214 ((3 : Int32)).toNatClampNeg) V) _ _ _ (lv_sub hl [0] rfl) hP hS hres
  have b_24 : ∀ (x1 : Int32) (V : gV) (H : Heap) (locs : List Loc) (ls : Array Slot), lv_has ls 3 [(0, .ref (gA G 213)), (1, .int x1)] → va_P (gD G) vwCl (gL G V) H → va_S (gF G) s.heap H locs → PX9_tell_24  x1 V → res = BX9_tell_24  x1 V → W p l e r_X9_tell s m ([.ref (gA G 213), .int a1] : List Value).toArray below meth c H locs 0 0 (MQ below (gQI G res) ([.ref (gA G 213), .int a1] : List Value).toArray s 0 0 (gF G)) (F0 m 24 ls []) := by
    intro x1 V H locs ls hl hP hS hs hres
    have hs : ((x1 = (V 214 ((13 : Int32)).toNatClampNeg) → (PX9_tell_40 (1 : Int32) V)) ∧ (¬ x1 = (V 214 ((13 : Int32)).toNatClampNeg) → (PX9_tell_40 (0 : Int32) V))) := hs
    have hres : res = (if x1 = (V 214 ((13 : Int32)).toNatClampNeg) then (BX9_tell_40 (1 : Int32) V) else (BX9_tell_40 (0 : Int32) V)) := hres
    refine lv_iload_n hx hb dX9_tell_24 rfl (lv_at hl 1 rfl) ?_
    refine lv_aload_n hx hb dX9_tell_25 rfl (lv_at hl 0 rfl) ?_
    refine gh_get (v := .ref (gA G 214)) (C := RX9) (T := TX9) (N := 11) hx hb hw inlX9 hown hT hP 213 (Nat.le_of_ble_eq_true rfl) kd213 rfl rfl 0 (by decide) (hw _ uw117) rfl dX9_tell_26 ?_
    refine lv_bipush (v := 13) hx hb dX9_tell_29 (by decide) ?_
    refine gh_iald hx hb hT hP 214 (Nat.le_of_ble_eq_true rfl) kd214 (gh_ci (by decide)) dX9_tell_31 ?_
    refine lv_icmp_ne (tgt := 39) hx hb dX9_tell_32 (by decide) (fun c_4 => ?_) (fun c_4 => ?_)
    · have hres := hres.trans (if_neg c_4)
      have hs := hs.2 c_4
      refine lv_iconst (v := 0) hx hb dX9_tell_39 (by decide) ?_
      exact b_40 (0 : Int32) V _ _ _ (lv_sub hl [0] rfl) hP hS hs hres
    have hres := hres.trans (if_pos c_4)
    have hs := hs.1 c_4
    refine lv_iconst (v := 1) hx hb dX9_tell_35 (by decide) ?_
    refine lv_goto (tgt := 40) hx hb dX9_tell_36 (by decide) ?_
    exact b_40 (1 : Int32) V _ _ _ (lv_sub hl [0] rfl) hP hS hs hres
  refine lv_aload_n hx hb dX9_tell_0 rfl (lv_at hl 0 rfl) ?_
  refine lv_iload_n hx hb dX9_tell_1 rfl (lv_at hl 1 rfl) ?_
  refine gh_kr (va_runV (As := [.int a1]) (rest := []) ⟨hx, hb, hml, hown, hw⟩ (cc_X9_isWord l G V a1) (cwV 1 hw gv_RX9_36 rfl rfl rfl dd_X9_isWord ⟨Nat.le_of_ble_eq_true rfl, Nat.le_of_ble_eq_true rfl⟩) (gh_preV hT hP (Nat.le_of_ble_eq_true rfl) kd213 rfl rfl) rfl rfl hl.1 rfl (lv_room (Nat.le_of_ble_eq_true rfl)) dX9_tell_2 ⟨Nat.zero_le _, Nat.zero_le _⟩) hS (fun H locs hP hS => ?_)
  refine lv_if_ne (tgt := 10) hx hb dX9_tell_5 (by decide) (fun c_1 => ?_) (fun c_1 => ?_)
  · have hres := hres.trans (if_neg c_1)
    have hs := hs c_1
    refine lv_aload_n hx hb dX9_tell_10 rfl (lv_at hl 0 rfl) ?_
    refine gh_kr (va_runV (As := []) (rest := []) ⟨hx, hb, hml, hown, hw⟩ (cc_X9_runs l G V) (cwV 0 hw gv_RX9_44 rfl rfl rfl dd_X9_runs ⟨Nat.le_of_ble_eq_true rfl, Nat.le_of_ble_eq_true rfl⟩) (gh_preV hT hP (Nat.le_of_ble_eq_true rfl) kd213 rfl rfl) rfl rfl hl.1 rfl (lv_room (Nat.le_of_ble_eq_true rfl)) dX9_tell_11 ⟨Nat.zero_le _, Nat.zero_le _⟩) hS (fun H locs hP hS => ?_)
    refine lv_if_ne (tgt := 20) hx hb dX9_tell_14 (by decide) (fun c_2 => ?_) (fun c_2 => ?_)
    · have hres := hres.trans (if_neg c_2)
      have hs := hs c_2
      refine lv_aload_n hx hb dX9_tell_20 rfl (lv_at hl 0 rfl) ?_
      obtain ⟨ho_3, hs⟩ := hs
      refine gh_kv (va_runV (As := []) (rest := []) ⟨hx, hb, hml, hown, hw⟩ (cc_X9_changes l G V ho_3) (cwV 0 hw gv_RX9_48 rfl rfl rfl dd_X9_changes ⟨Nat.le_of_ble_eq_true rfl, Nat.le_of_ble_eq_true rfl⟩) (gh_preV hT hP (Nat.le_of_ble_eq_true rfl) kd213 rfl rfl) rfl rfl hl.1 rfl (lv_room (Nat.le_of_ble_eq_true rfl)) dX9_tell_21 ⟨Nat.zero_le _, Nat.zero_le _⟩) hS (fun H locs hP hS => ?_)
      exact b_24 a1 (MX9_changes V) _ _ _ (lv_sub hl [0, 1] rfl) hP hS hs hres
    have hres := hres.trans (if_pos c_2)
    refine lv_bipush (v := -2) hx hb dX9_tell_17 (by decide) ?_
    exact gh_iret hx hb hr hlocks hP hS hT hres dX9_tell_19
  have hres := hres.trans (if_pos c_1)
  refine lv_iconst (v := -1) hx hb dX9_tell_8 (by decide) ?_
  exact gh_iret hx hb hr hlocks hP hS hT hres dX9_tell_9
def BX9_whisper_106   (x1 : Int32) (x2 : Int32) (x5 : Int32) (V : gV) : Int32 × gV := (x5, (gu V 214 ((MX9_at x2 (5 : Int32) V)).toNatClampNeg x1))
def PX9_whisper_106   (x1 : Int32) (x2 : Int32) (x5 : Int32) (V : gV) : Prop := (vp_in (MX9_at x2 (5 : Int32) V) 246)
def BX9_whisper_83   (x1 : Int32) (x2 : Int32) (x3 : Int32) (V : gV) : Int32 × gV := BX9_whisper_106 x1 x2 (V 214 ((MX9_at x2 (4 : Int32) V)).toNatClampNeg) (gu V 214 ((MX9_at x2 (4 : Int32) V)).toNatClampNeg x3)
def PX9_whisper_83   (x1 : Int32) (x2 : Int32) (x3 : Int32) (V : gV) : Prop := (vp_in (MX9_at x2 (4 : Int32) V) 246) ∧ (vp_in (MX9_at x2 (4 : Int32) V) 246) ∧ (PX9_whisper_106 x1 x2 (V 214 ((MX9_at x2 (4 : Int32) V)).toNatClampNeg) (gu V 214 ((MX9_at x2 (4 : Int32) V)).toNatClampNeg x3))
def BX9_whisper_47   (x1 : Int32) (x2 : Int32) (x3 : Int32) (s0 : Int32) (V : gV) : Int32 × gV := if (MX9_runs V) = 0 then (((-2 : Int32), V)) else (if s0 = 0 then (((-2 : Int32), V)) else (if (((V 214 ((6 : Int32)).toNatClampNeg) >>> (x3 &&& 31)) &&& (1 : Int32)) = (1 : Int32) then (((-2 : Int32), V)) else (BX9_whisper_83 x1 x2 x3 (MX9_changes V))))
def PX9_whisper_47   (x1 : Int32) (x2 : Int32) (x3 : Int32) (s0 : Int32) (V : gV) : Prop := ((¬ (MX9_runs V) = 0 → ((¬ s0 = 0 → ((¬ (((V 214 ((6 : Int32)).toNatClampNeg) >>> (x3 &&& 31)) &&& (1 : Int32)) = (1 : Int32) → (PX9_changes V) ∧ (PX9_whisper_83 x1 x2 x3 (MX9_changes V))))))))
def BX9_whisper_42   (x1 : Int32) (x2 : Int32) (x3 : Int32) (V : gV) : Int32 × gV := BX9_whisper_47 x1 x2 x3 (1 : Int32) V
def PX9_whisper_42   (x1 : Int32) (x2 : Int32) (x3 : Int32) (V : gV) : Prop := (PX9_whisper_47 x1 x2 x3 (1 : Int32) V)
def MX9_whisper  (a1 : Int32) (a2 : Int32) (a3 : Int32) (V : gV) : Int32 × gV := if (MX9_isPlayer a1 V) = 0 then (((-1 : Int32), V)) else (if (MX9_isPlayer a2 V) = 0 then (((-1 : Int32), V)) else (if (MX9_in a3 (0 : Int32) (25 : Int32) V) = 0 then (((-1 : Int32), V)) else (if (a1 - a2) = (1 : Int32) then (BX9_whisper_42 a1 a2 a3 V) else (if (a2 - a1) = (1 : Int32) then (BX9_whisper_42 a1 a2 a3 V) else (BX9_whisper_47 a1 a2 a3 (0 : Int32) V)))))
def PX9_whisper  (a1 : Int32) (a2 : Int32) (a3 : Int32) (V : gV) : Prop := ((¬ (MX9_isPlayer a1 V) = 0 → ((¬ (MX9_isPlayer a2 V) = 0 → ((¬ (MX9_in a3 (0 : Int32) (25 : Int32) V) = 0 → (((a1 - a2) = (1 : Int32) → (PX9_whisper_42 a1 a2 a3 V)) ∧ (¬ (a1 - a2) = (1 : Int32) → (((a2 - a1) = (1 : Int32) → (PX9_whisper_42 a1 a2 a3 V)) ∧ (¬ (a2 - a1) = (1 : Int32) → (PX9_whisper_47 a1 a2 a3 (0 : Int32) V)))))))))))
abbrev wc_X9_whisper : List Cond := Cond.code yX9_whisper cX9_whisper 6 (some .int) :: wsL_law
abbrev r_X9_whisper : Room := { frames := 1, cells := 0, slots := 0, locals := 22 }
theorem dd_X9_whisper : yX9_whisper.cls = RX9 ∧ yX9_whisper.cls ≠ "java/lang/invoke/MethodHandle" ∧ yX9_whisper.cls ≠ "java/lang/invoke/VarHandle" ∧ (parseMethodDescriptor yX9_whisper.desc).map (fun d => d.parameters.length) = some 3 := by decide +kernel
set_option maxHeartbeats 8000000 in
set_option maxRecDepth 100000 in
theorem cc_X9_whisper (l : Launch) (G : gG) (V : gV)   (a1 : Int32) (a2 : Int32) (a3 : Int32) (hs : PX9_whisper a1 a2 a3 V) : Met l yX9_whisper wc_X9_whisper r_X9_whisper (va_Pc [.ref (gA G 213), .int a1, .int a2, .int a3] (gW G V)) (gQI G (MX9_whisper a1 a2 a3 V)) 0 0 (gF G) := by
  refine Met.ofW (cc := cX9_whisper) (maxL := 6) (ret := (some .int)) (by decide) rfl ?_
  intro p e s m args below meth c s₁ B hml hv
  obtain ⟨rfl, hP, hT⟩ := hv
  have hx := B.exec
  have hb := B.bytes
  have hr := B.returns
  have hw := gh_hw (atoms_spec (ws := wc_X9_whisper) B.pre)
  have hown : s.vm.findClass RX9 = some m.cls := findClass_of_methodNamed B.named
  have hlocks := B.notSynchronized
  have hS : va_S (gF G) s.heap s.heap [] := va_S.rf
  have hl := lv_entry ([.ref (gA G 213), .int a1, .int a2, .int a3]) (n := 6) (Nat.le_of_ble_eq_true rfl)
  rw [lg_entry_eq]
  generalize (lg_sl ([.ref (gA G 213), .int a1, .int a2, .int a3]) ++ List.replicate (6 - (lg_sl ([.ref (gA G 213), .int a1, .int a2, .int a3])).length) Slot.unset).toArray = ls at hl ⊢
  have hl : lv_has ls 6 [(0, .ref (gA G 213)), (1, .int a1), (2, .int a2), (3, .int a3)] := hl
  obtain ⟨res, hres⟩ : ∃ r, r = MX9_whisper a1 a2 a3 V := ⟨_, rfl⟩
  rw [← hres]
  show W p l e r_X9_whisper s m ([.ref (gA G 213), .int a1, .int a2, .int a3] : List Value).toArray below meth c s.heap [] 0 0 (MQ below (gQI G res) ([.ref (gA G 213), .int a1, .int a2, .int a3] : List Value).toArray s 0 0 (gF G)) (F0 m 0 ls [])
  have hs : ((¬ (MX9_isPlayer a1 V) = 0 → ((¬ (MX9_isPlayer a2 V) = 0 → ((¬ (MX9_in a3 (0 : Int32) (25 : Int32) V) = 0 → (((a1 - a2) = (1 : Int32) → (PX9_whisper_42 a1 a2 a3 V)) ∧ (¬ (a1 - a2) = (1 : Int32) → (((a2 - a1) = (1 : Int32) → (PX9_whisper_42 a1 a2 a3 V)) ∧ (¬ (a2 - a1) = (1 : Int32) → (PX9_whisper_47 a1 a2 a3 (0 : Int32) V))))))))))) := hs
  have hres : res = (if (MX9_isPlayer a1 V) = 0 then (((-1 : Int32), V)) else (if (MX9_isPlayer a2 V) = 0 then (((-1 : Int32), V)) else (if (MX9_in a3 (0 : Int32) (25 : Int32) V) = 0 then (((-1 : Int32), V)) else (if (a1 - a2) = (1 : Int32) then (BX9_whisper_42 a1 a2 a3 V) else (if (a2 - a1) = (1 : Int32) then (BX9_whisper_42 a1 a2 a3 V) else (BX9_whisper_47 a1 a2 a3 (0 : Int32) V)))))) := hres
  have b_106 : ∀ (x1 : Int32) (x2 : Int32) (x5 : Int32) (V : gV) (H : Heap) (locs : List Loc) (ls : Array Slot), lv_has ls 6 [(0, .ref (gA G 213)), (1, .int x1), (2, .int x2), (5, .int x5)] → va_P (gD G) vwCl (gL G V) H → va_S (gF G) s.heap H locs → PX9_whisper_106  x1 x2 x5 V → res = BX9_whisper_106  x1 x2 x5 V → W p l e r_X9_whisper s m ([.ref (gA G 213), .int a1, .int a2, .int a3] : List Value).toArray below meth c H locs 0 0 (MQ below (gQI G res) ([.ref (gA G 213), .int a1, .int a2, .int a3] : List Value).toArray s 0 0 (gF G)) (F0 m 106 ls []) := by
    intro x1 x2 x5 V H locs ls hl hP hS hs hres
    have hs : (vp_in (MX9_at x2 (5 : Int32) V) 246) := hs
    have hres : res = ((x5, (gu V 214 ((MX9_at x2 (5 : Int32) V)).toNatClampNeg x1))) := hres
    refine lv_aload_n hx hb dX9_whisper_106 rfl (lv_at hl 0 rfl) ?_
    refine gh_get (v := .ref (gA G 214)) (C := RX9) (T := TX9) (N := 11) hx hb hw inlX9 hown hT hP 213 (Nat.le_of_ble_eq_true rfl) kd213 rfl rfl 0 (by decide) (hw _ uw117) rfl dX9_whisper_107 ?_
    refine lv_iload_n hx hb dX9_whisper_110 rfl (lv_at hl 2 rfl) ?_
    refine lv_iconst (v := 5) hx hb dX9_whisper_111 (by decide) ?_
    refine gh_kr (va_runS (As := [.int x2, .int (5 : Int32)]) (rest := [.ref (gA G 214)]) ⟨hx, hb, hml, hown, hw⟩ (cc_X9_at l G V x2 (5 : Int32)) (va_cwS 2 hw gv_RX9_51 rfl rfl rfl dd_X9_at.2 ⟨Nat.le_of_ble_eq_true rfl, Nat.le_of_ble_eq_true rfl⟩) (gh_pre hT hP) rfl rfl hl.1 rfl (lv_room (Nat.le_of_ble_eq_true rfl)) dX9_whisper_112 ⟨Nat.zero_le _, Nat.zero_le _⟩) hS (fun H locs hP hS => ?_)
    refine lv_iload_n hx hb dX9_whisper_115 rfl (lv_at hl 1 rfl) ?_
    have ho_11 := hs
    refine gh_iast hx hb hT hP hS 214 (Nat.le_of_ble_eq_true rfl) kd214 ho_11 dX9_whisper_116 (fun H locs hP hS => ?_)
    refine lv_iload hx hb dX9_whisper_117 (lv_at hl 3 rfl) ?_
    exact gh_iret hx hb hr hlocks hP hS hT hres dX9_whisper_119
  have b_83 : ∀ (x1 : Int32) (x2 : Int32) (x3 : Int32) (V : gV) (H : Heap) (locs : List Loc) (ls : Array Slot), lv_has ls 6 [(0, .ref (gA G 213)), (1, .int x1), (2, .int x2), (3, .int x3)] → va_P (gD G) vwCl (gL G V) H → va_S (gF G) s.heap H locs → PX9_whisper_83  x1 x2 x3 V → res = BX9_whisper_83  x1 x2 x3 V → W p l e r_X9_whisper s m ([.ref (gA G 213), .int a1, .int a2, .int a3] : List Value).toArray below meth c H locs 0 0 (MQ below (gQI G res) ([.ref (gA G 213), .int a1, .int a2, .int a3] : List Value).toArray s 0 0 (gF G)) (F0 m 83 ls []) := by
    intro x1 x2 x3 V H locs ls hl hP hS hs hres
    have hs : (vp_in (MX9_at x2 (4 : Int32) V) 246) ∧ (vp_in (MX9_at x2 (4 : Int32) V) 246) ∧ (PX9_whisper_106 x1 x2 (V 214 ((MX9_at x2 (4 : Int32) V)).toNatClampNeg) (gu V 214 ((MX9_at x2 (4 : Int32) V)).toNatClampNeg x3)) := hs
    have hres : res = (BX9_whisper_106 x1 x2 (V 214 ((MX9_at x2 (4 : Int32) V)).toNatClampNeg) (gu V 214 ((MX9_at x2 (4 : Int32) V)).toNatClampNeg x3)) := hres
    refine lv_aload_n hx hb dX9_whisper_83 rfl (lv_at hl 0 rfl) ?_
    refine gh_get (v := .ref (gA G 214)) (C := RX9) (T := TX9) (N := 11) hx hb hw inlX9 hown hT hP 213 (Nat.le_of_ble_eq_true rfl) kd213 rfl rfl 0 (by decide) (hw _ uw117) rfl dX9_whisper_84 ?_
    refine lv_iload_n hx hb dX9_whisper_87 rfl (lv_at hl 2 rfl) ?_
    refine lv_iconst (v := 4) hx hb dX9_whisper_88 (by decide) ?_
    refine gh_kr (va_runS (As := [.int x2, .int (4 : Int32)]) (rest := [.ref (gA G 214)]) ⟨hx, hb, hml, hown, hw⟩ (cc_X9_at l G V x2 (4 : Int32)) (va_cwS 2 hw gv_RX9_51 rfl rfl rfl dd_X9_at.2 ⟨Nat.le_of_ble_eq_true rfl, Nat.le_of_ble_eq_true rfl⟩) (gh_pre hT hP) rfl rfl hl.1 rfl (lv_room (Nat.le_of_ble_eq_true rfl)) dX9_whisper_89 ⟨Nat.zero_le _, Nat.zero_le _⟩) hS (fun H locs hP hS => ?_)
    obtain ⟨ho_9, hs⟩ := hs
    refine gh_iald hx hb hT hP 214 (Nat.le_of_ble_eq_true rfl) kd214 ho_9 dX9_whisper_92 ?_
    refine lv_istore (lv' := [(5, .int (V 214 ((MX9_at x2 (4 : Int32) V)).toNatClampNeg)), (0, .ref (gA G 213)), (1, .int x1), (2, .int x2), (3, .int x3)]) hx hb dX9_whisper_93 hl (by decide) rfl (fun ls hl => ?_)
    refine lv_aload_n hx hb dX9_whisper_95 rfl (lv_at hl 1 rfl) ?_
    refine gh_get (v := .ref (gA G 214)) (C := RX9) (T := TX9) (N := 11) hx hb hw inlX9 hown hT hP 213 (Nat.le_of_ble_eq_true rfl) kd213 rfl rfl 0 (by decide) (hw _ uw117) rfl dX9_whisper_96 ?_
    refine lv_iload_n hx hb dX9_whisper_99 rfl (lv_at hl 3 rfl) ?_
    refine lv_iconst (v := 4) hx hb dX9_whisper_100 (by decide) ?_
    refine gh_kr (va_runS (As := [.int x2, .int (4 : Int32)]) (rest := [.ref (gA G 214)]) ⟨hx, hb, hml, hown, hw⟩ (cc_X9_at l G V x2 (4 : Int32)) (va_cwS 2 hw gv_RX9_51 rfl rfl rfl dd_X9_at.2 ⟨Nat.le_of_ble_eq_true rfl, Nat.le_of_ble_eq_true rfl⟩) (gh_pre hT hP) rfl rfl hl.1 rfl (lv_room (Nat.le_of_ble_eq_true rfl)) dX9_whisper_101 ⟨Nat.zero_le _, Nat.zero_le _⟩) hS (fun H locs hP hS => ?_)
    refine lv_iload_n hx hb dX9_whisper_104 rfl (lv_at hl 4 rfl) ?_
    obtain ⟨ho_10, hs⟩ := hs
    refine gh_iast hx hb hT hP hS 214 (Nat.le_of_ble_eq_true rfl) kd214 ho_10 dX9_whisper_105 (fun H locs hP hS => ?_)
    exact b_106 x1 x2 (V 214 ((MX9_at x2 (4 : Int32) V)).toNatClampNeg) (gu V 214 ((MX9_at x2 (4 : Int32) V)).toNatClampNeg x3) _ _ _ (lv_sub hl [1, 2, 3, 0] rfl) hP hS hs hres
  have b_47 : ∀ (x1 : Int32) (x2 : Int32) (x3 : Int32) (s0 : Int32) (V : gV) (H : Heap) (locs : List Loc) (ls : Array Slot), lv_has ls 6 [(0, .ref (gA G 213)), (1, .int x1), (2, .int x2), (3, .int x3)] → va_P (gD G) vwCl (gL G V) H → va_S (gF G) s.heap H locs → PX9_whisper_47  x1 x2 x3 s0 V → res = BX9_whisper_47  x1 x2 x3 s0 V → W p l e r_X9_whisper s m ([.ref (gA G 213), .int a1, .int a2, .int a3] : List Value).toArray below meth c H locs 0 0 (MQ below (gQI G res) ([.ref (gA G 213), .int a1, .int a2, .int a3] : List Value).toArray s 0 0 (gF G)) (F0 m 47 ls [.int s0]) := by
    intro x1 x2 x3 s0 V H locs ls hl hP hS hs hres
    have hs : ((¬ (MX9_runs V) = 0 → ((¬ s0 = 0 → ((¬ (((V 214 ((6 : Int32)).toNatClampNeg) >>> (x3 &&& 31)) &&& (1 : Int32)) = (1 : Int32) → (PX9_changes V) ∧ (PX9_whisper_83 x1 x2 x3 (MX9_changes V)))))))) := hs
    have hres : res = (if (MX9_runs V) = 0 then (((-2 : Int32), V)) else (if s0 = 0 then (((-2 : Int32), V)) else (if (((V 214 ((6 : Int32)).toNatClampNeg) >>> (x3 &&& 31)) &&& (1 : Int32)) = (1 : Int32) then (((-2 : Int32), V)) else (BX9_whisper_83 x1 x2 x3 (MX9_changes V))))) := hres
    refine lv_istore (lv' := [(4, .int s0), (0, .ref (gA G 213)), (1, .int x1), (2, .int x2), (3, .int x3)]) hx hb dX9_whisper_47 hl (by decide) rfl (fun ls hl => ?_)
    refine lv_aload_n hx hb dX9_whisper_49 rfl (lv_at hl 1 rfl) ?_
    refine gh_kr (va_runV (As := []) (rest := []) ⟨hx, hb, hml, hown, hw⟩ (cc_X9_runs l G V) (cwV 0 hw gv_RX9_44 rfl rfl rfl dd_X9_runs ⟨Nat.le_of_ble_eq_true rfl, Nat.le_of_ble_eq_true rfl⟩) (gh_preV hT hP (Nat.le_of_ble_eq_true rfl) kd213 rfl rfl) rfl rfl hl.1 rfl (lv_room (Nat.le_of_ble_eq_true rfl)) dX9_whisper_50 ⟨Nat.zero_le _, Nat.zero_le _⟩) hS (fun H locs hP hS => ?_)
    refine lv_if_eq (tgt := 76) hx hb dX9_whisper_53 (by decide) (fun c_5 => ?_) (fun c_5 => ?_)
    · have hres := hres.trans (if_pos c_5)
      refine lv_bipush (v := -2) hx hb dX9_whisper_76 (by decide) ?_
      exact gh_iret hx hb hr hlocks hP hS hT hres dX9_whisper_78
    have hres := hres.trans (if_neg c_5)
    have hs := hs c_5
    refine lv_iload hx hb dX9_whisper_56 (lv_at hl 0 rfl) ?_
    refine lv_if_eq (tgt := 76) hx hb dX9_whisper_58 (by decide) (fun c_6 => ?_) (fun c_6 => ?_)
    · have hres := hres.trans (if_pos c_6)
      refine lv_bipush (v := -2) hx hb dX9_whisper_76 (by decide) ?_
      exact gh_iret hx hb hr hlocks hP hS hT hres dX9_whisper_78
    have hres := hres.trans (if_neg c_6)
    have hs := hs c_6
    refine lv_aload_n hx hb dX9_whisper_61 rfl (lv_at hl 1 rfl) ?_
    refine gh_get (v := .ref (gA G 214)) (C := RX9) (T := TX9) (N := 11) hx hb hw inlX9 hown hT hP 213 (Nat.le_of_ble_eq_true rfl) kd213 rfl rfl 0 (by decide) (hw _ uw117) rfl dX9_whisper_62 ?_
    refine lv_bipush (v := 6) hx hb dX9_whisper_65 (by decide) ?_
    refine gh_iald hx hb hT hP 214 (Nat.le_of_ble_eq_true rfl) kd214 (gh_ci (by decide)) dX9_whisper_67 ?_
    refine lv_iload_n hx hb dX9_whisper_68 rfl (lv_at hl 4 rfl) ?_
    refine lv_ishr hx hb dX9_whisper_69 ?_
    refine lv_iconst (v := 1) hx hb dX9_whisper_70 (by decide) ?_
    refine lv_iand hx hb dX9_whisper_71 ?_
    refine lv_iconst (v := 1) hx hb dX9_whisper_72 (by decide) ?_
    refine lv_icmp_ne (tgt := 79) hx hb dX9_whisper_73 (by decide) (fun c_7 => ?_) (fun c_7 => ?_)
    · have hres := hres.trans (if_neg c_7)
      have hs := hs c_7
      refine lv_aload_n hx hb dX9_whisper_79 rfl (lv_at hl 1 rfl) ?_
      obtain ⟨ho_8, hs⟩ := hs
      refine gh_kv (va_runV (As := []) (rest := []) ⟨hx, hb, hml, hown, hw⟩ (cc_X9_changes l G V ho_8) (cwV 0 hw gv_RX9_48 rfl rfl rfl dd_X9_changes ⟨Nat.le_of_ble_eq_true rfl, Nat.le_of_ble_eq_true rfl⟩) (gh_preV hT hP (Nat.le_of_ble_eq_true rfl) kd213 rfl rfl) rfl rfl hl.1 rfl (lv_room (Nat.le_of_ble_eq_true rfl)) dX9_whisper_80 ⟨Nat.zero_le _, Nat.zero_le _⟩) hS (fun H locs hP hS => ?_)
      exact b_83 x1 x2 x3 (MX9_changes V) _ _ _ (lv_sub hl [1, 2, 3, 4] rfl) hP hS hs hres
    have hres := hres.trans (if_pos c_7)
    refine lv_bipush (v := -2) hx hb dX9_whisper_76 (by decide) ?_
    exact gh_iret hx hb hr hlocks hP hS hT hres dX9_whisper_78
  have b_42 : ∀ (x1 : Int32) (x2 : Int32) (x3 : Int32) (V : gV) (H : Heap) (locs : List Loc) (ls : Array Slot), lv_has ls 6 [(0, .ref (gA G 213)), (1, .int x1), (2, .int x2), (3, .int x3)] → va_P (gD G) vwCl (gL G V) H → va_S (gF G) s.heap H locs → PX9_whisper_42  x1 x2 x3 V → res = BX9_whisper_42  x1 x2 x3 V → W p l e r_X9_whisper s m ([.ref (gA G 213), .int a1, .int a2, .int a3] : List Value).toArray below meth c H locs 0 0 (MQ below (gQI G res) ([.ref (gA G 213), .int a1, .int a2, .int a3] : List Value).toArray s 0 0 (gF G)) (F0 m 42 ls []) := by
    intro x1 x2 x3 V H locs ls hl hP hS hs hres
    have hs : (PX9_whisper_47 x1 x2 x3 (1 : Int32) V) := hs
    have hres : res = (BX9_whisper_47 x1 x2 x3 (1 : Int32) V) := hres
    refine lv_iconst (v := 1) hx hb dX9_whisper_42 (by decide) ?_
    refine lv_goto (tgt := 47) hx hb dX9_whisper_43 (by decide) ?_
    exact b_47 x1 x2 x3 (1 : Int32) V _ _ _ (lv_sub hl [0, 1, 2, 3] rfl) hP hS hs hres
  refine lv_aload_n hx hb dX9_whisper_0 rfl (lv_at hl 0 rfl) ?_
  refine lv_iload_n hx hb dX9_whisper_1 rfl (lv_at hl 1 rfl) ?_
  refine gh_kr (va_runV (As := [.int a1]) (rest := []) ⟨hx, hb, hml, hown, hw⟩ (cc_X9_isPlayer l G V a1) (cwV 1 hw gv_RX9_54 rfl rfl rfl dd_X9_isPlayer ⟨Nat.le_of_ble_eq_true rfl, Nat.le_of_ble_eq_true rfl⟩) (gh_preV hT hP (Nat.le_of_ble_eq_true rfl) kd213 rfl rfl) rfl rfl hl.1 rfl (lv_room (Nat.le_of_ble_eq_true rfl)) dX9_whisper_2 ⟨Nat.zero_le _, Nat.zero_le _⟩) hS (fun H locs hP hS => ?_)
  refine lv_if_eq (tgt := 26) hx hb dX9_whisper_5 (by decide) (fun c_1 => ?_) (fun c_1 => ?_)
  · have hres := hres.trans (if_pos c_1)
    refine lv_iconst (v := -1) hx hb dX9_whisper_26 (by decide) ?_
    exact gh_iret hx hb hr hlocks hP hS hT hres dX9_whisper_27
  have hres := hres.trans (if_neg c_1)
  have hs := hs c_1
  refine lv_aload_n hx hb dX9_whisper_8 rfl (lv_at hl 0 rfl) ?_
  refine lv_iload_n hx hb dX9_whisper_9 rfl (lv_at hl 2 rfl) ?_
  refine gh_kr (va_runV (As := [.int a2]) (rest := []) ⟨hx, hb, hml, hown, hw⟩ (cc_X9_isPlayer l G V a2) (cwV 1 hw gv_RX9_54 rfl rfl rfl dd_X9_isPlayer ⟨Nat.le_of_ble_eq_true rfl, Nat.le_of_ble_eq_true rfl⟩) (gh_preV hT hP (Nat.le_of_ble_eq_true rfl) kd213 rfl rfl) rfl rfl hl.1 rfl (lv_room (Nat.le_of_ble_eq_true rfl)) dX9_whisper_10 ⟨Nat.zero_le _, Nat.zero_le _⟩) hS (fun H locs hP hS => ?_)
  refine lv_if_eq (tgt := 26) hx hb dX9_whisper_13 (by decide) (fun c_2 => ?_) (fun c_2 => ?_)
  · have hres := hres.trans (if_pos c_2)
    refine lv_iconst (v := -1) hx hb dX9_whisper_26 (by decide) ?_
    exact gh_iret hx hb hr hlocks hP hS hT hres dX9_whisper_27
  have hres := hres.trans (if_neg c_2)
  have hs := hs c_2
  refine lv_iload_n hx hb dX9_whisper_16 rfl (lv_at hl 3 rfl) ?_
  refine lv_iconst (v := 0) hx hb dX9_whisper_17 (by decide) ?_
  refine lv_bipush (v := 25) hx hb dX9_whisper_18 (by decide) ?_
  refine gh_kr (va_runS (As := [.int a3, .int (0 : Int32), .int (25 : Int32)]) (rest := []) ⟨hx, hb, hml, hown, hw⟩ (cc_X9_in l G V a3 (0 : Int32) (25 : Int32)) (va_cwS 3 hw gv_RX9_40 rfl rfl rfl dd_X9_in.2 ⟨Nat.le_of_ble_eq_true rfl, Nat.le_of_ble_eq_true rfl⟩) (gh_pre hT hP) rfl rfl hl.1 rfl (lv_room (Nat.le_of_ble_eq_true rfl)) dX9_whisper_20 ⟨Nat.zero_le _, Nat.zero_le _⟩) hS (fun H locs hP hS => ?_)
  refine lv_if_ne (tgt := 28) hx hb dX9_whisper_23 (by decide) (fun c_3 => ?_) (fun c_3 => ?_)
  · have hres := hres.trans (if_neg c_3)
    have hs := hs c_3
    refine lv_iload_n hx hb dX9_whisper_28 rfl (lv_at hl 1 rfl) ?_
    refine lv_iload_n hx hb dX9_whisper_29 rfl (lv_at hl 2 rfl) ?_
    refine lv_isub hx hb dX9_whisper_30 ?_
    refine lv_iconst (v := 1) hx hb dX9_whisper_31 (by decide) ?_
    refine lv_icmp_eq (tgt := 42) hx hb dX9_whisper_32 (by decide) (fun c_4 => ?_) (fun c_4 => ?_)
    · have hres := hres.trans (if_pos c_4)
      have hs := hs.1 c_4
      exact b_42 a1 a2 a3 V _ _ _ (lv_sub hl [0, 1, 2, 3] rfl) hP hS hs hres
    have hres := hres.trans (if_neg c_4)
    have hs := hs.2 c_4
    refine lv_iload_n hx hb dX9_whisper_35 rfl (lv_at hl 2 rfl) ?_
    refine lv_iload_n hx hb dX9_whisper_36 rfl (lv_at hl 1 rfl) ?_
    refine lv_isub hx hb dX9_whisper_37 ?_
    refine lv_iconst (v := 1) hx hb dX9_whisper_38 (by decide) ?_
    refine lv_icmp_ne (tgt := 46) hx hb dX9_whisper_39 (by decide) (fun c_12 => ?_) (fun c_12 => ?_)
    · have hres := hres.trans (if_neg c_12)
      have hs := hs.2 c_12
      refine lv_iconst (v := 0) hx hb dX9_whisper_46 (by decide) ?_
      exact b_47 a1 a2 a3 (0 : Int32) V _ _ _ (lv_sub hl [0, 1, 2, 3] rfl) hP hS hs hres
    have hres := hres.trans (if_pos c_12)
    have hs := hs.1 c_12
    exact b_42 a1 a2 a3 V _ _ _ (lv_sub hl [0, 1, 2, 3] rfl) hP hS hs hres
  have hres := hres.trans (if_pos c_3)
  refine lv_iconst (v := -1) hx hb dX9_whisper_26 (by decide) ?_
  exact gh_iret hx hb hr hlocks hP hS hT hres dX9_whisper_27
def BX9_restore_25    (V : gV) : Int32 × gV := ((V 214 ((1 : Int32)).toNatClampNeg), V)
def BX9_restore_14    (V : gV) : Int32 × gV := BX9_restore_25 (MX9_copies 216 214 V)
def PX9_restore_14    (V : gV) : Prop := (PX9_copies 216 214 V)
def MX9_restore   (V : gV) : Int32 × gV := if (V 213 3) = 0 then (((-2 : Int32), V)) else (BX9_restore_14 (MX9_changes V))
def PX9_restore   (V : gV) : Prop := ((¬ (V 213 3) = 0 → (PX9_changes V) ∧ (PX9_restore_14 (MX9_changes V))))
abbrev wc_X9_restore : List Cond := Cond.code yX9_restore cX9_restore 1 (some .int) :: wsL_law
abbrev r_X9_restore : Room := { frames := 1, cells := 0, slots := 0, locals := 22 }
theorem dd_X9_restore : yX9_restore.cls = RX9 ∧ yX9_restore.cls ≠ "java/lang/invoke/MethodHandle" ∧ yX9_restore.cls ≠ "java/lang/invoke/VarHandle" ∧ (parseMethodDescriptor yX9_restore.desc).map (fun d => d.parameters.length) = some 0 := by decide +kernel
set_option maxHeartbeats 8000000 in
set_option maxRecDepth 100000 in
theorem cc_X9_restore (l : Launch) (G : gG) (V : gV)    (hs : PX9_restore V) : Met l yX9_restore wc_X9_restore r_X9_restore (va_Pc [.ref (gA G 213)] (gW G V)) (gQI G (MX9_restore V)) 0 0 (gF G) := by
  refine Met.ofW (cc := cX9_restore) (maxL := 1) (ret := (some .int)) (by decide) rfl ?_
  intro p e s m args below meth c s₁ B hml hv
  obtain ⟨rfl, hP, hT⟩ := hv
  have hx := B.exec
  have hb := B.bytes
  have hr := B.returns
  have hw := gh_hw (atoms_spec (ws := wc_X9_restore) B.pre)
  have hown : s.vm.findClass RX9 = some m.cls := findClass_of_methodNamed B.named
  have hlocks := B.notSynchronized
  have hS : va_S (gF G) s.heap s.heap [] := va_S.rf
  have hl := lv_entry ([.ref (gA G 213)]) (n := 1) (Nat.le_of_ble_eq_true rfl)
  rw [lg_entry_eq]
  generalize (lg_sl ([.ref (gA G 213)]) ++ List.replicate (1 - (lg_sl ([.ref (gA G 213)])).length) Slot.unset).toArray = ls at hl ⊢
  have hl : lv_has ls 1 [(0, .ref (gA G 213))] := hl
  obtain ⟨res, hres⟩ : ∃ r, r = MX9_restore V := ⟨_, rfl⟩
  rw [← hres]
  show W p l e r_X9_restore s m ([.ref (gA G 213)] : List Value).toArray below meth c s.heap [] 0 0 (MQ below (gQI G res) ([.ref (gA G 213)] : List Value).toArray s 0 0 (gF G)) (F0 m 0 ls [])
  have hs : ((¬ (V 213 3) = 0 → (PX9_changes V) ∧ (PX9_restore_14 (MX9_changes V)))) := hs
  have hres : res = (if (V 213 3) = 0 then (((-2 : Int32), V)) else (BX9_restore_14 (MX9_changes V))) := hres
  have b_25 : ∀  (V : gV) (H : Heap) (locs : List Loc) (ls : Array Slot), lv_has ls 1 [(0, .ref (gA G 213))] → va_P (gD G) vwCl (gL G V) H → va_S (gF G) s.heap H locs → res = BX9_restore_25   V → W p l e r_X9_restore s m ([.ref (gA G 213)] : List Value).toArray below meth c H locs 0 0 (MQ below (gQI G res) ([.ref (gA G 213)] : List Value).toArray s 0 0 (gF G)) (F0 m 25 ls []) := by
    intro  V H locs ls hl hP hS hres
    have hres : res = (((V 214 ((1 : Int32)).toNatClampNeg), V)) := hres
    refine lv_aload_n hx hb dX9_restore_25 rfl (lv_at hl 0 rfl) ?_
    refine gh_get (v := .ref (gA G 214)) (C := RX9) (T := TX9) (N := 11) hx hb hw inlX9 hown hT hP 213 (Nat.le_of_ble_eq_true rfl) kd213 rfl rfl 0 (by decide) (hw _ uw117) rfl dX9_restore_26 ?_
    refine lv_iconst (v := 1) hx hb dX9_restore_29 (by decide) ?_
    refine gh_iald hx hb hT hP 214 (Nat.le_of_ble_eq_true rfl) kd214 (gh_ci (by decide)) dX9_restore_30 ?_
    exact gh_iret hx hb hr hlocks hP hS hT hres dX9_restore_31
  have b_14 : ∀  (V : gV) (H : Heap) (locs : List Loc) (ls : Array Slot), lv_has ls 1 [(0, .ref (gA G 213))] → va_P (gD G) vwCl (gL G V) H → va_S (gF G) s.heap H locs → PX9_restore_14   V → res = BX9_restore_14   V → W p l e r_X9_restore s m ([.ref (gA G 213)] : List Value).toArray below meth c H locs 0 0 (MQ below (gQI G res) ([.ref (gA G 213)] : List Value).toArray s 0 0 (gF G)) (F0 m 14 ls []) := by
    intro  V H locs ls hl hP hS hs hres
    have hs : (PX9_copies 216 214 V) := hs
    have hres : res = (BX9_restore_25 (MX9_copies 216 214 V)) := hres
    refine lv_aload_n hx hb dX9_restore_14 rfl (lv_at hl 0 rfl) ?_
    refine gh_get (v := .ref (gA G 216)) (C := RX9) (T := TX9) (N := 11) hx hb hw inlX9 hown hT hP 213 (Nat.le_of_ble_eq_true rfl) kd213 rfl rfl 2 (by decide) (hw _ uw119) rfl dX9_restore_15 ?_
    refine lv_aload_n hx hb dX9_restore_18 rfl (lv_at hl 0 rfl) ?_
    refine gh_get (v := .ref (gA G 214)) (C := RX9) (T := TX9) (N := 11) hx hb hw inlX9 hown hT hP 213 (Nat.le_of_ble_eq_true rfl) kd213 rfl rfl 0 (by decide) (hw _ uw117) rfl dX9_restore_19 ?_
    have ho_3 := hs
    refine gh_kv (va_runS (As := [.ref (gA G 216), .ref (gA G 214)]) (rest := []) ⟨hx, hb, hml, hown, hw⟩ (cc_X9_copies l G V 216 gia216 214 gia214 ho_3) (va_cwS 2 hw gv_RX9_126 rfl rfl rfl dd_X9_copies.2 ⟨Nat.le_of_ble_eq_true rfl, Nat.le_of_ble_eq_true rfl⟩) (gh_pre hT hP) rfl rfl hl.1 rfl (lv_room (Nat.le_of_ble_eq_true rfl)) dX9_restore_22 ⟨Nat.zero_le _, Nat.zero_le _⟩) hS (fun H locs hP hS => ?_)
    exact b_25 (MX9_copies 216 214 V) _ _ _ (lv_sub hl [0] rfl) hP hS hres
  refine lv_aload_n hx hb dX9_restore_0 rfl (lv_at hl 0 rfl) ?_
  refine gh_get (v := .int (V 213 3)) (C := RX9) (T := TX9) (N := 11) hx hb hw inlX9 hown hT hP 213 (Nat.le_of_ble_eq_true rfl) kd213 rfl rfl 3 (by decide) (hw _ uw607) rfl dX9_restore_1 ?_
  refine lv_if_ne (tgt := 10) hx hb dX9_restore_4 (by decide) (fun c_1 => ?_) (fun c_1 => ?_)
  · have hres := hres.trans (if_neg c_1)
    have hs := hs c_1
    refine lv_aload_n hx hb dX9_restore_10 rfl (lv_at hl 0 rfl) ?_
    obtain ⟨ho_2, hs⟩ := hs
    refine gh_kv (va_runV (As := []) (rest := []) ⟨hx, hb, hml, hown, hw⟩ (cc_X9_changes l G V ho_2) (cwV 0 hw gv_RX9_48 rfl rfl rfl dd_X9_changes ⟨Nat.le_of_ble_eq_true rfl, Nat.le_of_ble_eq_true rfl⟩) (gh_preV hT hP (Nat.le_of_ble_eq_true rfl) kd213 rfl rfl) rfl rfl hl.1 rfl (lv_room (Nat.le_of_ble_eq_true rfl)) dX9_restore_11 ⟨Nat.zero_le _, Nat.zero_le _⟩) hS (fun H locs hP hS => ?_)
    exact b_14 (MX9_changes V) _ _ _ (lv_sub hl [0] rfl) hP hS hs hres
  have hres := hres.trans (if_pos c_1)
  refine lv_bipush (v := -2) hx hb dX9_restore_7 (by decide) ?_
  exact gh_iret hx hb hr hlocks hP hS hT hres dX9_restore_9
def BX9_undo_50  (K22 : Int32 → gV → Int32 × gV) (x1 : Int32) (V : gV) : Int32 × gV := K22 (x1 + (1 : Int32)) V
def PX9_undo_50  (KP22 : Int32 → gV → Prop) (x1 : Int32) (V : gV) : Prop := (KP22 (x1 + (1 : Int32)) V)
def BX9_undo_22   : Nat → Int32 → gV → Int32 × gV
  | 0, _, V => (0, V)
  | n + 1, x1, V => if (246 : Int32) ≤ x1 then (((V 213 4), V)) else (BX9_undo_50 (BX9_undo_22 n) x1 (gu V 214 (x1).toNatClampNeg (V 215 ((((246 : Int32) * (V 213 4)) + x1)).toNatClampNeg)))
def PX9_undo_22   : Nat → Int32 → gV → Prop
  | 0, _, _ => False
  | n + 1, x1, V => ((¬ (246 : Int32) ≤ x1 → (vp_in (((246 : Int32) * (V 213 4)) + x1) 984) ∧ (vp_in x1 246) ∧ (PX9_undo_50 (PX9_undo_22 n) x1 (gu V 214 (x1).toNatClampNeg (V 215 ((((246 : Int32) * (V 213 4)) + x1)).toNatClampNeg)))))
def BX9_undo_20    (V : gV) : Int32 × gV := BX9_undo_22 1000 (0 : Int32) V
def PX9_undo_20    (V : gV) : Prop := (PX9_undo_22 1000 (0 : Int32) V)
def MX9_undo   (V : gV) : Int32 × gV := if (V 213 4) = 0 then (((-2 : Int32), V)) else (BX9_undo_20 (gu V 213 4 ((V 213 4) - (1 : Int32))))
def PX9_undo   (V : gV) : Prop := ((¬ (V 213 4) = 0 → (PX9_undo_20 (gu V 213 4 ((V 213 4) - (1 : Int32))))))
abbrev wc_X9_undo : List Cond := Cond.code yX9_undo cX9_undo 2 (some .int) :: wsL_law
abbrev r_X9_undo : Room := { frames := 0, cells := 0, slots := 0, locals := 0 }
theorem dd_X9_undo : yX9_undo.cls = RX9 ∧ yX9_undo.cls ≠ "java/lang/invoke/MethodHandle" ∧ yX9_undo.cls ≠ "java/lang/invoke/VarHandle" ∧ (parseMethodDescriptor yX9_undo.desc).map (fun d => d.parameters.length) = some 0 := by decide +kernel
set_option maxHeartbeats 8000000 in
set_option maxRecDepth 100000 in
theorem cc_X9_undo (l : Launch) (G : gG) (V : gV)    (hs : PX9_undo V) : Met l yX9_undo wc_X9_undo r_X9_undo (va_Pc [.ref (gA G 213)] (gW G V)) (gQI G (MX9_undo V)) 0 0 (gF G) := by
  refine Met.ofW (cc := cX9_undo) (maxL := 2) (ret := (some .int)) (by decide) rfl ?_
  intro p e s m args below meth c s₁ B hml hv
  obtain ⟨rfl, hP, hT⟩ := hv
  have hx := B.exec
  have hb := B.bytes
  have hr := B.returns
  have hw := gh_hw (atoms_spec (ws := wc_X9_undo) B.pre)
  have hown : s.vm.findClass RX9 = some m.cls := findClass_of_methodNamed B.named
  have hlocks := B.notSynchronized
  have hS : va_S (gF G) s.heap s.heap [] := va_S.rf
  have hl := lv_entry ([.ref (gA G 213)]) (n := 2) (Nat.le_of_ble_eq_true rfl)
  rw [lg_entry_eq]
  generalize (lg_sl ([.ref (gA G 213)]) ++ List.replicate (2 - (lg_sl ([.ref (gA G 213)])).length) Slot.unset).toArray = ls at hl ⊢
  have hl : lv_has ls 2 [(0, .ref (gA G 213))] := hl
  obtain ⟨res, hres⟩ : ∃ r, r = MX9_undo V := ⟨_, rfl⟩
  rw [← hres]
  show W p l e r_X9_undo s m ([.ref (gA G 213)] : List Value).toArray below meth c s.heap [] 0 0 (MQ below (gQI G res) ([.ref (gA G 213)] : List Value).toArray s 0 0 (gF G)) (F0 m 0 ls [])
  have hs : ((¬ (V 213 4) = 0 → (PX9_undo_20 (gu V 213 4 ((V 213 4) - (1 : Int32)))))) := hs
  have hres : res = (if (V 213 4) = 0 then (((-2 : Int32), V)) else (BX9_undo_20 (gu V 213 4 ((V 213 4) - (1 : Int32))))) := hres
  have b_22 : ∀ (n : Nat) (x1 : Int32) (V : gV) (H : Heap) (locs : List Loc) (ls : Array Slot), lv_has ls 2 [(0, .ref (gA G 213)), (1, .int x1)] → va_P (gD G) vwCl (gL G V) H → va_S (gF G) s.heap H locs → PX9_undo_22  n x1 V → res = BX9_undo_22  n x1 V → W p l e r_X9_undo s m ([.ref (gA G 213)] : List Value).toArray below meth c H locs 0 0 (MQ below (gQI G res) ([.ref (gA G 213)] : List Value).toArray s 0 0 (gF G)) (F0 m 22 ls []) := by
    intro n
    induction n with
    | zero =>
      intro x1 V H locs ls hl hP hS hs hres
      exact (show False from hs).elim
    | succ n22 ih22 =>
      have b_50 : ∀ (x1 : Int32) (V : gV) (H : Heap) (locs : List Loc) (ls : Array Slot), lv_has ls 2 [(0, .ref (gA G 213)), (1, .int x1)] → va_P (gD G) vwCl (gL G V) H → va_S (gF G) s.heap H locs → PX9_undo_50 (PX9_undo_22 n22) x1 V → res = BX9_undo_50 (BX9_undo_22 n22) x1 V → W p l e r_X9_undo s m ([.ref (gA G 213)] : List Value).toArray below meth c H locs 0 0 (MQ below (gQI G res) ([.ref (gA G 213)] : List Value).toArray s 0 0 (gF G)) (F0 m 50 ls []) := by
        intro x1 V H locs ls hl hP hS hs hres
        have hs : ((PX9_undo_22 n22) (x1 + (1 : Int32)) V) := hs
        have hres : res = ((BX9_undo_22 n22) (x1 + (1 : Int32)) V) := hres
        refine lv_iinc (v := (x1 + (1 : Int32))) (lv' := [(1, .int (x1 + (1 : Int32))), (0, .ref (gA G 213))]) hx hb dX9_undo_50 hl (k := 1) rfl rfl (by decide) rfl (fun ls hl => ?_)
        refine lv_goto (tgt := 22) hx hb dX9_undo_53 (by decide) ?_
        exact ih22 (x1 + (1 : Int32)) V _ _ _ (lv_sub hl [1, 0] rfl) hP hS hs hres
      intro x1 V H locs ls hl hP hS hs hres
      have hs : ((¬ (246 : Int32) ≤ x1 → (vp_in (((246 : Int32) * (V 213 4)) + x1) 984) ∧ (vp_in x1 246) ∧ (PX9_undo_50 (PX9_undo_22 n22) x1 (gu V 214 (x1).toNatClampNeg (V 215 ((((246 : Int32) * (V 213 4)) + x1)).toNatClampNeg))))) := hs
      have hres : res = (if (246 : Int32) ≤ x1 then (((V 213 4), V)) else (BX9_undo_50 (BX9_undo_22 n22) x1 (gu V 214 (x1).toNatClampNeg (V 215 ((((246 : Int32) * (V 213 4)) + x1)).toNatClampNeg)))) := hres
      refine lv_iload_n hx hb dX9_undo_22 rfl (lv_at hl 1 rfl) ?_
      refine lv_sipush (v := 246) hx hb dX9_undo_23 (by decide) ?_
      refine lv_icmp_ge (tgt := 56) hx hb dX9_undo_26 (by decide) (fun c_2 => ?_) (fun c_2 => ?_)
      · have hres := hres.trans (if_pos c_2)
        refine lv_aload_n hx hb dX9_undo_56 rfl (lv_at hl 0 rfl) ?_
        refine gh_get (v := .int (V 213 4)) (C := RX9) (T := TX9) (N := 11) hx hb hw inlX9 hown hT hP 213 (Nat.le_of_ble_eq_true rfl) kd213 rfl rfl 4 (by decide) (hw _ uw216) rfl dX9_undo_57 ?_
        exact gh_iret hx hb hr hlocks hP hS hT hres dX9_undo_60
      have hres := hres.trans (if_neg c_2)
      have hs := hs c_2
      refine lv_aload_n hx hb dX9_undo_29 rfl (lv_at hl 0 rfl) ?_
      refine gh_get (v := .ref (gA G 214)) (C := RX9) (T := TX9) (N := 11) hx hb hw inlX9 hown hT hP 213 (Nat.le_of_ble_eq_true rfl) kd213 rfl rfl 0 (by decide) (hw _ uw117) rfl dX9_undo_30 ?_
      refine lv_iload_n hx hb dX9_undo_33 rfl (lv_at hl 1 rfl) ?_
      refine lv_aload_n hx hb dX9_undo_34 rfl (lv_at hl 0 rfl) ?_
      refine gh_get (v := .ref (gA G 215)) (C := RX9) (T := TX9) (N := 11) hx hb hw inlX9 hown hT hP 213 (Nat.le_of_ble_eq_true rfl) kd213 rfl rfl 1 (by decide) (hw _ uw118) rfl dX9_undo_35 ?_
      refine lv_sipush (v := 246) hx hb dX9_undo_38 (by decide) ?_
      refine lv_aload_n hx hb dX9_undo_41 rfl (lv_at hl 0 rfl) ?_
      refine gh_get (v := .int (V 213 4)) (C := RX9) (T := TX9) (N := 11) hx hb hw inlX9 hown hT hP 213 (Nat.le_of_ble_eq_true rfl) kd213 rfl rfl 4 (by decide) (hw _ uw216) rfl dX9_undo_42 ?_
      refine lv_imul hx hb dX9_undo_45 ?_
      refine lv_iload_n hx hb dX9_undo_46 rfl (lv_at hl 1 rfl) ?_
      refine lv_iadd hx hb dX9_undo_47 ?_
      obtain ⟨ho_3, hs⟩ := hs
      refine gh_iald hx hb hT hP 215 (Nat.le_of_ble_eq_true rfl) kd215 ho_3 dX9_undo_48 ?_
      obtain ⟨ho_4, hs⟩ := hs
      refine gh_iast hx hb hT hP hS 214 (Nat.le_of_ble_eq_true rfl) kd214 ho_4 dX9_undo_49 (fun H locs hP hS => ?_)
      exact b_50 x1 (gu V 214 (x1).toNatClampNeg (V 215 ((((246 : Int32) * (V 213 4)) + x1)).toNatClampNeg)) _ _ _ (lv_sub hl [0, 1] rfl) hP hS hs hres
  have b_20 : ∀  (V : gV) (H : Heap) (locs : List Loc) (ls : Array Slot), lv_has ls 2 [(0, .ref (gA G 213))] → va_P (gD G) vwCl (gL G V) H → va_S (gF G) s.heap H locs → PX9_undo_20   V → res = BX9_undo_20   V → W p l e r_X9_undo s m ([.ref (gA G 213)] : List Value).toArray below meth c H locs 0 0 (MQ below (gQI G res) ([.ref (gA G 213)] : List Value).toArray s 0 0 (gF G)) (F0 m 20 ls []) := by
    intro  V H locs ls hl hP hS hs hres
    have hs : (PX9_undo_22 1000 (0 : Int32) V) := hs
    have hres : res = (BX9_undo_22 1000 (0 : Int32) V) := hres
    refine lv_iconst (v := 0) hx hb dX9_undo_20 (by decide) ?_
    refine lv_istore_n (lv' := [(1, .int (0 : Int32)), (0, .ref (gA G 213))]) hx hb dX9_undo_21 rfl hl (by decide) rfl (fun ls hl => ?_)
    exact b_22 1000 (0 : Int32) V _ _ _ (lv_sub hl [1, 0] rfl) hP hS hs hres
  refine lv_aload_n hx hb dX9_undo_0 rfl (lv_at hl 0 rfl) ?_
  refine gh_get (v := .int (V 213 4)) (C := RX9) (T := TX9) (N := 11) hx hb hw inlX9 hown hT hP 213 (Nat.le_of_ble_eq_true rfl) kd213 rfl rfl 4 (by decide) (hw _ uw216) rfl dX9_undo_1 ?_
  refine lv_if_ne (tgt := 10) hx hb dX9_undo_4 (by decide) (fun c_1 => ?_) (fun c_1 => ?_)
  · have hres := hres.trans (if_neg c_1)
    have hs := hs c_1
    refine lv_aload_n hx hb dX9_undo_10 rfl (lv_at hl 0 rfl) ?_
    refine lv_dup hx hb dX9_undo_11 rfl ?_
    refine gh_get (v := .int (V 213 4)) (C := RX9) (T := TX9) (N := 11) hx hb hw inlX9 hown hT hP 213 (Nat.le_of_ble_eq_true rfl) kd213 rfl rfl 4 (by decide) (hw _ uw216) rfl dX9_undo_12 ?_
    refine lv_iconst (v := 1) hx hb dX9_undo_15 (by decide) ?_
    refine lv_isub hx hb dX9_undo_16 ?_
    refine gh_put (ty := .int) (x := ((V 213 4) - (1 : Int32))) (C := RX9) (T := TX9) (N := 11) hx hb hw inlX9 tyX9_ok nmX9 hown hT hP hS 213 (Nat.le_of_ble_eq_true rfl) kd213 rfl rfl 4 (by decide) (hw _ uw216) rfl (by decide +kernel) rfl rfl (Nat.le_of_ble_eq_true rfl) rfl dX9_undo_17 (fun H locs hP hS => ?_)
    exact b_20 (gu V 213 4 ((V 213 4) - (1 : Int32))) _ _ _ (lv_sub hl [0] rfl) hP hS hs hres
  have hres := hres.trans (if_pos c_1)
  refine lv_bipush (v := -2) hx hb dX9_undo_7 (by decide) ?_
  exact gh_iret hx hb hr hlocks hP hS hT hres dX9_undo_9
def BX9_read_148  (K33 : Int32 → gV → Int32 × gV) (K106 : Int32 → Int32 → gV → Int32 × gV) (x1 : Int32) (x2 : Int32) (V : gV) : Int32 × gV := K106 x1 (x2 + (1 : Int32)) V
def PX9_read_148  (KP33 : Int32 → gV → Prop) (KP106 : Int32 → Int32 → gV → Prop) (x1 : Int32) (x2 : Int32) (V : gV) : Prop := (KP106 x1 (x2 + (1 : Int32)) V)
def BX9_read_106  (K33 : Int32 → gV → Int32 × gV) : Nat → Int32 → Int32 → gV → Int32 × gV
  | 0, _, _, V => (0, V)
  | n + 1, x1, x2, V => if (V 218 (((10 : Int32) * x1)).toNatClampNeg) ≤ x2 then (K33 (x1 + (1 : Int32)) V) else (BX9_read_148 K33 (BX9_read_106 K33 n) x1 x2 (gu V 214 (((((16 : Int32) + ((11 : Int32) * x1)) + (3 : Int32)) + x2)).toNatClampNeg (V 218 (((((10 : Int32) * x1) + (2 : Int32)) + x2)).toNatClampNeg)))
def PX9_read_106  (KP33 : Int32 → gV → Prop) : Nat → Int32 → Int32 → gV → Prop
  | 0, _, _, _ => False
  | n + 1, x1, x2, V => (vp_in ((10 : Int32) * x1) 160) ∧ (((V 218 (((10 : Int32) * x1)).toNatClampNeg) ≤ x2 → (KP33 (x1 + (1 : Int32)) V)) ∧ (¬ (V 218 (((10 : Int32) * x1)).toNatClampNeg) ≤ x2 → (vp_in ((((10 : Int32) * x1) + (2 : Int32)) + x2) 160) ∧ (vp_in ((((16 : Int32) + ((11 : Int32) * x1)) + (3 : Int32)) + x2) 246) ∧ (PX9_read_148 KP33 (PX9_read_106 KP33 n) x1 x2 (gu V 214 (((((16 : Int32) + ((11 : Int32) * x1)) + (3 : Int32)) + x2)).toNatClampNeg (V 218 (((((10 : Int32) * x1) + (2 : Int32)) + x2)).toNatClampNeg)))))
def BX9_read_104  (K33 : Int32 → gV → Int32 × gV) (x1 : Int32) (V : gV) : Int32 × gV := BX9_read_106 K33 1000 x1 (0 : Int32) V
def PX9_read_104  (KP33 : Int32 → gV → Prop) (x1 : Int32) (V : gV) : Prop := (PX9_read_106 KP33 1000 x1 (0 : Int32) V)
def BX9_read_89  (K33 : Int32 → gV → Int32 × gV) (x1 : Int32) (V : gV) : Int32 × gV := BX9_read_104 K33 x1 (gu V 214 ((((16 : Int32) + ((11 : Int32) * x1)) + (2 : Int32))).toNatClampNeg (0 : Int32))
def PX9_read_89  (KP33 : Int32 → gV → Prop) (x1 : Int32) (V : gV) : Prop := (vp_in (((16 : Int32) + ((11 : Int32) * x1)) + (2 : Int32)) 246) ∧ (PX9_read_104 KP33 x1 (gu V 214 ((((16 : Int32) + ((11 : Int32) * x1)) + (2 : Int32))).toNatClampNeg (0 : Int32)))
def BX9_read_64  (K33 : Int32 → gV → Int32 × gV) (x1 : Int32) (V : gV) : Int32 × gV := BX9_read_89 K33 x1 (gu V 214 ((((16 : Int32) + ((11 : Int32) * x1)) + (1 : Int32))).toNatClampNeg (V 218 ((((10 : Int32) * x1) + (1 : Int32))).toNatClampNeg))
def PX9_read_64  (KP33 : Int32 → gV → Prop) (x1 : Int32) (V : gV) : Prop := (vp_in (((10 : Int32) * x1) + (1 : Int32)) 160) ∧ (vp_in (((16 : Int32) + ((11 : Int32) * x1)) + (1 : Int32)) 246) ∧ (PX9_read_89 KP33 x1 (gu V 214 ((((16 : Int32) + ((11 : Int32) * x1)) + (1 : Int32))).toNatClampNeg (V 218 ((((10 : Int32) * x1) + (1 : Int32))).toNatClampNeg)))
def BX9_read_33   : Nat → Int32 → gV → Int32 × gV
  | 0, _, V => (0, V)
  | n + 1, x1, V => if (V 213 9) ≤ x1 then (((V 213 9), V)) else (BX9_read_64 (BX9_read_33 n) x1 (gu V 214 ((((16 : Int32) + ((11 : Int32) * x1)) + (0 : Int32))).toNatClampNeg (V 218 (((10 : Int32) * x1)).toNatClampNeg)))
def PX9_read_33   : Nat → Int32 → gV → Prop
  | 0, _, _ => False
  | n + 1, x1, V => ((¬ (V 213 9) ≤ x1 → (vp_in ((10 : Int32) * x1) 160) ∧ (vp_in (((16 : Int32) + ((11 : Int32) * x1)) + (0 : Int32)) 246) ∧ (PX9_read_64 (PX9_read_33 n) x1 (gu V 214 ((((16 : Int32) + ((11 : Int32) * x1)) + (0 : Int32))).toNatClampNeg (V 218 (((10 : Int32) * x1)).toNatClampNeg)))))
def BX9_read_31    (V : gV) : Int32 × gV := BX9_read_33 1000 (0 : Int32) V
def PX9_read_31    (V : gV) : Prop := (PX9_read_33 1000 (0 : Int32) V)
def BX9_read_21    (V : gV) : Int32 × gV := BX9_read_31 (gu V 214 ((0 : Int32)).toNatClampNeg (V 213 9))
def PX9_read_21    (V : gV) : Prop := (PX9_read_31 (gu V 214 ((0 : Int32)).toNatClampNeg (V 213 9)))
def BX9_read_11   (s0 : Int32) (V : gV) : Int32 × gV := if s0 = 0 then (((-2 : Int32), V)) else (BX9_read_21 (MX9_changes V))
def PX9_read_11   (s0 : Int32) (V : gV) : Prop := ((¬ s0 = 0 → (PX9_changes V) ∧ (PX9_read_21 (MX9_changes V))))
def MX9_read   (V : gV) : Int32 × gV := if (MX9_runs V) = 0 then (BX9_read_11 ((MX9_isRight V).1) ((MX9_isRight V).2)) else (((-2 : Int32), V))
def PX9_read   (V : gV) : Prop := (((MX9_runs V) = 0 → (PX9_isRight V) ∧ (PX9_read_11 ((MX9_isRight V).1) ((MX9_isRight V).2))))
abbrev wc_X9_read : List Cond := Cond.code yX9_read cX9_read 3 (some .int) :: wsL_law
abbrev r_X9_read : Room := { frames := 5, cells := 0, slots := 0, locals := 108 }
theorem dd_X9_read : yX9_read.cls = RX9 ∧ yX9_read.cls ≠ "java/lang/invoke/MethodHandle" ∧ yX9_read.cls ≠ "java/lang/invoke/VarHandle" ∧ (parseMethodDescriptor yX9_read.desc).map (fun d => d.parameters.length) = some 0 := by decide +kernel
set_option maxHeartbeats 8000000 in
set_option maxRecDepth 100000 in
theorem cc_X9_read (l : Launch) (G : gG) (V : gV)    (hs : PX9_read V) : Met l yX9_read wc_X9_read r_X9_read (va_Pc [.ref (gA G 213)] (gW G V)) (gQI G (MX9_read V)) 0 0 (gF G) := by
  refine Met.ofW (cc := cX9_read) (maxL := 3) (ret := (some .int)) (by decide) rfl ?_
  intro p e s m args below meth c s₁ B hml hv
  obtain ⟨rfl, hP, hT⟩ := hv
  have hx := B.exec
  have hb := B.bytes
  have hr := B.returns
  have hw := gh_hw (atoms_spec (ws := wc_X9_read) B.pre)
  have hown : s.vm.findClass RX9 = some m.cls := findClass_of_methodNamed B.named
  have hlocks := B.notSynchronized
  have hS : va_S (gF G) s.heap s.heap [] := va_S.rf
  have hl := lv_entry ([.ref (gA G 213)]) (n := 3) (Nat.le_of_ble_eq_true rfl)
  rw [lg_entry_eq]
  generalize (lg_sl ([.ref (gA G 213)]) ++ List.replicate (3 - (lg_sl ([.ref (gA G 213)])).length) Slot.unset).toArray = ls at hl ⊢
  have hl : lv_has ls 3 [(0, .ref (gA G 213))] := hl
  obtain ⟨res, hres⟩ : ∃ r, r = MX9_read V := ⟨_, rfl⟩
  rw [← hres]
  show W p l e r_X9_read s m ([.ref (gA G 213)] : List Value).toArray below meth c s.heap [] 0 0 (MQ below (gQI G res) ([.ref (gA G 213)] : List Value).toArray s 0 0 (gF G)) (F0 m 0 ls [])
  have hs : (((MX9_runs V) = 0 → (PX9_isRight V) ∧ (PX9_read_11 ((MX9_isRight V).1) ((MX9_isRight V).2)))) := hs
  have hres : res = (if (MX9_runs V) = 0 then (BX9_read_11 ((MX9_isRight V).1) ((MX9_isRight V).2)) else (((-2 : Int32), V))) := hres
  have b_33 : ∀ (n : Nat) (x1 : Int32) (V : gV) (H : Heap) (locs : List Loc) (ls : Array Slot), lv_has ls 3 [(0, .ref (gA G 213)), (1, .int x1)] → va_P (gD G) vwCl (gL G V) H → va_S (gF G) s.heap H locs → PX9_read_33  n x1 V → res = BX9_read_33  n x1 V → W p l e r_X9_read s m ([.ref (gA G 213)] : List Value).toArray below meth c H locs 0 0 (MQ below (gQI G res) ([.ref (gA G 213)] : List Value).toArray s 0 0 (gF G)) (F0 m 33 ls []) := by
    intro n
    induction n with
    | zero =>
      intro x1 V H locs ls hl hP hS hs hres
      exact (show False from hs).elim
    | succ n33 ih33 =>
      have b_106 : ∀ (n : Nat) (x1 : Int32) (x2 : Int32) (V : gV) (H : Heap) (locs : List Loc) (ls : Array Slot), lv_has ls 3 [(0, .ref (gA G 213)), (1, .int x1), (2, .int x2)] → va_P (gD G) vwCl (gL G V) H → va_S (gF G) s.heap H locs → PX9_read_106 (PX9_read_33 n33) n x1 x2 V → res = BX9_read_106 (BX9_read_33 n33) n x1 x2 V → W p l e r_X9_read s m ([.ref (gA G 213)] : List Value).toArray below meth c H locs 0 0 (MQ below (gQI G res) ([.ref (gA G 213)] : List Value).toArray s 0 0 (gF G)) (F0 m 106 ls []) := by
        intro n
        induction n with
        | zero =>
          intro x1 x2 V H locs ls hl hP hS hs hres
          exact (show False from hs).elim
        | succ n106 ih106 =>
          have b_148 : ∀ (x1 : Int32) (x2 : Int32) (V : gV) (H : Heap) (locs : List Loc) (ls : Array Slot), lv_has ls 3 [(0, .ref (gA G 213)), (1, .int x1), (2, .int x2)] → va_P (gD G) vwCl (gL G V) H → va_S (gF G) s.heap H locs → PX9_read_148 (PX9_read_33 n33) (PX9_read_106 (PX9_read_33 n33) n106) x1 x2 V → res = BX9_read_148 (BX9_read_33 n33) (BX9_read_106 (BX9_read_33 n33) n106) x1 x2 V → W p l e r_X9_read s m ([.ref (gA G 213)] : List Value).toArray below meth c H locs 0 0 (MQ below (gQI G res) ([.ref (gA G 213)] : List Value).toArray s 0 0 (gF G)) (F0 m 148 ls []) := by
            intro x1 x2 V H locs ls hl hP hS hs hres
            have hs : ((PX9_read_106 (PX9_read_33 n33) n106) x1 (x2 + (1 : Int32)) V) := hs
            have hres : res = ((BX9_read_106 (BX9_read_33 n33) n106) x1 (x2 + (1 : Int32)) V) := hres
            refine lv_iinc (v := (x2 + (1 : Int32))) (lv' := [(2, .int (x2 + (1 : Int32))), (0, .ref (gA G 213)), (1, .int x1)]) hx hb dX9_read_148 hl (k := 2) rfl rfl (by decide) rfl (fun ls hl => ?_)
            refine lv_goto (tgt := 106) hx hb dX9_read_151 (by decide) ?_
            exact ih106 x1 (x2 + (1 : Int32)) V _ _ _ (lv_sub hl [1, 2, 0] rfl) hP hS hs hres
          intro x1 x2 V H locs ls hl hP hS hs hres
          have hs : (vp_in ((10 : Int32) * x1) 160) ∧ (((V 218 (((10 : Int32) * x1)).toNatClampNeg) ≤ x2 → ((PX9_read_33 n33) (x1 + (1 : Int32)) V)) ∧ (¬ (V 218 (((10 : Int32) * x1)).toNatClampNeg) ≤ x2 → (vp_in ((((10 : Int32) * x1) + (2 : Int32)) + x2) 160) ∧ (vp_in ((((16 : Int32) + ((11 : Int32) * x1)) + (3 : Int32)) + x2) 246) ∧ (PX9_read_148 (PX9_read_33 n33) (PX9_read_106 (PX9_read_33 n33) n106) x1 x2 (gu V 214 (((((16 : Int32) + ((11 : Int32) * x1)) + (3 : Int32)) + x2)).toNatClampNeg (V 218 (((((10 : Int32) * x1) + (2 : Int32)) + x2)).toNatClampNeg))))) := hs
          have hres : res = (if (V 218 (((10 : Int32) * x1)).toNatClampNeg) ≤ x2 then ((BX9_read_33 n33) (x1 + (1 : Int32)) V) else (BX9_read_148 (BX9_read_33 n33) (BX9_read_106 (BX9_read_33 n33) n106) x1 x2 (gu V 214 (((((16 : Int32) + ((11 : Int32) * x1)) + (3 : Int32)) + x2)).toNatClampNeg (V 218 (((((10 : Int32) * x1) + (2 : Int32)) + x2)).toNatClampNeg)))) := hres
          refine lv_iload_n hx hb dX9_read_106 rfl (lv_at hl 2 rfl) ?_
          refine lv_aload_n hx hb dX9_read_107 rfl (lv_at hl 0 rfl) ?_
          refine gh_get (v := .ref (gA G 218)) (C := RX9) (T := TX9) (N := 11) hx hb hw inlX9 hown hT hP 213 (Nat.le_of_ble_eq_true rfl) kd213 rfl rfl 10 (by decide) (hw _ uw121) rfl dX9_read_108 ?_
          refine lv_bipush (v := 10) hx hb dX9_read_111 (by decide) ?_
          refine lv_iload_n hx hb dX9_read_113 rfl (lv_at hl 1 rfl) ?_
          refine lv_imul hx hb dX9_read_114 ?_
          obtain ⟨ho_11, hs⟩ := hs
          refine gh_iald hx hb hT hP 218 (Nat.le_of_ble_eq_true rfl) kd218 ho_11 dX9_read_115 ?_
          refine lv_icmp_ge (tgt := 154) hx hb dX9_read_116 (by decide) (fun c_12 => ?_) (fun c_12 => ?_)
          · have hres := hres.trans (if_pos c_12)
            have hs := hs.1 c_12
            refine lv_iinc (v := (x1 + (1 : Int32))) (lv' := [(1, .int (x1 + (1 : Int32))), (0, .ref (gA G 213)), (2, .int x2)]) hx hb dX9_read_154 hl (k := 1) rfl rfl (by decide) rfl (fun ls hl => ?_)
            refine lv_goto (tgt := 33) hx hb dX9_read_157 (by decide) ?_
            exact ih33 (x1 + (1 : Int32)) V _ _ _ (lv_sub hl [1, 0] rfl) hP hS hs hres
          have hres := hres.trans (if_neg c_12)
          have hs := hs.2 c_12
          refine lv_aload_n hx hb dX9_read_119 rfl (lv_at hl 0 rfl) ?_
          refine gh_get (v := .ref (gA G 214)) (C := RX9) (T := TX9) (N := 11) hx hb hw inlX9 hown hT hP 213 (Nat.le_of_ble_eq_true rfl) kd213 rfl rfl 0 (by decide) (hw _ uw117) rfl dX9_read_120 ?_
          refine lv_bipush (v := 16) hx hb dX9_read_123 (by decide) ?_
          refine lv_bipush (v := 11) hx hb dX9_read_125 (by decide) ?_
          refine lv_iload_n hx hb dX9_read_127 rfl (lv_at hl 1 rfl) ?_
          refine lv_imul hx hb dX9_read_128 ?_
          refine lv_iadd hx hb dX9_read_129 ?_
          refine lv_iconst (v := 3) hx hb dX9_read_130 (by decide) ?_
          refine lv_iadd hx hb dX9_read_131 ?_
          refine lv_iload_n hx hb dX9_read_132 rfl (lv_at hl 2 rfl) ?_
          refine lv_iadd hx hb dX9_read_133 ?_
          refine lv_aload_n hx hb dX9_read_134 rfl (lv_at hl 0 rfl) ?_
          refine gh_get (v := .ref (gA G 218)) (C := RX9) (T := TX9) (N := 11) hx hb hw inlX9 hown hT hP 213 (Nat.le_of_ble_eq_true rfl) kd213 rfl rfl 10 (by decide) (hw _ uw121) rfl dX9_read_135 ?_
          refine lv_bipush (v := 10) hx hb dX9_read_138 (by decide) ?_
          refine lv_iload_n hx hb dX9_read_140 rfl (lv_at hl 1 rfl) ?_
          refine lv_imul hx hb dX9_read_141 ?_
          refine lv_iconst (v := 2) hx hb dX9_read_142 (by decide) ?_
          refine lv_iadd hx hb dX9_read_143 ?_
          refine lv_iload_n hx hb dX9_read_144 rfl (lv_at hl 2 rfl) ?_
          refine lv_iadd hx hb dX9_read_145 ?_
          obtain ⟨ho_13, hs⟩ := hs
          refine gh_iald hx hb hT hP 218 (Nat.le_of_ble_eq_true rfl) kd218 ho_13 dX9_read_146 ?_
          obtain ⟨ho_14, hs⟩ := hs
          refine gh_iast hx hb hT hP hS 214 (Nat.le_of_ble_eq_true rfl) kd214 ho_14 dX9_read_147 (fun H locs hP hS => ?_)
          exact b_148 x1 x2 (gu V 214 (((((16 : Int32) + ((11 : Int32) * x1)) + (3 : Int32)) + x2)).toNatClampNeg (V 218 (((((10 : Int32) * x1) + (2 : Int32)) + x2)).toNatClampNeg)) _ _ _ (lv_sub hl [0, 1, 2] rfl) hP hS hs hres
      have b_104 : ∀ (x1 : Int32) (V : gV) (H : Heap) (locs : List Loc) (ls : Array Slot), lv_has ls 3 [(0, .ref (gA G 213)), (1, .int x1)] → va_P (gD G) vwCl (gL G V) H → va_S (gF G) s.heap H locs → PX9_read_104 (PX9_read_33 n33) x1 V → res = BX9_read_104 (BX9_read_33 n33) x1 V → W p l e r_X9_read s m ([.ref (gA G 213)] : List Value).toArray below meth c H locs 0 0 (MQ below (gQI G res) ([.ref (gA G 213)] : List Value).toArray s 0 0 (gF G)) (F0 m 104 ls []) := by
        intro x1 V H locs ls hl hP hS hs hres
        have hs : (PX9_read_106 (PX9_read_33 n33) 1000 x1 (0 : Int32) V) := hs
        have hres : res = (BX9_read_106 (BX9_read_33 n33) 1000 x1 (0 : Int32) V) := hres
        refine lv_iconst (v := 0) hx hb dX9_read_104 (by decide) ?_
        refine lv_istore_n (lv' := [(2, .int (0 : Int32)), (0, .ref (gA G 213)), (1, .int x1)]) hx hb dX9_read_105 rfl hl (by decide) rfl (fun ls hl => ?_)
        exact b_106 1000 x1 (0 : Int32) V _ _ _ (lv_sub hl [1, 2, 0] rfl) hP hS hs hres
      have b_89 : ∀ (x1 : Int32) (V : gV) (H : Heap) (locs : List Loc) (ls : Array Slot), lv_has ls 3 [(0, .ref (gA G 213)), (1, .int x1)] → va_P (gD G) vwCl (gL G V) H → va_S (gF G) s.heap H locs → PX9_read_89 (PX9_read_33 n33) x1 V → res = BX9_read_89 (BX9_read_33 n33) x1 V → W p l e r_X9_read s m ([.ref (gA G 213)] : List Value).toArray below meth c H locs 0 0 (MQ below (gQI G res) ([.ref (gA G 213)] : List Value).toArray s 0 0 (gF G)) (F0 m 89 ls []) := by
        intro x1 V H locs ls hl hP hS hs hres
        have hs : (vp_in (((16 : Int32) + ((11 : Int32) * x1)) + (2 : Int32)) 246) ∧ (PX9_read_104 (PX9_read_33 n33) x1 (gu V 214 ((((16 : Int32) + ((11 : Int32) * x1)) + (2 : Int32))).toNatClampNeg (0 : Int32))) := hs
        have hres : res = (BX9_read_104 (BX9_read_33 n33) x1 (gu V 214 ((((16 : Int32) + ((11 : Int32) * x1)) + (2 : Int32))).toNatClampNeg (0 : Int32))) := hres
        refine lv_aload_n hx hb dX9_read_89 rfl (lv_at hl 0 rfl) ?_
        refine gh_get (v := .ref (gA G 214)) (C := RX9) (T := TX9) (N := 11) hx hb hw inlX9 hown hT hP 213 (Nat.le_of_ble_eq_true rfl) kd213 rfl rfl 0 (by decide) (hw _ uw117) rfl dX9_read_90 ?_
        refine lv_bipush (v := 16) hx hb dX9_read_93 (by decide) ?_
        refine lv_bipush (v := 11) hx hb dX9_read_95 (by decide) ?_
        refine lv_iload_n hx hb dX9_read_97 rfl (lv_at hl 1 rfl) ?_
        refine lv_imul hx hb dX9_read_98 ?_
        refine lv_iadd hx hb dX9_read_99 ?_
        refine lv_iconst (v := 2) hx hb dX9_read_100 (by decide) ?_
        refine lv_iadd hx hb dX9_read_101 ?_
        refine lv_iconst (v := 0) hx hb dX9_read_102 (by decide) ?_
        obtain ⟨ho_10, hs⟩ := hs
        refine gh_iast hx hb hT hP hS 214 (Nat.le_of_ble_eq_true rfl) kd214 ho_10 dX9_read_103 (fun H locs hP hS => ?_)
        exact b_104 x1 (gu V 214 ((((16 : Int32) + ((11 : Int32) * x1)) + (2 : Int32))).toNatClampNeg (0 : Int32)) _ _ _ (lv_sub hl [0, 1] rfl) hP hS hs hres
      have b_64 : ∀ (x1 : Int32) (V : gV) (H : Heap) (locs : List Loc) (ls : Array Slot), lv_has ls 3 [(0, .ref (gA G 213)), (1, .int x1)] → va_P (gD G) vwCl (gL G V) H → va_S (gF G) s.heap H locs → PX9_read_64 (PX9_read_33 n33) x1 V → res = BX9_read_64 (BX9_read_33 n33) x1 V → W p l e r_X9_read s m ([.ref (gA G 213)] : List Value).toArray below meth c H locs 0 0 (MQ below (gQI G res) ([.ref (gA G 213)] : List Value).toArray s 0 0 (gF G)) (F0 m 64 ls []) := by
        intro x1 V H locs ls hl hP hS hs hres
        have hs : (vp_in (((10 : Int32) * x1) + (1 : Int32)) 160) ∧ (vp_in (((16 : Int32) + ((11 : Int32) * x1)) + (1 : Int32)) 246) ∧ (PX9_read_89 (PX9_read_33 n33) x1 (gu V 214 ((((16 : Int32) + ((11 : Int32) * x1)) + (1 : Int32))).toNatClampNeg (V 218 ((((10 : Int32) * x1) + (1 : Int32))).toNatClampNeg))) := hs
        have hres : res = (BX9_read_89 (BX9_read_33 n33) x1 (gu V 214 ((((16 : Int32) + ((11 : Int32) * x1)) + (1 : Int32))).toNatClampNeg (V 218 ((((10 : Int32) * x1) + (1 : Int32))).toNatClampNeg))) := hres
        refine lv_aload_n hx hb dX9_read_64 rfl (lv_at hl 0 rfl) ?_
        refine gh_get (v := .ref (gA G 214)) (C := RX9) (T := TX9) (N := 11) hx hb hw inlX9 hown hT hP 213 (Nat.le_of_ble_eq_true rfl) kd213 rfl rfl 0 (by decide) (hw _ uw117) rfl dX9_read_65 ?_
        refine lv_bipush (v := 16) hx hb dX9_read_68 (by decide) ?_
        refine lv_bipush (v := 11) hx hb dX9_read_70 (by decide) ?_
        refine lv_iload_n hx hb dX9_read_72 rfl (lv_at hl 1 rfl) ?_
        refine lv_imul hx hb dX9_read_73 ?_
        refine lv_iadd hx hb dX9_read_74 ?_
        refine lv_iconst (v := 1) hx hb dX9_read_75 (by decide) ?_
        refine lv_iadd hx hb dX9_read_76 ?_
        refine lv_aload_n hx hb dX9_read_77 rfl (lv_at hl 0 rfl) ?_
        refine gh_get (v := .ref (gA G 218)) (C := RX9) (T := TX9) (N := 11) hx hb hw inlX9 hown hT hP 213 (Nat.le_of_ble_eq_true rfl) kd213 rfl rfl 10 (by decide) (hw _ uw121) rfl dX9_read_78 ?_
        refine lv_bipush (v := 10) hx hb dX9_read_81 (by decide) ?_
        refine lv_iload_n hx hb dX9_read_83 rfl (lv_at hl 1 rfl) ?_
        refine lv_imul hx hb dX9_read_84 ?_
        refine lv_iconst (v := 1) hx hb dX9_read_85 (by decide) ?_
        refine lv_iadd hx hb dX9_read_86 ?_
        obtain ⟨ho_8, hs⟩ := hs
        refine gh_iald hx hb hT hP 218 (Nat.le_of_ble_eq_true rfl) kd218 ho_8 dX9_read_87 ?_
        obtain ⟨ho_9, hs⟩ := hs
        refine gh_iast hx hb hT hP hS 214 (Nat.le_of_ble_eq_true rfl) kd214 ho_9 dX9_read_88 (fun H locs hP hS => ?_)
        exact b_89 x1 (gu V 214 ((((16 : Int32) + ((11 : Int32) * x1)) + (1 : Int32))).toNatClampNeg (V 218 ((((10 : Int32) * x1) + (1 : Int32))).toNatClampNeg)) _ _ _ (lv_sub hl [0, 1] rfl) hP hS hs hres
      intro x1 V H locs ls hl hP hS hs hres
      have hs : ((¬ (V 213 9) ≤ x1 → (vp_in ((10 : Int32) * x1) 160) ∧ (vp_in (((16 : Int32) + ((11 : Int32) * x1)) + (0 : Int32)) 246) ∧ (PX9_read_64 (PX9_read_33 n33) x1 (gu V 214 ((((16 : Int32) + ((11 : Int32) * x1)) + (0 : Int32))).toNatClampNeg (V 218 (((10 : Int32) * x1)).toNatClampNeg))))) := hs
      have hres : res = (if (V 213 9) ≤ x1 then (((V 213 9), V)) else (BX9_read_64 (BX9_read_33 n33) x1 (gu V 214 ((((16 : Int32) + ((11 : Int32) * x1)) + (0 : Int32))).toNatClampNeg (V 218 (((10 : Int32) * x1)).toNatClampNeg)))) := hres
      refine lv_iload_n hx hb dX9_read_33 rfl (lv_at hl 1 rfl) ?_
      refine lv_aload_n hx hb dX9_read_34 rfl (lv_at hl 0 rfl) ?_
      refine gh_get (v := .int (V 213 9)) (C := RX9) (T := TX9) (N := 11) hx hb hw inlX9 hown hT hP 213 (Nat.le_of_ble_eq_true rfl) kd213 rfl rfl 9 (by decide) (hw _ uw827) rfl dX9_read_35 ?_
      refine lv_icmp_ge (tgt := 160) hx hb dX9_read_38 (by decide) (fun c_5 => ?_) (fun c_5 => ?_)
      · have hres := hres.trans (if_pos c_5)
        refine lv_aload_n hx hb dX9_read_160 rfl (lv_at hl 0 rfl) ?_
        refine gh_get (v := .int (V 213 9)) (C := RX9) (T := TX9) (N := 11) hx hb hw inlX9 hown hT hP 213 (Nat.le_of_ble_eq_true rfl) kd213 rfl rfl 9 (by decide) (hw _ uw827) rfl dX9_read_161 ?_
        exact gh_iret hx hb hr hlocks hP hS hT hres dX9_read_164
      have hres := hres.trans (if_neg c_5)
      have hs := hs c_5
      refine lv_aload_n hx hb dX9_read_41 rfl (lv_at hl 0 rfl) ?_
      refine gh_get (v := .ref (gA G 214)) (C := RX9) (T := TX9) (N := 11) hx hb hw inlX9 hown hT hP 213 (Nat.le_of_ble_eq_true rfl) kd213 rfl rfl 0 (by decide) (hw _ uw117) rfl dX9_read_42 ?_
      refine lv_bipush (v := 16) hx hb dX9_read_45 (by decide) ?_
      refine lv_bipush (v := 11) hx hb dX9_read_47 (by decide) ?_
      refine lv_iload_n hx hb dX9_read_49 rfl (lv_at hl 1 rfl) ?_
      refine lv_imul hx hb dX9_read_50 ?_
      refine lv_iadd hx hb dX9_read_51 ?_
      refine lv_iconst (v := 0) hx hb dX9_read_52 (by decide) ?_
      refine lv_iadd hx hb dX9_read_53 ?_
      refine lv_aload_n hx hb dX9_read_54 rfl (lv_at hl 0 rfl) ?_
      refine gh_get (v := .ref (gA G 218)) (C := RX9) (T := TX9) (N := 11) hx hb hw inlX9 hown hT hP 213 (Nat.le_of_ble_eq_true rfl) kd213 rfl rfl 10 (by decide) (hw _ uw121) rfl dX9_read_55 ?_
      refine lv_bipush (v := 10) hx hb dX9_read_58 (by decide) ?_
      refine lv_iload_n hx hb dX9_read_60 rfl (lv_at hl 1 rfl) ?_
      refine lv_imul hx hb dX9_read_61 ?_
      obtain ⟨ho_6, hs⟩ := hs
      refine gh_iald hx hb hT hP 218 (Nat.le_of_ble_eq_true rfl) kd218 ho_6 dX9_read_62 ?_
      obtain ⟨ho_7, hs⟩ := hs
      refine gh_iast hx hb hT hP hS 214 (Nat.le_of_ble_eq_true rfl) kd214 ho_7 dX9_read_63 (fun H locs hP hS => ?_)
      exact b_64 x1 (gu V 214 ((((16 : Int32) + ((11 : Int32) * x1)) + (0 : Int32))).toNatClampNeg (V 218 (((10 : Int32) * x1)).toNatClampNeg)) _ _ _ (lv_sub hl [0, 1] rfl) hP hS hs hres
  have b_31 : ∀  (V : gV) (H : Heap) (locs : List Loc) (ls : Array Slot), lv_has ls 3 [(0, .ref (gA G 213))] → va_P (gD G) vwCl (gL G V) H → va_S (gF G) s.heap H locs → PX9_read_31   V → res = BX9_read_31   V → W p l e r_X9_read s m ([.ref (gA G 213)] : List Value).toArray below meth c H locs 0 0 (MQ below (gQI G res) ([.ref (gA G 213)] : List Value).toArray s 0 0 (gF G)) (F0 m 31 ls []) := by
    intro  V H locs ls hl hP hS hs hres
    have hs : (PX9_read_33 1000 (0 : Int32) V) := hs
    have hres : res = (BX9_read_33 1000 (0 : Int32) V) := hres
    refine lv_iconst (v := 0) hx hb dX9_read_31 (by decide) ?_
    refine lv_istore_n (lv' := [(1, .int (0 : Int32)), (0, .ref (gA G 213))]) hx hb dX9_read_32 rfl hl (by decide) rfl (fun ls hl => ?_)
    exact b_33 1000 (0 : Int32) V _ _ _ (lv_sub hl [1, 0] rfl) hP hS hs hres
  have b_21 : ∀  (V : gV) (H : Heap) (locs : List Loc) (ls : Array Slot), lv_has ls 3 [(0, .ref (gA G 213))] → va_P (gD G) vwCl (gL G V) H → va_S (gF G) s.heap H locs → PX9_read_21   V → res = BX9_read_21   V → W p l e r_X9_read s m ([.ref (gA G 213)] : List Value).toArray below meth c H locs 0 0 (MQ below (gQI G res) ([.ref (gA G 213)] : List Value).toArray s 0 0 (gF G)) (F0 m 21 ls []) := by
    intro  V H locs ls hl hP hS hs hres
    have hs : (PX9_read_31 (gu V 214 ((0 : Int32)).toNatClampNeg (V 213 9))) := hs
    have hres : res = (BX9_read_31 (gu V 214 ((0 : Int32)).toNatClampNeg (V 213 9))) := hres
    refine lv_aload_n hx hb dX9_read_21 rfl (lv_at hl 0 rfl) ?_
    refine gh_get (v := .ref (gA G 214)) (C := RX9) (T := TX9) (N := 11) hx hb hw inlX9 hown hT hP 213 (Nat.le_of_ble_eq_true rfl) kd213 rfl rfl 0 (by decide) (hw _ uw117) rfl dX9_read_22 ?_
    refine lv_iconst (v := 0) hx hb dX9_read_25 (by decide) ?_
    refine lv_aload_n hx hb dX9_read_26 rfl (lv_at hl 0 rfl) ?_
    refine gh_get (v := .int (V 213 9)) (C := RX9) (T := TX9) (N := 11) hx hb hw inlX9 hown hT hP 213 (Nat.le_of_ble_eq_true rfl) kd213 rfl rfl 9 (by decide) (hw _ uw827) rfl dX9_read_27 ?_
    refine gh_iast hx hb hT hP hS 214 (Nat.le_of_ble_eq_true rfl) kd214 (gh_ci (by decide)) dX9_read_30 (fun H locs hP hS => ?_)
    exact b_31 (gu V 214 ((0 : Int32)).toNatClampNeg (V 213 9)) _ _ _ (lv_sub hl [0] rfl) hP hS hs hres
  have b_11 : ∀ (s0 : Int32) (V : gV) (H : Heap) (locs : List Loc) (ls : Array Slot), lv_has ls 3 [(0, .ref (gA G 213))] → va_P (gD G) vwCl (gL G V) H → va_S (gF G) s.heap H locs → PX9_read_11  s0 V → res = BX9_read_11  s0 V → W p l e r_X9_read s m ([.ref (gA G 213)] : List Value).toArray below meth c H locs 0 0 (MQ below (gQI G res) ([.ref (gA G 213)] : List Value).toArray s 0 0 (gF G)) (F0 m 11 ls [.int s0]) := by
    intro s0 V H locs ls hl hP hS hs hres
    have hs : ((¬ s0 = 0 → (PX9_changes V) ∧ (PX9_read_21 (MX9_changes V)))) := hs
    have hres : res = (if s0 = 0 then (((-2 : Int32), V)) else (BX9_read_21 (MX9_changes V))) := hres
    refine lv_if_ne (tgt := 17) hx hb dX9_read_11 (by decide) (fun c_3 => ?_) (fun c_3 => ?_)
    · have hres := hres.trans (if_neg c_3)
      have hs := hs c_3
      refine lv_aload_n hx hb dX9_read_17 rfl (lv_at hl 0 rfl) ?_
      obtain ⟨ho_4, hs⟩ := hs
      refine gh_kv (va_runV (As := []) (rest := []) ⟨hx, hb, hml, hown, hw⟩ (cc_X9_changes l G V ho_4) (cwV 0 hw gv_RX9_48 rfl rfl rfl dd_X9_changes ⟨Nat.le_of_ble_eq_true rfl, Nat.le_of_ble_eq_true rfl⟩) (gh_preV hT hP (Nat.le_of_ble_eq_true rfl) kd213 rfl rfl) rfl rfl hl.1 rfl (lv_room (Nat.le_of_ble_eq_true rfl)) dX9_read_18 ⟨Nat.zero_le _, Nat.zero_le _⟩) hS (fun H locs hP hS => ?_)
      exact b_21 (MX9_changes V) _ _ _ (lv_sub hl [0] rfl) hP hS hs hres
    have hres := hres.trans (if_pos c_3)
    refine lv_bipush (v := -2) hx hb dX9_read_14 (by decide) ?_
    exact gh_iret hx hb hr hlocks hP hS hT hres dX9_read_16
  refine lv_aload_n hx hb dX9_read_0 rfl (lv_at hl 0 rfl) ?_
  refine gh_kr (va_runV (As := []) (rest := []) ⟨hx, hb, hml, hown, hw⟩ (cc_X9_runs l G V) (cwV 0 hw gv_RX9_44 rfl rfl rfl dd_X9_runs ⟨Nat.le_of_ble_eq_true rfl, Nat.le_of_ble_eq_true rfl⟩) (gh_preV hT hP (Nat.le_of_ble_eq_true rfl) kd213 rfl rfl) rfl rfl hl.1 rfl (lv_room (Nat.le_of_ble_eq_true rfl)) dX9_read_1 ⟨Nat.zero_le _, Nat.zero_le _⟩) hS (fun H locs hP hS => ?_)
  refine lv_if_ne (tgt := 14) hx hb dX9_read_4 (by decide) (fun c_1 => ?_) (fun c_1 => ?_)
  · have hres := hres.trans (if_neg c_1)
    refine lv_bipush (v := -2) hx hb dX9_read_14 (by decide) ?_
    exact gh_iret hx hb hr hlocks hP hS hT hres dX9_read_16
  have hres := hres.trans (if_pos c_1)
  have hs := hs c_1
  refine lv_aload_n hx hb dX9_read_7 rfl (lv_at hl 0 rfl) ?_
  obtain ⟨ho_2, hs⟩ := hs
  refine gh_ki (va_runV (As := []) (rest := []) ⟨hx, hb, hml, hown, hw⟩ (cc_X9_isRight l G V ho_2) (cwV 0 hw gv_RX9_161 rfl rfl rfl dd_X9_isRight ⟨Nat.le_of_ble_eq_true rfl, Nat.le_of_ble_eq_true rfl⟩) (gh_preV hT hP (Nat.le_of_ble_eq_true rfl) kd213 rfl rfl) rfl rfl hl.1 rfl (lv_room (Nat.le_of_ble_eq_true rfl)) dX9_read_8 ⟨Nat.zero_le _, Nat.zero_le _⟩) hS (fun H locs hP hS => ?_)
  exact b_11 ((MX9_isRight V).1) ((MX9_isRight V).2) _ _ _ (lv_sub hl [0] rfl) hP hS hs hres
