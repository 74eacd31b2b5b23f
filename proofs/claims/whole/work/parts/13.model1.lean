def gXa (k : Nat) : Prop := k < 219 ∧ gk k = gk k - 11 + 11
theorem gia214 : gXa 214 := by unfold gXa; decide +kernel
theorem gia216 : gXa 216 := by unfold gXa; decide +kernel
def MX9_in  (a0 : Int32) (a1 : Int32) (a2 : Int32) (V : gV) : Int32 := if a0 < a1 then ((0 : Int32)) else (if a2 < a0 then ((0 : Int32)) else ((1 : Int32)))
abbrev wc_X9_in : List Cond := Cond.code yX9_in cX9_in 3 (some .boolean) :: wsL_law
abbrev r_X9_in : Room := { frames := 0, cells := 0, slots := 0, locals := 0 }
theorem dd_X9_in : yX9_in.cls = RX9 ∧ yX9_in.cls ≠ "java/lang/invoke/MethodHandle" ∧ yX9_in.cls ≠ "java/lang/invoke/VarHandle" ∧ (parseMethodDescriptor yX9_in.desc).map (fun d => d.parameters.length) = some 3 := by decide +kernel
set_option maxHeartbeats 8000000 in
set_option maxRecDepth 100000 in
theorem cc_X9_in (l : Launch) (G : gG) (V : gV)   (a0 : Int32) (a1 : Int32) (a2 : Int32)  : Met l yX9_in wc_X9_in r_X9_in (va_Pc [.int a0, .int a1, .int a2] (gW G V)) (gQR G (MX9_in a0 a1 a2 V) V) 0 0 (gF G) := by
  refine Met.ofW (cc := cX9_in) (maxL := 3) (ret := (some .boolean)) (by decide) rfl ?_
  intro p e s m args below meth c s₁ B hml hv
  obtain ⟨rfl, hP, hT⟩ := hv
  have hx := B.exec
  have hb := B.bytes
  have hr := B.returns
  have hw := gh_hw (atoms_spec (ws := wc_X9_in) B.pre)
  have hown : s.vm.findClass RX9 = some m.cls := findClass_of_methodNamed B.named
  have hlocks := B.notSynchronized
  have hS : va_S (gF G) s.heap s.heap [] := va_S.rf
  have hl := lv_entry ([.int a0, .int a1, .int a2]) (n := 3) (Nat.le_of_ble_eq_true rfl)
  rw [lg_entry_eq]
  generalize (lg_sl ([.int a0, .int a1, .int a2]) ++ List.replicate (3 - (lg_sl ([.int a0, .int a1, .int a2])).length) Slot.unset).toArray = ls at hl ⊢
  have hl : lv_has ls 3 [(0, .int a0), (1, .int a1), (2, .int a2)] := hl
  obtain ⟨res, hres⟩ : ∃ r, r = MX9_in a0 a1 a2 V := ⟨_, rfl⟩
  rw [← hres]
  show W p l e r_X9_in s m ([.int a0, .int a1, .int a2] : List Value).toArray below meth c s.heap [] 0 0 (MQ below (gQR G res V) ([.int a0, .int a1, .int a2] : List Value).toArray s 0 0 (gF G)) (F0 m 0 ls [])
  have hres : res = (if a0 < a1 then ((0 : Int32)) else (if a2 < a0 then ((0 : Int32)) else ((1 : Int32)))) := hres
  refine lv_iload_n hx hb dX9_in_0 rfl (lv_at hl 0 rfl) ?_
  refine lv_iload_n hx hb dX9_in_1 rfl (lv_at hl 1 rfl) ?_
  refine lv_icmp_lt (tgt := 14) hx hb dX9_in_2 (by decide) (fun c_1 => ?_) (fun c_1 => ?_)
  · have hres := hres.trans (if_pos c_1)
    refine lv_iconst (v := 0) hx hb dX9_in_14 (by decide) ?_
    exact gh_zretR hx hb hr rfl hlocks hP hS hT hres dX9_in_15
  have hres := hres.trans (if_neg c_1)
  refine lv_iload_n hx hb dX9_in_5 rfl (lv_at hl 0 rfl) ?_
  refine lv_iload_n hx hb dX9_in_6 rfl (lv_at hl 2 rfl) ?_
  refine lv_icmp_gt (tgt := 14) hx hb dX9_in_7 (by decide) (fun c_2 => ?_) (fun c_2 => ?_)
  · have hres := hres.trans (if_pos c_2)
    refine lv_iconst (v := 0) hx hb dX9_in_14 (by decide) ?_
    exact gh_zretR hx hb hr rfl hlocks hP hS hT hres dX9_in_15
  have hres := hres.trans (if_neg c_2)
  refine lv_iconst (v := 1) hx hb dX9_in_10 (by decide) ?_
  refine lv_goto (tgt := 15) hx hb dX9_in_11 (by decide) ?_
  exact gh_zretR hx hb hr rfl hlocks hP hS hT hres dX9_in_15
theorem gz_X9_in  (a0 : Int32) (a1 : Int32) (a2 : Int32) (V : gV) : gZ (MX9_in a0 a1 a2 V) := by
  unfold MX9_in
  repeat (any_goals split)
  all_goals first | exact Or.inl rfl | exact Or.inr rfl
def BX9_copies_15 (u : Nat) (z : Nat) (K2 : Int32 → gV → gV) (x2 : Int32) (V : gV) : gV := K2 (x2 + (1 : Int32)) V
def PX9_copies_15 (u : Nat) (z : Nat) (KP2 : Int32 → gV → Prop) (x2 : Int32) (V : gV) : Prop := (KP2 (x2 + (1 : Int32)) V)
def BX9_copies_2 (u : Nat) (z : Nat)  : Nat → Int32 → gV → gV
  | 0, _, V => V
  | n + 1, x2, V => if (246 : Int32) ≤ x2 then (V) else (BX9_copies_15 u z (BX9_copies_2 u z n) x2 (gu V z (x2).toNatClampNeg (V u (x2).toNatClampNeg)))
def PX9_copies_2 (u : Nat) (z : Nat)  : Nat → Int32 → gV → Prop
  | 0, _, _ => False
  | n + 1, x2, V => ((¬ (246 : Int32) ≤ x2 → (vp_in x2 (gk u - 11)) ∧ (vp_in x2 (gk z - 11)) ∧ (PX9_copies_15 u z (PX9_copies_2 u z n) x2 (gu V z (x2).toNatClampNeg (V u (x2).toNatClampNeg)))))
def MX9_copies (u : Nat) (z : Nat)  (V : gV) : gV := BX9_copies_2 u z 1000 (0 : Int32) V
def PX9_copies (u : Nat) (z : Nat)  (V : gV) : Prop := (PX9_copies_2 u z 1000 (0 : Int32) V)
abbrev wc_X9_copies : List Cond := Cond.code yX9_copies cX9_copies 3 none :: wsL_law
abbrev r_X9_copies : Room := { frames := 0, cells := 0, slots := 0, locals := 0 }
theorem dd_X9_copies : yX9_copies.cls = RX9 ∧ yX9_copies.cls ≠ "java/lang/invoke/MethodHandle" ∧ yX9_copies.cls ≠ "java/lang/invoke/VarHandle" ∧ (parseMethodDescriptor yX9_copies.desc).map (fun d => d.parameters.length) = some 2 := by decide +kernel
set_option maxHeartbeats 8000000 in
set_option maxRecDepth 100000 in
theorem cc_X9_copies (l : Launch) (G : gG) (V : gV) (u : Nat) (hu : gXa u) (z : Nat) (hz : gXa z)   (hs : PX9_copies u z V) : Met l yX9_copies wc_X9_copies r_X9_copies (va_Pc [.ref (gA G u), .ref (gA G z)] (gW G V)) (gQV G (MX9_copies u z V)) 0 0 (gF G) := by
  refine Met.ofW (cc := cX9_copies) (maxL := 3) (ret := none) (by decide) rfl ?_
  intro p e s m args below meth c s₁ B hml hv
  obtain ⟨rfl, hP, hT⟩ := hv
  have hx := B.exec
  have hb := B.bytes
  have hr := B.returns
  have hw := gh_hw (atoms_spec (ws := wc_X9_copies) B.pre)
  have hown : s.vm.findClass RX9 = some m.cls := findClass_of_methodNamed B.named
  have hlocks := B.notSynchronized
  have hS : va_S (gF G) s.heap s.heap [] := va_S.rf
  have hl := lv_entry ([.ref (gA G u), .ref (gA G z)]) (n := 3) (Nat.le_of_ble_eq_true rfl)
  rw [lg_entry_eq]
  generalize (lg_sl ([.ref (gA G u), .ref (gA G z)]) ++ List.replicate (3 - (lg_sl ([.ref (gA G u), .ref (gA G z)])).length) Slot.unset).toArray = ls at hl ⊢
  have hl : lv_has ls 3 [(0, .ref (gA G u)), (1, .ref (gA G z))] := hl
  obtain ⟨res, hres⟩ : ∃ r, r = MX9_copies u z V := ⟨_, rfl⟩
  rw [← hres]
  show W p l e r_X9_copies s m ([.ref (gA G u), .ref (gA G z)] : List Value).toArray below meth c s.heap [] 0 0 (MQ below (gQV G res) ([.ref (gA G u), .ref (gA G z)] : List Value).toArray s 0 0 (gF G)) (F0 m 0 ls [])
  have hs : (PX9_copies_2 u z 1000 (0 : Int32) V) := hs
  have hres : res = (BX9_copies_2 u z 1000 (0 : Int32) V) := hres
  have b_2 : ∀ (n : Nat) (x2 : Int32) (V : gV) (H : Heap) (locs : List Loc) (ls : Array Slot), lv_has ls 3 [(0, .ref (gA G u)), (1, .ref (gA G z)), (2, .int x2)] → va_P (gD G) vwCl (gL G V) H → va_S (gF G) s.heap H locs → PX9_copies_2 u z n x2 V → res = BX9_copies_2 u z n x2 V → W p l e r_X9_copies s m ([.ref (gA G u), .ref (gA G z)] : List Value).toArray below meth c H locs 0 0 (MQ below (gQV G res) ([.ref (gA G u), .ref (gA G z)] : List Value).toArray s 0 0 (gF G)) (F0 m 2 ls []) := by
    intro n
    induction n with
    | zero =>
      intro x2 V H locs ls hl hP hS hs hres
      exact (show False from hs).elim
    | succ n2 ih2 =>
      have b_15 : ∀ (x2 : Int32) (V : gV) (H : Heap) (locs : List Loc) (ls : Array Slot), lv_has ls 3 [(0, .ref (gA G u)), (1, .ref (gA G z)), (2, .int x2)] → va_P (gD G) vwCl (gL G V) H → va_S (gF G) s.heap H locs → PX9_copies_15 u z (PX9_copies_2 u z n2) x2 V → res = BX9_copies_15 u z (BX9_copies_2 u z n2) x2 V → W p l e r_X9_copies s m ([.ref (gA G u), .ref (gA G z)] : List Value).toArray below meth c H locs 0 0 (MQ below (gQV G res) ([.ref (gA G u), .ref (gA G z)] : List Value).toArray s 0 0 (gF G)) (F0 m 15 ls []) := by
        intro x2 V H locs ls hl hP hS hs hres
        have hs : ((PX9_copies_2 u z n2) (x2 + (1 : Int32)) V) := hs
        have hres : res = ((BX9_copies_2 u z n2) (x2 + (1 : Int32)) V) := hres
        refine lv_iinc (v := (x2 + (1 : Int32))) (lv' := [(2, .int (x2 + (1 : Int32))), (0, .ref (gA G u)), (1, .ref (gA G z))]) hx hb dX9_copies_15 hl (k := 2) rfl rfl (by decide) rfl (fun ls hl => ?_)
        refine lv_goto (tgt := 2) hx hb dX9_copies_18 (by decide) ?_
        exact ih2 (x2 + (1 : Int32)) V _ _ _ (lv_sub hl [1, 2, 0] rfl) hP hS hs hres
      intro x2 V H locs ls hl hP hS hs hres
      have hs : ((¬ (246 : Int32) ≤ x2 → (vp_in x2 (gk u - 11)) ∧ (vp_in x2 (gk z - 11)) ∧ (PX9_copies_15 u z (PX9_copies_2 u z n2) x2 (gu V z (x2).toNatClampNeg (V u (x2).toNatClampNeg))))) := hs
      have hres : res = (if (246 : Int32) ≤ x2 then (V) else (BX9_copies_15 u z (BX9_copies_2 u z n2) x2 (gu V z (x2).toNatClampNeg (V u (x2).toNatClampNeg)))) := hres
      refine lv_iload_n hx hb dX9_copies_2 rfl (lv_at hl 2 rfl) ?_
      refine lv_sipush (v := 246) hx hb dX9_copies_3 (by decide) ?_
      refine lv_icmp_ge (tgt := 21) hx hb dX9_copies_6 (by decide) (fun c_1 => ?_) (fun c_1 => ?_)
      · have hres := hres.trans (if_pos c_1)
        exact gh_vret hx hb hr hlocks hP hS hT hres dX9_copies_21
      have hres := hres.trans (if_neg c_1)
      have hs := hs c_1
      refine lv_aload_n hx hb dX9_copies_9 rfl (lv_at hl 1 rfl) ?_
      refine lv_iload_n hx hb dX9_copies_10 rfl (lv_at hl 2 rfl) ?_
      refine lv_aload_n hx hb dX9_copies_11 rfl (lv_at hl 0 rfl) ?_
      refine lv_iload_n hx hb dX9_copies_12 rfl (lv_at hl 2 rfl) ?_
      obtain ⟨ho_2, hs⟩ := hs
      refine gh_iald hx hb hT hP u hu.1 hu.2 ho_2 dX9_copies_13 ?_
      obtain ⟨ho_3, hs⟩ := hs
      refine gh_iast hx hb hT hP hS z hz.1 hz.2 ho_3 dX9_copies_14 (fun H locs hP hS => ?_)
      exact b_15 x2 (gu V z (x2).toNatClampNeg (V u (x2).toNatClampNeg)) _ _ _ (lv_sub hl [0, 1, 2] rfl) hP hS hs hres
  refine lv_iconst (v := 0) hx hb dX9_copies_0 (by decide) ?_
  refine lv_istore_n (lv' := [(2, .int (0 : Int32)), (0, .ref (gA G u)), (1, .ref (gA G z))]) hx hb dX9_copies_1 rfl hl (by decide) rfl (fun ls hl => ?_)
  exact b_2 1000 (0 : Int32) V _ _ _ (lv_sub hl [1, 2, 0] rfl) hP hS hs hres
def MX9_at  (a0 : Int32) (a1 : Int32) (V : gV) : Int32 := (((192 : Int32) + ((6 : Int32) * a0)) + a1)
abbrev wc_X9_at : List Cond := Cond.code yX9_at cX9_at 2 (some .int) :: wsL_law
abbrev r_X9_at : Room := { frames := 0, cells := 0, slots := 0, locals := 0 }
theorem dd_X9_at : yX9_at.cls = RX9 ∧ yX9_at.cls ≠ "java/lang/invoke/MethodHandle" ∧ yX9_at.cls ≠ "java/lang/invoke/VarHandle" ∧ (parseMethodDescriptor yX9_at.desc).map (fun d => d.parameters.length) = some 2 := by decide +kernel
set_option maxHeartbeats 8000000 in
set_option maxRecDepth 100000 in
theorem cc_X9_at (l : Launch) (G : gG) (V : gV)   (a0 : Int32) (a1 : Int32)  : Met l yX9_at wc_X9_at r_X9_at (va_Pc [.int a0, .int a1] (gW G V)) (gQR G (MX9_at a0 a1 V) V) 0 0 (gF G) := by
  refine Met.ofW (cc := cX9_at) (maxL := 2) (ret := (some .int)) (by decide) rfl ?_
  intro p e s m args below meth c s₁ B hml hv
  obtain ⟨rfl, hP, hT⟩ := hv
  have hx := B.exec
  have hb := B.bytes
  have hr := B.returns
  have hw := gh_hw (atoms_spec (ws := wc_X9_at) B.pre)
  have hown : s.vm.findClass RX9 = some m.cls := findClass_of_methodNamed B.named
  have hlocks := B.notSynchronized
  have hS : va_S (gF G) s.heap s.heap [] := va_S.rf
  have hl := lv_entry ([.int a0, .int a1]) (n := 2) (Nat.le_of_ble_eq_true rfl)
  rw [lg_entry_eq]
  generalize (lg_sl ([.int a0, .int a1]) ++ List.replicate (2 - (lg_sl ([.int a0, .int a1])).length) Slot.unset).toArray = ls at hl ⊢
  have hl : lv_has ls 2 [(0, .int a0), (1, .int a1)] := hl
  obtain ⟨res, hres⟩ : ∃ r, r = MX9_at a0 a1 V := ⟨_, rfl⟩
  rw [← hres]
  show W p l e r_X9_at s m ([.int a0, .int a1] : List Value).toArray below meth c s.heap [] 0 0 (MQ below (gQR G res V) ([.int a0, .int a1] : List Value).toArray s 0 0 (gF G)) (F0 m 0 ls [])
  have hres : res = ((((192 : Int32) + ((6 : Int32) * a0)) + a1)) := hres
  refine lv_sipush (v := 192) hx hb dX9_at_0 (by decide) ?_
  refine lv_bipush (v := 6) hx hb dX9_at_3 (by decide) ?_
  refine lv_iload_n hx hb dX9_at_5 rfl (lv_at hl 0 rfl) ?_
  refine lv_imul hx hb dX9_at_6 ?_
  refine lv_iadd hx hb dX9_at_7 ?_
  refine lv_iload_n hx hb dX9_at_8 rfl (lv_at hl 1 rfl) ?_
  refine lv_iadd hx hb dX9_at_9 ?_
  exact gh_iretR hx hb hr hlocks hP hS hT hres dX9_at_10
def BX9_ones_4   : Nat → Int32 → Int32 → gV → Int32
  | 0, _, _, _ => 0
  | n + 1, x1, x2, V => if x2 = 0 then (x1) else ((BX9_ones_4 n) (x1 + (1 : Int32)) (x2 &&& (x2 - (1 : Int32))) V)
def PX9_ones_4   : Nat → Int32 → Int32 → gV → Prop
  | 0, _, _, _ => False
  | n + 1, x1, x2, V => ((¬ x2 = 0 → ((PX9_ones_4 n) (x1 + (1 : Int32)) (x2 &&& (x2 - (1 : Int32))) V)))
def MX9_ones  (a0 : Int32) (V : gV) : Int32 := BX9_ones_4 1000 (0 : Int32) a0 V
def PX9_ones  (a0 : Int32) (V : gV) : Prop := (PX9_ones_4 1000 (0 : Int32) a0 V)
abbrev wc_X9_ones : List Cond := Cond.code yX9_ones cX9_ones 3 (some .int) :: wsL_law
abbrev r_X9_ones : Room := { frames := 0, cells := 0, slots := 0, locals := 0 }
theorem dd_X9_ones : yX9_ones.cls = RX9 ∧ yX9_ones.cls ≠ "java/lang/invoke/MethodHandle" ∧ yX9_ones.cls ≠ "java/lang/invoke/VarHandle" ∧ (parseMethodDescriptor yX9_ones.desc).map (fun d => d.parameters.length) = some 1 := by decide +kernel
set_option maxHeartbeats 8000000 in
set_option maxRecDepth 100000 in
theorem cc_X9_ones (l : Launch) (G : gG) (V : gV)   (a0 : Int32) (hs : PX9_ones a0 V) : Met l yX9_ones wc_X9_ones r_X9_ones (va_Pc [.int a0] (gW G V)) (gQR G (MX9_ones a0 V) V) 0 0 (gF G) := by
  refine Met.ofW (cc := cX9_ones) (maxL := 3) (ret := (some .int)) (by decide) rfl ?_
  intro p e s m args below meth c s₁ B hml hv
  obtain ⟨rfl, hP, hT⟩ := hv
  have hx := B.exec
  have hb := B.bytes
  have hr := B.returns
  have hw := gh_hw (atoms_spec (ws := wc_X9_ones) B.pre)
  have hown : s.vm.findClass RX9 = some m.cls := findClass_of_methodNamed B.named
  have hlocks := B.notSynchronized
  have hS : va_S (gF G) s.heap s.heap [] := va_S.rf
  have hl := lv_entry ([.int a0]) (n := 3) (Nat.le_of_ble_eq_true rfl)
  rw [lg_entry_eq]
  generalize (lg_sl ([.int a0]) ++ List.replicate (3 - (lg_sl ([.int a0])).length) Slot.unset).toArray = ls at hl ⊢
  have hl : lv_has ls 3 [(0, .int a0)] := hl
  obtain ⟨res, hres⟩ : ∃ r, r = MX9_ones a0 V := ⟨_, rfl⟩
  rw [← hres]
  show W p l e r_X9_ones s m ([.int a0] : List Value).toArray below meth c s.heap [] 0 0 (MQ below (gQR G res V) ([.int a0] : List Value).toArray s 0 0 (gF G)) (F0 m 0 ls [])
  have hs : (PX9_ones_4 1000 (0 : Int32) a0 V) := hs
  have hres : res = (BX9_ones_4 1000 (0 : Int32) a0 V) := hres
  have b_4 : ∀ (n : Nat) (x1 : Int32) (x2 : Int32) (H : Heap) (locs : List Loc) (ls : Array Slot), lv_has ls 3 [(1, .int x1), (2, .int x2)] → va_P (gD G) vwCl (gL G V) H → va_S (gF G) s.heap H locs → PX9_ones_4  n x1 x2 V → res = BX9_ones_4  n x1 x2 V → W p l e r_X9_ones s m ([.int a0] : List Value).toArray below meth c H locs 0 0 (MQ below (gQR G res V) ([.int a0] : List Value).toArray s 0 0 (gF G)) (F0 m 4 ls []) := by
    intro n
    induction n with
    | zero =>
      intro x1 x2 H locs ls hl hP hS hs hres
      exact (show False from hs).elim
    | succ n4 ih4 =>
      intro x1 x2 H locs ls hl hP hS hs hres
      have hs : ((¬ x2 = 0 → ((PX9_ones_4 n4) (x1 + (1 : Int32)) (x2 &&& (x2 - (1 : Int32))) V))) := hs
      have hres : res = (if x2 = 0 then (x1) else ((BX9_ones_4 n4) (x1 + (1 : Int32)) (x2 &&& (x2 - (1 : Int32))) V)) := hres
      refine lv_iload_n hx hb dX9_ones_4 rfl (lv_at hl 1 rfl) ?_
      refine lv_if_eq (tgt := 20) hx hb dX9_ones_5 (by decide) (fun c_1 => ?_) (fun c_1 => ?_)
      · have hres := hres.trans (if_pos c_1)
        refine lv_iload_n hx hb dX9_ones_20 rfl (lv_at hl 0 rfl) ?_
        exact gh_iretR hx hb hr hlocks hP hS hT hres dX9_ones_21
      have hres := hres.trans (if_neg c_1)
      have hs := hs c_1
      refine lv_iinc (v := (x1 + (1 : Int32))) (lv' := [(1, .int (x1 + (1 : Int32))), (2, .int x2)]) hx hb dX9_ones_8 hl (k := 0) rfl rfl (by decide) rfl (fun ls hl => ?_)
      refine lv_iload_n hx hb dX9_ones_11 rfl (lv_at hl 1 rfl) ?_
      refine lv_iload_n hx hb dX9_ones_12 rfl (lv_at hl 1 rfl) ?_
      refine lv_iconst (v := 1) hx hb dX9_ones_13 (by decide) ?_
      refine lv_isub hx hb dX9_ones_14 ?_
      refine lv_iand hx hb dX9_ones_15 ?_
      refine lv_istore_n (lv' := [(2, .int (x2 &&& (x2 - (1 : Int32)))), (1, .int (x1 + (1 : Int32)))]) hx hb dX9_ones_16 rfl hl (by decide) rfl (fun ls hl => ?_)
      refine lv_goto (tgt := 4) hx hb dX9_ones_17 (by decide) ?_
      exact ih4 (x1 + (1 : Int32)) (x2 &&& (x2 - (1 : Int32))) _ _ _ (lv_sub hl [1, 0] rfl) hP hS hs hres
  refine lv_iconst (v := 0) hx hb dX9_ones_0 (by decide) ?_
  refine lv_istore_n (lv' := [(1, .int (0 : Int32)), (0, .int a0)]) hx hb dX9_ones_1 rfl hl (by decide) rfl (fun ls hl => ?_)
  refine lv_iload_n hx hb dX9_ones_2 rfl (lv_at hl 1 rfl) ?_
  refine lv_istore_n (lv' := [(2, .int a0), (1, .int (0 : Int32)), (0, .int a0)]) hx hb dX9_ones_3 rfl hl (by decide) rfl (fun ls hl => ?_)
  exact b_4 1000 (0 : Int32) a0 _ _ _ (lv_sub hl [1, 0] rfl) hP hS hs hres
def BX9_changes_79  (K51 : Int32 → gV → gV) (x1 : Int32) (V : gV) : gV := K51 (x1 + (1 : Int32)) V
def PX9_changes_79  (KP51 : Int32 → gV → Prop) (x1 : Int32) (V : gV) : Prop := (KP51 (x1 + (1 : Int32)) V)
def BX9_changes_51   : Nat → Int32 → gV → gV
  | 0, _, V => V
  | n + 1, x1, V => if (246 : Int32) ≤ x1 then ((gu V 213 4 ((V 213 4) + (1 : Int32)))) else (BX9_changes_79 (BX9_changes_51 n) x1 (gu V 215 ((((246 : Int32) * (V 213 4)) + x1)).toNatClampNeg (V 214 (x1).toNatClampNeg)))
def PX9_changes_51   : Nat → Int32 → gV → Prop
  | 0, _, _ => False
  | n + 1, x1, V => ((¬ (246 : Int32) ≤ x1 → (vp_in x1 246) ∧ (vp_in (((246 : Int32) * (V 213 4)) + x1) 984) ∧ (PX9_changes_79 (PX9_changes_51 n) x1 (gu V 215 ((((246 : Int32) * (V 213 4)) + x1)).toNatClampNeg (V 214 (x1).toNatClampNeg)))))
def BX9_changes_49    (V : gV) : gV := BX9_changes_51 1000 (0 : Int32) V
def PX9_changes_49    (V : gV) : Prop := (PX9_changes_51 1000 (0 : Int32) V)
def BX9_changes_33  (K10 : Int32 → gV → gV) (x1 : Int32) (V : gV) : gV := K10 (x1 + (1 : Int32)) V
def PX9_changes_33  (KP10 : Int32 → gV → Prop) (x1 : Int32) (V : gV) : Prop := (KP10 (x1 + (1 : Int32)) V)
def BX9_changes_10   : Nat → Int32 → gV → gV
  | 0, _, V => V
  | n + 1, x1, V => if (738 : Int32) ≤ x1 then (BX9_changes_49 (gu V 213 4 ((V 213 4) - (1 : Int32)))) else (BX9_changes_33 (BX9_changes_10 n) x1 (gu V 215 (x1).toNatClampNeg (V 215 ((x1 + (246 : Int32))).toNatClampNeg)))
def PX9_changes_10   : Nat → Int32 → gV → Prop
  | 0, _, _ => False
  | n + 1, x1, V => (((738 : Int32) ≤ x1 → (PX9_changes_49 (gu V 213 4 ((V 213 4) - (1 : Int32))))) ∧ (¬ (738 : Int32) ≤ x1 → (vp_in (x1 + (246 : Int32)) 984) ∧ (vp_in x1 984) ∧ (PX9_changes_33 (PX9_changes_10 n) x1 (gu V 215 (x1).toNatClampNeg (V 215 ((x1 + (246 : Int32))).toNatClampNeg)))))
def MX9_changes   (V : gV) : gV := if (V 213 4) = (4 : Int32) then (BX9_changes_10 1000 (0 : Int32) V) else (BX9_changes_49 V)
def PX9_changes   (V : gV) : Prop := (((V 213 4) = (4 : Int32) → (PX9_changes_10 1000 (0 : Int32) V)) ∧ (¬ (V 213 4) = (4 : Int32) → (PX9_changes_49 V)))
abbrev wc_X9_changes : List Cond := Cond.code yX9_changes cX9_changes 2 none :: wsL_law
abbrev r_X9_changes : Room := { frames := 0, cells := 0, slots := 0, locals := 0 }
theorem dd_X9_changes : yX9_changes.cls = RX9 ∧ yX9_changes.cls ≠ "java/lang/invoke/MethodHandle" ∧ yX9_changes.cls ≠ "java/lang/invoke/VarHandle" ∧ (parseMethodDescriptor yX9_changes.desc).map (fun d => d.parameters.length) = some 0 := by decide +kernel
set_option maxHeartbeats 8000000 in
set_option maxRecDepth 100000 in
theorem cc_X9_changes (l : Launch) (G : gG) (V : gV)    (hs : PX9_changes V) : Met l yX9_changes wc_X9_changes r_X9_changes (va_Pc [.ref (gA G 213)] (gW G V)) (gQV G (MX9_changes V)) 0 0 (gF G) := by
  refine Met.ofW (cc := cX9_changes) (maxL := 2) (ret := none) (by decide) rfl ?_
  intro p e s m args below meth c s₁ B hml hv
  obtain ⟨rfl, hP, hT⟩ := hv
  have hx := B.exec
  have hb := B.bytes
  have hr := B.returns
  have hw := gh_hw (atoms_spec (ws := wc_X9_changes) B.pre)
  have hown : s.vm.findClass RX9 = some m.cls := findClass_of_methodNamed B.named
  have hlocks := B.notSynchronized
  have hS : va_S (gF G) s.heap s.heap [] := va_S.rf
  have hl := lv_entry ([.ref (gA G 213)]) (n := 2) (Nat.le_of_ble_eq_true rfl)
  rw [lg_entry_eq]
  generalize (lg_sl ([.ref (gA G 213)]) ++ List.replicate (2 - (lg_sl ([.ref (gA G 213)])).length) Slot.unset).toArray = ls at hl ⊢
  have hl : lv_has ls 2 [(0, .ref (gA G 213))] := hl
  obtain ⟨res, hres⟩ : ∃ r, r = MX9_changes V := ⟨_, rfl⟩
  rw [← hres]
  show W p l e r_X9_changes s m ([.ref (gA G 213)] : List Value).toArray below meth c s.heap [] 0 0 (MQ below (gQV G res) ([.ref (gA G 213)] : List Value).toArray s 0 0 (gF G)) (F0 m 0 ls [])
  have hs : (((V 213 4) = (4 : Int32) → (PX9_changes_10 1000 (0 : Int32) V)) ∧ (¬ (V 213 4) = (4 : Int32) → (PX9_changes_49 V))) := hs
  have hres : res = (if (V 213 4) = (4 : Int32) then (BX9_changes_10 1000 (0 : Int32) V) else (BX9_changes_49 V)) := hres
  have b_51 : ∀ (n : Nat) (x1 : Int32) (V : gV) (H : Heap) (locs : List Loc) (ls : Array Slot), lv_has ls 2 [(0, .ref (gA G 213)), (1, .int x1)] → va_P (gD G) vwCl (gL G V) H → va_S (gF G) s.heap H locs → PX9_changes_51  n x1 V → res = BX9_changes_51  n x1 V → W p l e r_X9_changes s m ([.ref (gA G 213)] : List Value).toArray below meth c H locs 0 0 (MQ below (gQV G res) ([.ref (gA G 213)] : List Value).toArray s 0 0 (gF G)) (F0 m 51 ls []) := by
    intro n
    induction n with
    | zero =>
      intro x1 V H locs ls hl hP hS hs hres
      exact (show False from hs).elim
    | succ n51 ih51 =>
      have b_79 : ∀ (x1 : Int32) (V : gV) (H : Heap) (locs : List Loc) (ls : Array Slot), lv_has ls 2 [(0, .ref (gA G 213)), (1, .int x1)] → va_P (gD G) vwCl (gL G V) H → va_S (gF G) s.heap H locs → PX9_changes_79 (PX9_changes_51 n51) x1 V → res = BX9_changes_79 (BX9_changes_51 n51) x1 V → W p l e r_X9_changes s m ([.ref (gA G 213)] : List Value).toArray below meth c H locs 0 0 (MQ below (gQV G res) ([.ref (gA G 213)] : List Value).toArray s 0 0 (gF G)) (F0 m 79 ls []) := by
        intro x1 V H locs ls hl hP hS hs hres
        have hs : ((PX9_changes_51 n51) (x1 + (1 : Int32)) V) := hs
        have hres : res = ((BX9_changes_51 n51) (x1 + (1 : Int32)) V) := hres
        refine lv_iinc (v := (x1 + (1 : Int32))) (lv' := [(1, .int (x1 + (1 : Int32))), (0, .ref (gA G 213))]) hx hb dX9_changes_79 hl (k := 1) rfl rfl (by decide) rfl (fun ls hl => ?_)
        refine lv_goto (tgt := 51) hx hb dX9_changes_82 (by decide) ?_
        exact ih51 (x1 + (1 : Int32)) V _ _ _ (lv_sub hl [1, 0] rfl) hP hS hs hres
      intro x1 V H locs ls hl hP hS hs hres
      have hs : ((¬ (246 : Int32) ≤ x1 → (vp_in x1 246) ∧ (vp_in (((246 : Int32) * (V 213 4)) + x1) 984) ∧ (PX9_changes_79 (PX9_changes_51 n51) x1 (gu V 215 ((((246 : Int32) * (V 213 4)) + x1)).toNatClampNeg (V 214 (x1).toNatClampNeg))))) := hs
      have hres : res = (if (246 : Int32) ≤ x1 then ((gu V 213 4 ((V 213 4) + (1 : Int32)))) else (BX9_changes_79 (BX9_changes_51 n51) x1 (gu V 215 ((((246 : Int32) * (V 213 4)) + x1)).toNatClampNeg (V 214 (x1).toNatClampNeg)))) := hres
      refine lv_iload_n hx hb dX9_changes_51 rfl (lv_at hl 1 rfl) ?_
      refine lv_sipush (v := 246) hx hb dX9_changes_52 (by decide) ?_
      refine lv_icmp_ge (tgt := 85) hx hb dX9_changes_55 (by decide) (fun c_2 => ?_) (fun c_2 => ?_)
      · have hres := hres.trans (if_pos c_2)
        refine lv_aload_n hx hb dX9_changes_85 rfl (lv_at hl 0 rfl) ?_
        refine lv_dup hx hb dX9_changes_86 rfl ?_
        refine gh_get (v := .int (V 213 4)) (C := RX9) (T := TX9) (N := 11) hx hb hw inlX9 hown hT hP 213 (Nat.le_of_ble_eq_true rfl) kd213 rfl rfl 4 (by decide) (hw _ uw216) rfl dX9_changes_87 ?_
        refine lv_iconst (v := 1) hx hb dX9_changes_90 (by decide) ?_
        refine lv_iadd hx hb dX9_changes_91 ?_
        refine gh_put (ty := .int) (x := ((V 213 4) + (1 : Int32))) (C := RX9) (T := TX9) (N := 11) hx hb hw inlX9 tyX9_ok nmX9 hown hT hP hS 213 (Nat.le_of_ble_eq_true rfl) kd213 rfl rfl 4 (by decide) (hw _ uw216) rfl (by decide +kernel) rfl rfl (Nat.le_of_ble_eq_true rfl) rfl dX9_changes_92 (fun H locs hP hS => ?_)
        exact gh_vret hx hb hr hlocks hP hS hT hres dX9_changes_95
      have hres := hres.trans (if_neg c_2)
      have hs := hs c_2
      refine lv_aload_n hx hb dX9_changes_58 rfl (lv_at hl 0 rfl) ?_
      refine gh_get (v := .ref (gA G 215)) (C := RX9) (T := TX9) (N := 11) hx hb hw inlX9 hown hT hP 213 (Nat.le_of_ble_eq_true rfl) kd213 rfl rfl 1 (by decide) (hw _ uw118) rfl dX9_changes_59 ?_
      refine lv_sipush (v := 246) hx hb dX9_changes_62 (by decide) ?_
      refine lv_aload_n hx hb dX9_changes_65 rfl (lv_at hl 0 rfl) ?_
      refine gh_get (v := .int (V 213 4)) (C := RX9) (T := TX9) (N := 11) hx hb hw inlX9 hown hT hP 213 (Nat.le_of_ble_eq_true rfl) kd213 rfl rfl 4 (by decide) (hw _ uw216) rfl dX9_changes_66 ?_
      refine lv_imul hx hb dX9_changes_69 ?_
      refine lv_iload_n hx hb dX9_changes_70 rfl (lv_at hl 1 rfl) ?_
      refine lv_iadd hx hb dX9_changes_71 ?_
      refine lv_aload_n hx hb dX9_changes_72 rfl (lv_at hl 0 rfl) ?_
      refine gh_get (v := .ref (gA G 214)) (C := RX9) (T := TX9) (N := 11) hx hb hw inlX9 hown hT hP 213 (Nat.le_of_ble_eq_true rfl) kd213 rfl rfl 0 (by decide) (hw _ uw117) rfl dX9_changes_73 ?_
      refine lv_iload_n hx hb dX9_changes_76 rfl (lv_at hl 1 rfl) ?_
      obtain ⟨ho_3, hs⟩ := hs
      refine gh_iald hx hb hT hP 214 (Nat.le_of_ble_eq_true rfl) kd214 ho_3 dX9_changes_77 ?_
      obtain ⟨ho_4, hs⟩ := hs
      refine gh_iast hx hb hT hP hS 215 (Nat.le_of_ble_eq_true rfl) kd215 ho_4 dX9_changes_78 (fun H locs hP hS => ?_)
      exact b_79 x1 (gu V 215 ((((246 : Int32) * (V 213 4)) + x1)).toNatClampNeg (V 214 (x1).toNatClampNeg)) _ _ _ (lv_sub hl [0, 1] rfl) hP hS hs hres
  have b_49 : ∀  (V : gV) (H : Heap) (locs : List Loc) (ls : Array Slot), lv_has ls 2 [(0, .ref (gA G 213))] → va_P (gD G) vwCl (gL G V) H → va_S (gF G) s.heap H locs → PX9_changes_49   V → res = BX9_changes_49   V → W p l e r_X9_changes s m ([.ref (gA G 213)] : List Value).toArray below meth c H locs 0 0 (MQ below (gQV G res) ([.ref (gA G 213)] : List Value).toArray s 0 0 (gF G)) (F0 m 49 ls []) := by
    intro  V H locs ls hl hP hS hs hres
    have hs : (PX9_changes_51 1000 (0 : Int32) V) := hs
    have hres : res = (BX9_changes_51 1000 (0 : Int32) V) := hres
    refine lv_iconst (v := 0) hx hb dX9_changes_49 (by decide) ?_
    refine lv_istore_n (lv' := [(1, .int (0 : Int32)), (0, .ref (gA G 213))]) hx hb dX9_changes_50 rfl hl (by decide) rfl (fun ls hl => ?_)
    exact b_51 1000 (0 : Int32) V _ _ _ (lv_sub hl [1, 0] rfl) hP hS hs hres
  have b_10 : ∀ (n : Nat) (x1 : Int32) (V : gV) (H : Heap) (locs : List Loc) (ls : Array Slot), lv_has ls 2 [(0, .ref (gA G 213)), (1, .int x1)] → va_P (gD G) vwCl (gL G V) H → va_S (gF G) s.heap H locs → PX9_changes_10  n x1 V → res = BX9_changes_10  n x1 V → W p l e r_X9_changes s m ([.ref (gA G 213)] : List Value).toArray below meth c H locs 0 0 (MQ below (gQV G res) ([.ref (gA G 213)] : List Value).toArray s 0 0 (gF G)) (F0 m 10 ls []) := by
    intro n
    induction n with
    | zero =>
      intro x1 V H locs ls hl hP hS hs hres
      exact (show False from hs).elim
    | succ n10 ih10 =>
      have b_33 : ∀ (x1 : Int32) (V : gV) (H : Heap) (locs : List Loc) (ls : Array Slot), lv_has ls 2 [(0, .ref (gA G 213)), (1, .int x1)] → va_P (gD G) vwCl (gL G V) H → va_S (gF G) s.heap H locs → PX9_changes_33 (PX9_changes_10 n10) x1 V → res = BX9_changes_33 (BX9_changes_10 n10) x1 V → W p l e r_X9_changes s m ([.ref (gA G 213)] : List Value).toArray below meth c H locs 0 0 (MQ below (gQV G res) ([.ref (gA G 213)] : List Value).toArray s 0 0 (gF G)) (F0 m 33 ls []) := by
        intro x1 V H locs ls hl hP hS hs hres
        have hs : ((PX9_changes_10 n10) (x1 + (1 : Int32)) V) := hs
        have hres : res = ((BX9_changes_10 n10) (x1 + (1 : Int32)) V) := hres
        refine lv_iinc (v := (x1 + (1 : Int32))) (lv' := [(1, .int (x1 + (1 : Int32))), (0, .ref (gA G 213))]) hx hb dX9_changes_33 hl (k := 1) rfl rfl (by decide) rfl (fun ls hl => ?_)
        refine lv_goto (tgt := 10) hx hb dX9_changes_36 (by decide) ?_
        exact ih10 (x1 + (1 : Int32)) V _ _ _ (lv_sub hl [1, 0] rfl) hP hS hs hres
      intro x1 V H locs ls hl hP hS hs hres
      have hs : (((738 : Int32) ≤ x1 → (PX9_changes_49 (gu V 213 4 ((V 213 4) - (1 : Int32))))) ∧ (¬ (738 : Int32) ≤ x1 → (vp_in (x1 + (246 : Int32)) 984) ∧ (vp_in x1 984) ∧ (PX9_changes_33 (PX9_changes_10 n10) x1 (gu V 215 (x1).toNatClampNeg (V 215 ((x1 + (246 : Int32))).toNatClampNeg))))) := hs
      have hres : res = (if (738 : Int32) ≤ x1 then (BX9_changes_49 (gu V 213 4 ((V 213 4) - (1 : Int32)))) else (BX9_changes_33 (BX9_changes_10 n10) x1 (gu V 215 (x1).toNatClampNeg (V 215 ((x1 + (246 : Int32))).toNatClampNeg)))) := hres
      refine lv_iload_n hx hb dX9_changes_10 rfl (lv_at hl 1 rfl) ?_
      refine lv_sipush (v := 738) hx hb dX9_changes_11 (by decide) ?_
      refine lv_icmp_ge (tgt := 39) hx hb dX9_changes_14 (by decide) (fun c_5 => ?_) (fun c_5 => ?_)
      · have hres := hres.trans (if_pos c_5)
        have hs := hs.1 c_5
        refine lv_aload_n hx hb dX9_changes_39 rfl (lv_at hl 0 rfl) ?_
        refine lv_dup hx hb dX9_changes_40 rfl ?_
        refine gh_get (v := .int (V 213 4)) (C := RX9) (T := TX9) (N := 11) hx hb hw inlX9 hown hT hP 213 (Nat.le_of_ble_eq_true rfl) kd213 rfl rfl 4 (by decide) (hw _ uw216) rfl dX9_changes_41 ?_
        refine lv_iconst (v := 1) hx hb dX9_changes_44 (by decide) ?_
        refine lv_isub hx hb dX9_changes_45 ?_
        refine gh_put (ty := .int) (x := ((V 213 4) - (1 : Int32))) (C := RX9) (T := TX9) (N := 11) hx hb hw inlX9 tyX9_ok nmX9 hown hT hP hS 213 (Nat.le_of_ble_eq_true rfl) kd213 rfl rfl 4 (by decide) (hw _ uw216) rfl (by decide +kernel) rfl rfl (Nat.le_of_ble_eq_true rfl) rfl dX9_changes_46 (fun H locs hP hS => ?_)
        exact b_49 (gu V 213 4 ((V 213 4) - (1 : Int32))) _ _ _ (lv_sub hl [0] rfl) hP hS hs hres
      have hres := hres.trans (if_neg c_5)
      have hs := hs.2 c_5
      refine lv_aload_n hx hb dX9_changes_17 rfl (lv_at hl 0 rfl) ?_
      refine gh_get (v := .ref (gA G 215)) (C := RX9) (T := TX9) (N := 11) hx hb hw inlX9 hown hT hP 213 (Nat.le_of_ble_eq_true rfl) kd213 rfl rfl 1 (by decide) (hw _ uw118) rfl dX9_changes_18 ?_
      refine lv_iload_n hx hb dX9_changes_21 rfl (lv_at hl 1 rfl) ?_
      refine lv_aload_n hx hb dX9_changes_22 rfl (lv_at hl 0 rfl) ?_
      refine gh_get (v := .ref (gA G 215)) (C := RX9) (T := TX9) (N := 11) hx hb hw inlX9 hown hT hP 213 (Nat.le_of_ble_eq_true rfl) kd213 rfl rfl 1 (by decide) (hw _ uw118) rfl dX9_changes_23 ?_
      refine lv_iload_n hx hb dX9_changes_26 rfl (lv_at hl 1 rfl) ?_
      refine lv_sipush (v := 246) hx hb dX9_changes_27 (by decide) ?_
      refine lv_iadd hx hb dX9_changes_30 ?_
      obtain ⟨ho_6, hs⟩ := hs
      refine gh_iald hx hb hT hP 215 (Nat.le_of_ble_eq_true rfl) kd215 ho_6 dX9_changes_31 ?_
      obtain ⟨ho_7, hs⟩ := hs
      refine gh_iast hx hb hT hP hS 215 (Nat.le_of_ble_eq_true rfl) kd215 ho_7 dX9_changes_32 (fun H locs hP hS => ?_)
      exact b_33 x1 (gu V 215 (x1).toNatClampNeg (V 215 ((x1 + (246 : Int32))).toNatClampNeg)) _ _ _ (lv_sub hl [0, 1] rfl) hP hS hs hres
  refine lv_aload_n hx hb dX9_changes_0 rfl (lv_at hl 0 rfl) ?_
  refine gh_get (v := .int (V 213 4)) (C := RX9) (T := TX9) (N := 11) hx hb hw inlX9 hown hT hP 213 (Nat.le_of_ble_eq_true rfl) kd213 rfl rfl 4 (by decide) (hw _ uw216) rfl dX9_changes_1 ?_
  refine lv_iconst (v := 4) hx hb dX9_changes_4 (by decide) ?_
  refine lv_icmp_ne (tgt := 49) hx hb dX9_changes_5 (by decide) (fun c_1 => ?_) (fun c_1 => ?_)
  · have hres := hres.trans (if_neg c_1)
    have hs := hs.2 c_1
    exact b_49 V _ _ _ (lv_sub hl [0] rfl) hP hS hs hres
  have hres := hres.trans (if_pos c_1)
  have hs := hs.1 c_1
  refine lv_iconst (v := 0) hx hb dX9_changes_8 (by decide) ?_
  refine lv_istore_n (lv' := [(1, .int (0 : Int32)), (0, .ref (gA G 213))]) hx hb dX9_changes_9 rfl hl (by decide) rfl (fun ls hl => ?_)
  exact b_10 1000 (0 : Int32) V _ _ _ (lv_sub hl [1, 0] rfl) hP hS hs hres
def MX9_runs   (V : gV) : Int32 := if (V 214 ((2 : Int32)).toNatClampNeg) = (1 : Int32) then ((1 : Int32)) else ((0 : Int32))
abbrev wc_X9_runs : List Cond := Cond.code yX9_runs cX9_runs 1 (some .boolean) :: wsL_law
abbrev r_X9_runs : Room := { frames := 0, cells := 0, slots := 0, locals := 0 }
theorem dd_X9_runs : yX9_runs.cls = RX9 ∧ yX9_runs.cls ≠ "java/lang/invoke/MethodHandle" ∧ yX9_runs.cls ≠ "java/lang/invoke/VarHandle" ∧ (parseMethodDescriptor yX9_runs.desc).map (fun d => d.parameters.length) = some 0 := by decide +kernel
set_option maxHeartbeats 8000000 in
set_option maxRecDepth 100000 in
theorem cc_X9_runs (l : Launch) (G : gG) (V : gV)     : Met l yX9_runs wc_X9_runs r_X9_runs (va_Pc [.ref (gA G 213)] (gW G V)) (gQR G (MX9_runs V) V) 0 0 (gF G) := by
  refine Met.ofW (cc := cX9_runs) (maxL := 1) (ret := (some .boolean)) (by decide) rfl ?_
  intro p e s m args below meth c s₁ B hml hv
  obtain ⟨rfl, hP, hT⟩ := hv
  have hx := B.exec
  have hb := B.bytes
  have hr := B.returns
  have hw := gh_hw (atoms_spec (ws := wc_X9_runs) B.pre)
  have hown : s.vm.findClass RX9 = some m.cls := findClass_of_methodNamed B.named
  have hlocks := B.notSynchronized
  have hS : va_S (gF G) s.heap s.heap [] := va_S.rf
  have hl := lv_entry ([.ref (gA G 213)]) (n := 1) (Nat.le_of_ble_eq_true rfl)
  rw [lg_entry_eq]
  generalize (lg_sl ([.ref (gA G 213)]) ++ List.replicate (1 - (lg_sl ([.ref (gA G 213)])).length) Slot.unset).toArray = ls at hl ⊢
  have hl : lv_has ls 1 [(0, .ref (gA G 213))] := hl
  obtain ⟨res, hres⟩ : ∃ r, r = MX9_runs V := ⟨_, rfl⟩
  rw [← hres]
  show W p l e r_X9_runs s m ([.ref (gA G 213)] : List Value).toArray below meth c s.heap [] 0 0 (MQ below (gQR G res V) ([.ref (gA G 213)] : List Value).toArray s 0 0 (gF G)) (F0 m 0 ls [])
  have hres : res = (if (V 214 ((2 : Int32)).toNatClampNeg) = (1 : Int32) then ((1 : Int32)) else ((0 : Int32))) := hres
  refine lv_aload_n hx hb dX9_runs_0 rfl (lv_at hl 0 rfl) ?_
  refine gh_get (v := .ref (gA G 214)) (C := RX9) (T := TX9) (N := 11) hx hb hw inlX9 hown hT hP 213 (Nat.le_of_ble_eq_true rfl) kd213 rfl rfl 0 (by decide) (hw _ uw117) rfl dX9_runs_1 ?_
  refine lv_iconst (v := 2) hx hb dX9_runs_4 (by decide) ?_
  refine gh_iald hx hb hT hP 214 (Nat.le_of_ble_eq_true rfl) kd214 (gh_ci (by decide)) dX9_runs_5 ?_
  refine lv_iconst (v := 1) hx hb dX9_runs_6 (by decide) ?_
  refine lv_icmp_ne (tgt := 14) hx hb dX9_runs_7 (by decide) (fun c_1 => ?_) (fun c_1 => ?_)
  · have hres := hres.trans (if_neg c_1)
    refine lv_iconst (v := 0) hx hb dX9_runs_14 (by decide) ?_
    exact gh_zretR hx hb hr rfl hlocks hP hS hT hres dX9_runs_15
  have hres := hres.trans (if_pos c_1)
  refine lv_iconst (v := 1) hx hb dX9_runs_10 (by decide) ?_
  refine lv_goto (tgt := 15) hx hb dX9_runs_11 (by decide) ?_
  exact gh_zretR hx hb hr rfl hlocks hP hS hT hres dX9_runs_15
theorem gz_X9_runs   (V : gV) : gZ (MX9_runs V) := by
  unfold MX9_runs
  repeat (any_goals split)
  all_goals first | exact Or.inl rfl | exact Or.inr rfl
def MX9_isWord  (a1 : Int32) (V : gV) : Int32 := if a1 < 0 then ((0 : Int32)) else (if (V 214 ((0 : Int32)).toNatClampNeg) ≤ a1 then ((0 : Int32)) else ((1 : Int32)))
abbrev wc_X9_isWord : List Cond := Cond.code yX9_isWord cX9_isWord 2 (some .boolean) :: wsL_law
abbrev r_X9_isWord : Room := { frames := 0, cells := 0, slots := 0, locals := 0 }
theorem dd_X9_isWord : yX9_isWord.cls = RX9 ∧ yX9_isWord.cls ≠ "java/lang/invoke/MethodHandle" ∧ yX9_isWord.cls ≠ "java/lang/invoke/VarHandle" ∧ (parseMethodDescriptor yX9_isWord.desc).map (fun d => d.parameters.length) = some 1 := by decide +kernel
set_option maxHeartbeats 8000000 in
set_option maxRecDepth 100000 in
theorem cc_X9_isWord (l : Launch) (G : gG) (V : gV)   (a1 : Int32)  : Met l yX9_isWord wc_X9_isWord r_X9_isWord (va_Pc [.ref (gA G 213), .int a1] (gW G V)) (gQR G (MX9_isWord a1 V) V) 0 0 (gF G) := by
  refine Met.ofW (cc := cX9_isWord) (maxL := 2) (ret := (some .boolean)) (by decide) rfl ?_
  intro p e s m args below meth c s₁ B hml hv
  obtain ⟨rfl, hP, hT⟩ := hv
  have hx := B.exec
  have hb := B.bytes
  have hr := B.returns
  have hw := gh_hw (atoms_spec (ws := wc_X9_isWord) B.pre)
  have hown : s.vm.findClass RX9 = some m.cls := findClass_of_methodNamed B.named
  have hlocks := B.notSynchronized
  have hS : va_S (gF G) s.heap s.heap [] := va_S.rf
  have hl := lv_entry ([.ref (gA G 213), .int a1]) (n := 2) (Nat.le_of_ble_eq_true rfl)
  rw [lg_entry_eq]
  generalize (lg_sl ([.ref (gA G 213), .int a1]) ++ List.replicate (2 - (lg_sl ([.ref (gA G 213), .int a1])).length) Slot.unset).toArray = ls at hl ⊢
  have hl : lv_has ls 2 [(0, .ref (gA G 213)), (1, .int a1)] := hl
  obtain ⟨res, hres⟩ : ∃ r, r = MX9_isWord a1 V := ⟨_, rfl⟩
  rw [← hres]
  show W p l e r_X9_isWord s m ([.ref (gA G 213), .int a1] : List Value).toArray below meth c s.heap [] 0 0 (MQ below (gQR G res V) ([.ref (gA G 213), .int a1] : List Value).toArray s 0 0 (gF G)) (F0 m 0 ls [])
  have hres : res = (if a1 < 0 then ((0 : Int32)) else (if (V 214 ((0 : Int32)).toNatClampNeg) ≤ a1 then ((0 : Int32)) else ((1 : Int32)))) := hres
  refine lv_iload_n hx hb dX9_isWord_0 rfl (lv_at hl 1 rfl) ?_
  refine lv_if_lt (tgt := 18) hx hb dX9_isWord_1 (by decide) (fun c_1 => ?_) (fun c_1 => ?_)
  · have hres := hres.trans (if_pos c_1)
    refine lv_iconst (v := 0) hx hb dX9_isWord_18 (by decide) ?_
    exact gh_zretR hx hb hr rfl hlocks hP hS hT hres dX9_isWord_19
  have hres := hres.trans (if_neg c_1)
  refine lv_iload_n hx hb dX9_isWord_4 rfl (lv_at hl 1 rfl) ?_
  refine lv_aload_n hx hb dX9_isWord_5 rfl (lv_at hl 0 rfl) ?_
  refine gh_get (v := .ref (gA G 214)) (C := RX9) (T := TX9) (N := 11) hx hb hw inlX9 hown hT hP 213 (Nat.le_of_ble_eq_true rfl) kd213 rfl rfl 0 (by decide) (hw _ uw117) rfl dX9_isWord_6 ?_
  refine lv_iconst (v := 0) hx hb dX9_isWord_9 (by decide) ?_
  refine gh_iald hx hb hT hP 214 (Nat.le_of_ble_eq_true rfl) kd214 (gh_ci (by decide)) dX9_isWord_10 ?_
  refine lv_icmp_ge (tgt := 18) hx hb dX9_isWord_11 (by decide) (fun c_2 => ?_) (fun c_2 => ?_)
  · have hres := hres.trans (if_pos c_2)
    refine lv_iconst (v := 0) hx hb dX9_isWord_18 (by decide) ?_
    exact gh_zretR hx hb hr rfl hlocks hP hS hT hres dX9_isWord_19
  have hres := hres.trans (if_neg c_2)
  refine lv_iconst (v := 1) hx hb dX9_isWord_14 (by decide) ?_
  refine lv_goto (tgt := 19) hx hb dX9_isWord_15 (by decide) ?_
  exact gh_zretR hx hb hr rfl hlocks hP hS hT hres dX9_isWord_19
theorem gz_X9_isWord  (a1 : Int32) (V : gV) : gZ (MX9_isWord a1 V) := by
  unfold MX9_isWord
  repeat (any_goals split)
  all_goals first | exact Or.inl rfl | exact Or.inr rfl
def MX9_isPlayer  (a1 : Int32) (V : gV) : Int32 := if a1 < 0 then ((0 : Int32)) else (if (V 214 ((1 : Int32)).toNatClampNeg) ≤ a1 then ((0 : Int32)) else ((1 : Int32)))
abbrev wc_X9_isPlayer : List Cond := Cond.code yX9_isPlayer cX9_isPlayer 2 (some .boolean) :: wsL_law
abbrev r_X9_isPlayer : Room := { frames := 0, cells := 0, slots := 0, locals := 0 }
theorem dd_X9_isPlayer : yX9_isPlayer.cls = RX9 ∧ yX9_isPlayer.cls ≠ "java/lang/invoke/MethodHandle" ∧ yX9_isPlayer.cls ≠ "java/lang/invoke/VarHandle" ∧ (parseMethodDescriptor yX9_isPlayer.desc).map (fun d => d.parameters.length) = some 1 := by decide +kernel
set_option maxHeartbeats 8000000 in
set_option maxRecDepth 100000 in
theorem cc_X9_isPlayer (l : Launch) (G : gG) (V : gV)   (a1 : Int32)  : Met l yX9_isPlayer wc_X9_isPlayer r_X9_isPlayer (va_Pc [.ref (gA G 213), .int a1] (gW G V)) (gQR G (MX9_isPlayer a1 V) V) 0 0 (gF G) := by
  refine Met.ofW (cc := cX9_isPlayer) (maxL := 2) (ret := (some .boolean)) (by decide) rfl ?_
  intro p e s m args below meth c s₁ B hml hv
  obtain ⟨rfl, hP, hT⟩ := hv
  have hx := B.exec
  have hb := B.bytes
  have hr := B.returns
  have hw := gh_hw (atoms_spec (ws := wc_X9_isPlayer) B.pre)
  have hown : s.vm.findClass RX9 = some m.cls := findClass_of_methodNamed B.named
  have hlocks := B.notSynchronized
  have hS : va_S (gF G) s.heap s.heap [] := va_S.rf
  have hl := lv_entry ([.ref (gA G 213), .int a1]) (n := 2) (Nat.le_of_ble_eq_true rfl)
  rw [lg_entry_eq]
  generalize (lg_sl ([.ref (gA G 213), .int a1]) ++ List.replicate (2 - (lg_sl ([.ref (gA G 213), .int a1])).length) Slot.unset).toArray = ls at hl ⊢
  have hl : lv_has ls 2 [(0, .ref (gA G 213)), (1, .int a1)] := hl
  obtain ⟨res, hres⟩ : ∃ r, r = MX9_isPlayer a1 V := ⟨_, rfl⟩
  rw [← hres]
  show W p l e r_X9_isPlayer s m ([.ref (gA G 213), .int a1] : List Value).toArray below meth c s.heap [] 0 0 (MQ below (gQR G res V) ([.ref (gA G 213), .int a1] : List Value).toArray s 0 0 (gF G)) (F0 m 0 ls [])
  have hres : res = (if a1 < 0 then ((0 : Int32)) else (if (V 214 ((1 : Int32)).toNatClampNeg) ≤ a1 then ((0 : Int32)) else ((1 : Int32)))) := hres
  refine lv_iload_n hx hb dX9_isPlayer_0 rfl (lv_at hl 1 rfl) ?_
  refine lv_if_lt (tgt := 18) hx hb dX9_isPlayer_1 (by decide) (fun c_1 => ?_) (fun c_1 => ?_)
  · have hres := hres.trans (if_pos c_1)
    refine lv_iconst (v := 0) hx hb dX9_isPlayer_18 (by decide) ?_
    exact gh_zretR hx hb hr rfl hlocks hP hS hT hres dX9_isPlayer_19
  have hres := hres.trans (if_neg c_1)
  refine lv_iload_n hx hb dX9_isPlayer_4 rfl (lv_at hl 1 rfl) ?_
  refine lv_aload_n hx hb dX9_isPlayer_5 rfl (lv_at hl 0 rfl) ?_
  refine gh_get (v := .ref (gA G 214)) (C := RX9) (T := TX9) (N := 11) hx hb hw inlX9 hown hT hP 213 (Nat.le_of_ble_eq_true rfl) kd213 rfl rfl 0 (by decide) (hw _ uw117) rfl dX9_isPlayer_6 ?_
  refine lv_iconst (v := 1) hx hb dX9_isPlayer_9 (by decide) ?_
  refine gh_iald hx hb hT hP 214 (Nat.le_of_ble_eq_true rfl) kd214 (gh_ci (by decide)) dX9_isPlayer_10 ?_
  refine lv_icmp_ge (tgt := 18) hx hb dX9_isPlayer_11 (by decide) (fun c_2 => ?_) (fun c_2 => ?_)
  · have hres := hres.trans (if_pos c_2)
    refine lv_iconst (v := 0) hx hb dX9_isPlayer_18 (by decide) ?_
    exact gh_zretR hx hb hr rfl hlocks hP hS hT hres dX9_isPlayer_19
  have hres := hres.trans (if_neg c_2)
  refine lv_iconst (v := 1) hx hb dX9_isPlayer_14 (by decide) ?_
  refine lv_goto (tgt := 19) hx hb dX9_isPlayer_15 (by decide) ?_
  exact gh_zretR hx hb hr rfl hlocks hP hS hT hres dX9_isPlayer_19
theorem gz_X9_isPlayer  (a1 : Int32) (V : gV) : gZ (MX9_isPlayer a1 V) := by
  unfold MX9_isPlayer
  repeat (any_goals split)
  all_goals first | exact Or.inl rfl | exact Or.inr rfl
def MX9_of  (a1 : Int32) (a2 : Int32) (V : gV) : Int32 := (V 214 ((((16 : Int32) + ((11 : Int32) * a1)) + a2)).toNatClampNeg)
def PX9_of  (a1 : Int32) (a2 : Int32) (V : gV) : Prop := (vp_in (((16 : Int32) + ((11 : Int32) * a1)) + a2) 246)
abbrev wc_X9_of : List Cond := Cond.code yX9_of cX9_of 3 (some .int) :: wsL_law
abbrev r_X9_of : Room := { frames := 0, cells := 0, slots := 0, locals := 0 }
theorem dd_X9_of : yX9_of.cls = RX9 ∧ yX9_of.cls ≠ "java/lang/invoke/MethodHandle" ∧ yX9_of.cls ≠ "java/lang/invoke/VarHandle" ∧ (parseMethodDescriptor yX9_of.desc).map (fun d => d.parameters.length) = some 2 := by decide +kernel
set_option maxHeartbeats 8000000 in
set_option maxRecDepth 100000 in
theorem cc_X9_of (l : Launch) (G : gG) (V : gV)   (a1 : Int32) (a2 : Int32) (hs : PX9_of a1 a2 V) : Met l yX9_of wc_X9_of r_X9_of (va_Pc [.ref (gA G 213), .int a1, .int a2] (gW G V)) (gQR G (MX9_of a1 a2 V) V) 0 0 (gF G) := by
  refine Met.ofW (cc := cX9_of) (maxL := 3) (ret := (some .int)) (by decide) rfl ?_
  intro p e s m args below meth c s₁ B hml hv
  obtain ⟨rfl, hP, hT⟩ := hv
  have hx := B.exec
  have hb := B.bytes
  have hr := B.returns
  have hw := gh_hw (atoms_spec (ws := wc_X9_of) B.pre)
  have hown : s.vm.findClass RX9 = some m.cls := findClass_of_methodNamed B.named
  have hlocks := B.notSynchronized
  have hS : va_S (gF G) s.heap s.heap [] := va_S.rf
  have hl := lv_entry ([.ref (gA G 213), .int a1, .int a2]) (n := 3) (Nat.le_of_ble_eq_true rfl)
  rw [lg_entry_eq]
  generalize (lg_sl ([.ref (gA G 213), .int a1, .int a2]) ++ List.replicate (3 - (lg_sl ([.ref (gA G 213), .int a1, .int a2])).length) Slot.unset).toArray = ls at hl ⊢
  have hl : lv_has ls 3 [(0, .ref (gA G 213)), (1, .int a1), (2, .int a2)] := hl
  obtain ⟨res, hres⟩ : ∃ r, r = MX9_of a1 a2 V := ⟨_, rfl⟩
  rw [← hres]
  show W p l e r_X9_of s m ([.ref (gA G 213), .int a1, .int a2] : List Value).toArray below meth c s.heap [] 0 0 (MQ below (gQR G res V) ([.ref (gA G 213), .int a1, .int a2] : List Value).toArray s 0 0 (gF G)) (F0 m 0 ls [])
  have hs : (vp_in (((16 : Int32) + ((11 : Int32) * a1)) + a2) 246) := hs
  have hres : res = ((V 214 ((((16 : Int32) + ((11 : Int32) * a1)) + a2)).toNatClampNeg)) := hres
  refine lv_aload_n hx hb dX9_of_0 rfl (lv_at hl 0 rfl) ?_
  refine gh_get (v := .ref (gA G 214)) (C := RX9) (T := TX9) (N := 11) hx hb hw inlX9 hown hT hP 213 (Nat.le_of_ble_eq_true rfl) kd213 rfl rfl 0 (by decide) (hw _ uw117) rfl dX9_of_1 ?_
  refine lv_bipush (v := 16) hx hb dX9_of_4 (by decide) ?_
  refine lv_bipush (v := 11) hx hb dX9_of_6 (by decide) ?_
  refine lv_iload_n hx hb dX9_of_8 rfl (lv_at hl 1 rfl) ?_
  refine lv_imul hx hb dX9_of_9 ?_
  refine lv_iadd hx hb dX9_of_10 ?_
  refine lv_iload_n hx hb dX9_of_11 rfl (lv_at hl 2 rfl) ?_
  refine lv_iadd hx hb dX9_of_12 ?_
  have ho_1 := hs
  refine gh_iald hx hb hT hP 214 (Nat.le_of_ble_eq_true rfl) kd214 ho_1 dX9_of_13 ?_
  exact gh_iretR hx hb hr hlocks hP hS hT hres dX9_of_14
theorem gv_RX9_29 : GoodIn wsL_law (wsV RX9 29 RX9 yX9_of wc_X9_of) := gh_gV uw217 uw218 uw219 uw5 uw220
def MX9_letterAt  (a1 : Int32) (a2 : Int32) (V : gV) : Int32 := (MX9_of a1 ((3 : Int32) + a2) V)
def PX9_letterAt  (a1 : Int32) (a2 : Int32) (V : gV) : Prop := (PX9_of a1 ((3 : Int32) + a2) V)
abbrev wc_X9_letterAt : List Cond := Cond.code yX9_letterAt cX9_letterAt 3 (some .int) :: wsL_law
abbrev r_X9_letterAt : Room := { frames := 1, cells := 0, slots := 0, locals := 22 }
theorem dd_X9_letterAt : yX9_letterAt.cls = RX9 ∧ yX9_letterAt.cls ≠ "java/lang/invoke/MethodHandle" ∧ yX9_letterAt.cls ≠ "java/lang/invoke/VarHandle" ∧ (parseMethodDescriptor yX9_letterAt.desc).map (fun d => d.parameters.length) = some 2 := by decide +kernel
set_option maxHeartbeats 8000000 in
set_option maxRecDepth 100000 in
theorem cc_X9_letterAt (l : Launch) (G : gG) (V : gV)   (a1 : Int32) (a2 : Int32) (hs : PX9_letterAt a1 a2 V) : Met l yX9_letterAt wc_X9_letterAt r_X9_letterAt (va_Pc [.ref (gA G 213), .int a1, .int a2] (gW G V)) (gQR G (MX9_letterAt a1 a2 V) V) 0 0 (gF G) := by
  refine Met.ofW (cc := cX9_letterAt) (maxL := 3) (ret := (some .int)) (by decide) rfl ?_
  intro p e s m args below meth c s₁ B hml hv
  obtain ⟨rfl, hP, hT⟩ := hv
  have hx := B.exec
  have hb := B.bytes
  have hr := B.returns
  have hw := gh_hw (atoms_spec (ws := wc_X9_letterAt) B.pre)
  have hown : s.vm.findClass RX9 = some m.cls := findClass_of_methodNamed B.named
  have hlocks := B.notSynchronized
  have hS : va_S (gF G) s.heap s.heap [] := va_S.rf
  have hl := lv_entry ([.ref (gA G 213), .int a1, .int a2]) (n := 3) (Nat.le_of_ble_eq_true rfl)
  rw [lg_entry_eq]
  generalize (lg_sl ([.ref (gA G 213), .int a1, .int a2]) ++ List.replicate (3 - (lg_sl ([.ref (gA G 213), .int a1, .int a2])).length) Slot.unset).toArray = ls at hl ⊢
  have hl : lv_has ls 3 [(0, .ref (gA G 213)), (1, .int a1), (2, .int a2)] := hl
  obtain ⟨res, hres⟩ : ∃ r, r = MX9_letterAt a1 a2 V := ⟨_, rfl⟩
  rw [← hres]
  show W p l e r_X9_letterAt s m ([.ref (gA G 213), .int a1, .int a2] : List Value).toArray below meth c s.heap [] 0 0 (MQ below (gQR G res V) ([.ref (gA G 213), .int a1, .int a2] : List Value).toArray s 0 0 (gF G)) (F0 m 0 ls [])
  have hs : (PX9_of a1 ((3 : Int32) + a2) V) := hs
  have hres : res = ((MX9_of a1 ((3 : Int32) + a2) V)) := hres
  refine lv_aload_n hx hb dX9_letterAt_0 rfl (lv_at hl 0 rfl) ?_
  refine lv_iload_n hx hb dX9_letterAt_1 rfl (lv_at hl 1 rfl) ?_
  refine lv_iconst (v := 3) hx hb dX9_letterAt_2 (by decide) ?_
  refine lv_iload_n hx hb dX9_letterAt_3 rfl (lv_at hl 2 rfl) ?_
  refine lv_iadd hx hb dX9_letterAt_4 ?_
  have ho_1 := hs
  refine gh_kr (va_runV (As := [.int a1, .int ((3 : Int32) + a2)]) (rest := []) ⟨hx, hb, hml, hown, hw⟩ (cc_X9_of l G V a1 ((3 : Int32) + a2) ho_1) (cwV 2 hw gv_RX9_29 rfl rfl rfl dd_X9_of ⟨Nat.le_of_ble_eq_true rfl, Nat.le_of_ble_eq_true rfl⟩) (gh_preV hT hP (Nat.le_of_ble_eq_true rfl) kd213 rfl rfl) rfl rfl hl.1 rfl (lv_room (Nat.le_of_ble_eq_true rfl)) dX9_letterAt_5 ⟨Nat.zero_le _, Nat.zero_le _⟩) hS (fun H locs hP hS => ?_)
  exact gh_iretR hx hb hr hlocks hP hS hT hres dX9_letterAt_8
theorem gv_RX9_33 : GoodIn wsL_law (wsV RX9 33 RX9 yX9_letterAt wc_X9_letterAt) := gh_gV uw455 uw456 uw457 uw5 uw458
def BX9_places_36  (K5 : Int32 → Int32 → Int32 → Int32 → gV → Int32) (x1 : Int32) (x2 : Int32) (x4 : Int32) (s0 : Int32) (s1 : Int32) (V : gV) : Int32 := K5 x1 x2 (s1 ||| s0) (x4 + (1 : Int32)) V
def PX9_places_36  (KP5 : Int32 → Int32 → Int32 → Int32 → gV → Prop) (x1 : Int32) (x2 : Int32) (x4 : Int32) (s0 : Int32) (s1 : Int32) (V : gV) : Prop := (KP5 x1 x2 (s1 ||| s0) (x4 + (1 : Int32)) V)
def BX9_places_5   : Nat → Int32 → Int32 → Int32 → Int32 → gV → Int32
  | 0, _, _, _, _, _ => 0
  | n + 1, x1, x2, x3, x4, V => if (MX9_of x1 (0 : Int32) V) ≤ x4 then (x3) else (if (MX9_letterAt x1 x4 V) = x2 then (BX9_places_36 (BX9_places_5 n) x1 x2 x4 ((1 : Int32) <<< (x4 &&& 31)) x3 V) else (BX9_places_36 (BX9_places_5 n) x1 x2 x4 (0 : Int32) x3 V))
def PX9_places_5   : Nat → Int32 → Int32 → Int32 → Int32 → gV → Prop
  | 0, _, _, _, _, _ => False
  | n + 1, x1, x2, x3, x4, V => (PX9_of x1 (0 : Int32) V) ∧ ((¬ (MX9_of x1 (0 : Int32) V) ≤ x4 → (PX9_letterAt x1 x4 V) ∧ (((MX9_letterAt x1 x4 V) = x2 → (PX9_places_36 (PX9_places_5 n) x1 x2 x4 ((1 : Int32) <<< (x4 &&& 31)) x3 V)) ∧ (¬ (MX9_letterAt x1 x4 V) = x2 → (PX9_places_36 (PX9_places_5 n) x1 x2 x4 (0 : Int32) x3 V)))))
def MX9_places  (a1 : Int32) (a2 : Int32) (V : gV) : Int32 := BX9_places_5 1000 a1 a2 (0 : Int32) (0 : Int32) V
def PX9_places  (a1 : Int32) (a2 : Int32) (V : gV) : Prop := (PX9_places_5 1000 a1 a2 (0 : Int32) (0 : Int32) V)
abbrev wc_X9_places : List Cond := Cond.code yX9_places cX9_places 5 (some .int) :: wsL_law
abbrev r_X9_places : Room := { frames := 2, cells := 0, slots := 0, locals := 44 }
theorem dd_X9_places : yX9_places.cls = RX9 ∧ yX9_places.cls ≠ "java/lang/invoke/MethodHandle" ∧ yX9_places.cls ≠ "java/lang/invoke/VarHandle" ∧ (parseMethodDescriptor yX9_places.desc).map (fun d => d.parameters.length) = some 2 := by decide +kernel
set_option maxHeartbeats 8000000 in
set_option maxRecDepth 100000 in
theorem cc_X9_places (l : Launch) (G : gG) (V : gV)   (a1 : Int32) (a2 : Int32) (hs : PX9_places a1 a2 V) : Met l yX9_places wc_X9_places r_X9_places (va_Pc [.ref (gA G 213), .int a1, .int a2] (gW G V)) (gQR G (MX9_places a1 a2 V) V) 0 0 (gF G) := by
  refine Met.ofW (cc := cX9_places) (maxL := 5) (ret := (some .int)) (by decide) rfl ?_
  intro p e s m args below meth c s₁ B hml hv
  obtain ⟨rfl, hP, hT⟩ := hv
  have hx := B.exec
  have hb := B.bytes
  have hr := B.returns
  have hw := gh_hw (atoms_spec (ws := wc_X9_places) B.pre)
  have hown : s.vm.findClass RX9 = some m.cls := findClass_of_methodNamed B.named
  have hlocks := B.notSynchronized
  have hS : va_S (gF G) s.heap s.heap [] := va_S.rf
  have hl := lv_entry ([.ref (gA G 213), .int a1, .int a2]) (n := 5) (Nat.le_of_ble_eq_true rfl)
  rw [lg_entry_eq]
  generalize (lg_sl ([.ref (gA G 213), .int a1, .int a2]) ++ List.replicate (5 - (lg_sl ([.ref (gA G 213), .int a1, .int a2])).length) Slot.unset).toArray = ls at hl ⊢
  have hl : lv_has ls 5 [(0, .ref (gA G 213)), (1, .int a1), (2, .int a2)] := hl
  obtain ⟨res, hres⟩ : ∃ r, r = MX9_places a1 a2 V := ⟨_, rfl⟩
  rw [← hres]
  show W p l e r_X9_places s m ([.ref (gA G 213), .int a1, .int a2] : List Value).toArray below meth c s.heap [] 0 0 (MQ below (gQR G res V) ([.ref (gA G 213), .int a1, .int a2] : List Value).toArray s 0 0 (gF G)) (F0 m 0 ls [])
  have hs : (PX9_places_5 1000 a1 a2 (0 : Int32) (0 : Int32) V) := hs
  have hres : res = (BX9_places_5 1000 a1 a2 (0 : Int32) (0 : Int32) V) := hres
  have b_5 : ∀ (n : Nat) (x1 : Int32) (x2 : Int32) (x3 : Int32) (x4 : Int32) (H : Heap) (locs : List Loc) (ls : Array Slot), lv_has ls 5 [(0, .ref (gA G 213)), (1, .int x1), (2, .int x2), (3, .int x3), (4, .int x4)] → va_P (gD G) vwCl (gL G V) H → va_S (gF G) s.heap H locs → PX9_places_5  n x1 x2 x3 x4 V → res = BX9_places_5  n x1 x2 x3 x4 V → W p l e r_X9_places s m ([.ref (gA G 213), .int a1, .int a2] : List Value).toArray below meth c H locs 0 0 (MQ below (gQR G res V) ([.ref (gA G 213), .int a1, .int a2] : List Value).toArray s 0 0 (gF G)) (F0 m 5 ls []) := by
    intro n
    induction n with
    | zero =>
      intro x1 x2 x3 x4 H locs ls hl hP hS hs hres
      exact (show False from hs).elim
    | succ n5 ih5 =>
      have b_36 : ∀ (x1 : Int32) (x2 : Int32) (x4 : Int32) (s0 : Int32) (s1 : Int32) (H : Heap) (locs : List Loc) (ls : Array Slot), lv_has ls 5 [(0, .ref (gA G 213)), (1, .int x1), (2, .int x2), (4, .int x4)] → va_P (gD G) vwCl (gL G V) H → va_S (gF G) s.heap H locs → PX9_places_36 (PX9_places_5 n5) x1 x2 x4 s0 s1 V → res = BX9_places_36 (BX9_places_5 n5) x1 x2 x4 s0 s1 V → W p l e r_X9_places s m ([.ref (gA G 213), .int a1, .int a2] : List Value).toArray below meth c H locs 0 0 (MQ below (gQR G res V) ([.ref (gA G 213), .int a1, .int a2] : List Value).toArray s 0 0 (gF G)) (F0 m 36 ls [.int s0, .int s1]) := by
        intro x1 x2 x4 s0 s1 H locs ls hl hP hS hs hres
        have hs : ((PX9_places_5 n5) x1 x2 (s1 ||| s0) (x4 + (1 : Int32)) V) := hs
        have hres : res = ((BX9_places_5 n5) x1 x2 (s1 ||| s0) (x4 + (1 : Int32)) V) := hres
        refine lv_ior hx hb dX9_places_36 ?_
        refine lv_istore_n (lv' := [(3, .int (s1 ||| s0)), (0, .ref (gA G 213)), (1, .int x1), (2, .int x2), (4, .int x4)]) hx hb dX9_places_37 rfl hl (by decide) rfl (fun ls hl => ?_)
        refine lv_iinc (v := (x4 + (1 : Int32))) (lv' := [(4, .int (x4 + (1 : Int32))), (3, .int (s1 ||| s0)), (0, .ref (gA G 213)), (1, .int x1), (2, .int x2)]) hx hb dX9_places_38 hl (k := 4) rfl rfl (by decide) rfl (fun ls hl => ?_)
        refine lv_goto (tgt := 5) hx hb dX9_places_41 (by decide) ?_
        exact ih5 x1 x2 (s1 ||| s0) (x4 + (1 : Int32)) _ _ _ (lv_sub hl [2, 3, 4, 1, 0] rfl) hP hS hs hres
      intro x1 x2 x3 x4 H locs ls hl hP hS hs hres
      have hs : (PX9_of x1 (0 : Int32) V) ∧ ((¬ (MX9_of x1 (0 : Int32) V) ≤ x4 → (PX9_letterAt x1 x4 V) ∧ (((MX9_letterAt x1 x4 V) = x2 → (PX9_places_36 (PX9_places_5 n5) x1 x2 x4 ((1 : Int32) <<< (x4 &&& 31)) x3 V)) ∧ (¬ (MX9_letterAt x1 x4 V) = x2 → (PX9_places_36 (PX9_places_5 n5) x1 x2 x4 (0 : Int32) x3 V))))) := hs
      have hres : res = (if (MX9_of x1 (0 : Int32) V) ≤ x4 then (x3) else (if (MX9_letterAt x1 x4 V) = x2 then (BX9_places_36 (BX9_places_5 n5) x1 x2 x4 ((1 : Int32) <<< (x4 &&& 31)) x3 V) else (BX9_places_36 (BX9_places_5 n5) x1 x2 x4 (0 : Int32) x3 V))) := hres
      refine lv_iload hx hb dX9_places_5 (lv_at hl 4 rfl) ?_
      refine lv_aload_n hx hb dX9_places_7 rfl (lv_at hl 0 rfl) ?_
      refine lv_iload_n hx hb dX9_places_8 rfl (lv_at hl 1 rfl) ?_
      refine lv_iconst (v := 0) hx hb dX9_places_9 (by decide) ?_
      obtain ⟨ho_1, hs⟩ := hs
      refine gh_kr (va_runV (As := [.int x1, .int (0 : Int32)]) (rest := [.int x4]) ⟨hx, hb, hml, hown, hw⟩ (cc_X9_of l G V x1 (0 : Int32) ho_1) (cwV 2 hw gv_RX9_29 rfl rfl rfl dd_X9_of ⟨Nat.le_of_ble_eq_true rfl, Nat.le_of_ble_eq_true rfl⟩) (gh_preV hT hP (Nat.le_of_ble_eq_true rfl) kd213 rfl rfl) rfl rfl hl.1 rfl (lv_room (Nat.le_of_ble_eq_true rfl)) dX9_places_10 ⟨Nat.zero_le _, Nat.zero_le _⟩) hS (fun H locs hP hS => ?_)
      refine lv_icmp_ge (tgt := 44) hx hb dX9_places_13 (by decide) (fun c_2 => ?_) (fun c_2 => ?_)
      · have hres := hres.trans (if_pos c_2)
        refine lv_iload_n hx hb dX9_places_44 rfl (lv_at hl 3 rfl) ?_
        exact gh_iretR hx hb hr hlocks hP hS hT hres dX9_places_45
      have hres := hres.trans (if_neg c_2)
      have hs := hs c_2
      refine lv_iload_n hx hb dX9_places_16 rfl (lv_at hl 3 rfl) ?_
      refine lv_aload_n hx hb dX9_places_17 rfl (lv_at hl 0 rfl) ?_
      refine lv_iload_n hx hb dX9_places_18 rfl (lv_at hl 1 rfl) ?_
      refine lv_iload hx hb dX9_places_19 (lv_at hl 4 rfl) ?_
      obtain ⟨ho_3, hs⟩ := hs
      refine gh_kr (va_runV (As := [.int x1, .int x4]) (rest := [.int x3]) ⟨hx, hb, hml, hown, hw⟩ (cc_X9_letterAt l G V x1 x4 ho_3) (cwV 2 hw gv_RX9_33 rfl rfl rfl dd_X9_letterAt ⟨Nat.le_of_ble_eq_true rfl, Nat.le_of_ble_eq_true rfl⟩) (gh_preV hT hP (Nat.le_of_ble_eq_true rfl) kd213 rfl rfl) rfl rfl hl.1 rfl (lv_room (Nat.le_of_ble_eq_true rfl)) dX9_places_21 ⟨Nat.zero_le _, Nat.zero_le _⟩) hS (fun H locs hP hS => ?_)
      refine lv_iload_n hx hb dX9_places_24 rfl (lv_at hl 2 rfl) ?_
      refine lv_icmp_ne (tgt := 35) hx hb dX9_places_25 (by decide) (fun c_4 => ?_) (fun c_4 => ?_)
      · have hres := hres.trans (if_neg c_4)
        have hs := hs.2 c_4
        refine lv_iconst (v := 0) hx hb dX9_places_35 (by decide) ?_
        exact b_36 x1 x2 x4 (0 : Int32) x3 _ _ _ (lv_sub hl [0, 1, 2, 4] rfl) hP hS hs hres
      have hres := hres.trans (if_pos c_4)
      have hs := hs.1 c_4
      refine lv_iconst (v := 1) hx hb dX9_places_28 (by decide) ?_
      refine lv_iload hx hb dX9_places_29 (lv_at hl 4 rfl) ?_
      refine lv_ishl hx hb dX9_places_31 ?_
      refine lv_goto (tgt := 36) hx hb dX9_places_32 (by decide) ?_
      exact b_36 x1 x2 x4 ((1 : Int32) <<< (x4 &&& 31)) x3 _ _ _ (lv_sub hl [0, 1, 2, 4] rfl) hP hS hs hres
  refine lv_iconst (v := 0) hx hb dX9_places_0 (by decide) ?_
  refine lv_istore_n (lv' := [(3, .int (0 : Int32)), (0, .ref (gA G 213)), (1, .int a1), (2, .int a2)]) hx hb dX9_places_1 rfl hl (by decide) rfl (fun ls hl => ?_)
  refine lv_iconst (v := 0) hx hb dX9_places_2 (by decide) ?_
  refine lv_istore (lv' := [(4, .int (0 : Int32)), (3, .int (0 : Int32)), (0, .ref (gA G 213)), (1, .int a1), (2, .int a2)]) hx hb dX9_places_3 hl (by decide) rfl (fun ls hl => ?_)
  exact b_5 1000 a1 a2 (0 : Int32) (0 : Int32) _ _ _ (lv_sub hl [2, 3, 4, 1, 0] rfl) hP hS hs hres
def BX9_weights_4   : Nat → Int32 → Int32 → gV → Int32
  | 0, _, _, _ => 0
  | n + 1, x1, x2, V => if (V 214 ((0 : Int32)).toNatClampNeg) ≤ x2 then (x1) else ((BX9_weights_4 n) (x1 + (MX9_of x2 (1 : Int32) V)) (x2 + (1 : Int32)) V)
def PX9_weights_4   : Nat → Int32 → Int32 → gV → Prop
  | 0, _, _, _ => False
  | n + 1, x1, x2, V => ((¬ (V 214 ((0 : Int32)).toNatClampNeg) ≤ x2 → (PX9_of x2 (1 : Int32) V) ∧ ((PX9_weights_4 n) (x1 + (MX9_of x2 (1 : Int32) V)) (x2 + (1 : Int32)) V)))
def MX9_weights   (V : gV) : Int32 := BX9_weights_4 1000 (0 : Int32) (0 : Int32) V
def PX9_weights   (V : gV) : Prop := (PX9_weights_4 1000 (0 : Int32) (0 : Int32) V)
abbrev wc_X9_weights : List Cond := Cond.code yX9_weights cX9_weights 3 (some .int) :: wsL_law
abbrev r_X9_weights : Room := { frames := 1, cells := 0, slots := 0, locals := 22 }
theorem dd_X9_weights : yX9_weights.cls = RX9 ∧ yX9_weights.cls ≠ "java/lang/invoke/MethodHandle" ∧ yX9_weights.cls ≠ "java/lang/invoke/VarHandle" ∧ (parseMethodDescriptor yX9_weights.desc).map (fun d => d.parameters.length) = some 0 := by decide +kernel
set_option maxHeartbeats 8000000 in
set_option maxRecDepth 100000 in
theorem cc_X9_weights (l : Launch) (G : gG) (V : gV)    (hs : PX9_weights V) : Met l yX9_weights wc_X9_weights r_X9_weights (va_Pc [.ref (gA G 213)] (gW G V)) (gQR G (MX9_weights V) V) 0 0 (gF G) := by
  refine Met.ofW (cc := cX9_weights) (maxL := 3) (ret := (some .int)) (by decide) rfl ?_
  intro p e s m args below meth c s₁ B hml hv
  obtain ⟨rfl, hP, hT⟩ := hv
  have hx := B.exec
  have hb := B.bytes
  have hr := B.returns
  have hw := gh_hw (atoms_spec (ws := wc_X9_weights) B.pre)
  have hown : s.vm.findClass RX9 = some m.cls := findClass_of_methodNamed B.named
  have hlocks := B.notSynchronized
  have hS : va_S (gF G) s.heap s.heap [] := va_S.rf
  have hl := lv_entry ([.ref (gA G 213)]) (n := 3) (Nat.le_of_ble_eq_true rfl)
  rw [lg_entry_eq]
  generalize (lg_sl ([.ref (gA G 213)]) ++ List.replicate (3 - (lg_sl ([.ref (gA G 213)])).length) Slot.unset).toArray = ls at hl ⊢
  have hl : lv_has ls 3 [(0, .ref (gA G 213))] := hl
  obtain ⟨res, hres⟩ : ∃ r, r = MX9_weights V := ⟨_, rfl⟩
  rw [← hres]
  show W p l e r_X9_weights s m ([.ref (gA G 213)] : List Value).toArray below meth c s.heap [] 0 0 (MQ below (gQR G res V) ([.ref (gA G 213)] : List Value).toArray s 0 0 (gF G)) (F0 m 0 ls [])
  have hs : (PX9_weights_4 1000 (0 : Int32) (0 : Int32) V) := hs
  have hres : res = (BX9_weights_4 1000 (0 : Int32) (0 : Int32) V) := hres
  have b_4 : ∀ (n : Nat) (x1 : Int32) (x2 : Int32) (H : Heap) (locs : List Loc) (ls : Array Slot), lv_has ls 3 [(0, .ref (gA G 213)), (1, .int x1), (2, .int x2)] → va_P (gD G) vwCl (gL G V) H → va_S (gF G) s.heap H locs → PX9_weights_4  n x1 x2 V → res = BX9_weights_4  n x1 x2 V → W p l e r_X9_weights s m ([.ref (gA G 213)] : List Value).toArray below meth c H locs 0 0 (MQ below (gQR G res V) ([.ref (gA G 213)] : List Value).toArray s 0 0 (gF G)) (F0 m 4 ls []) := by
    intro n
    induction n with
    | zero =>
      intro x1 x2 H locs ls hl hP hS hs hres
      exact (show False from hs).elim
    | succ n4 ih4 =>
      intro x1 x2 H locs ls hl hP hS hs hres
      have hs : ((¬ (V 214 ((0 : Int32)).toNatClampNeg) ≤ x2 → (PX9_of x2 (1 : Int32) V) ∧ ((PX9_weights_4 n4) (x1 + (MX9_of x2 (1 : Int32) V)) (x2 + (1 : Int32)) V))) := hs
      have hres : res = (if (V 214 ((0 : Int32)).toNatClampNeg) ≤ x2 then (x1) else ((BX9_weights_4 n4) (x1 + (MX9_of x2 (1 : Int32) V)) (x2 + (1 : Int32)) V)) := hres
      refine lv_iload_n hx hb dX9_weights_4 rfl (lv_at hl 2 rfl) ?_
      refine lv_aload_n hx hb dX9_weights_5 rfl (lv_at hl 0 rfl) ?_
      refine gh_get (v := .ref (gA G 214)) (C := RX9) (T := TX9) (N := 11) hx hb hw inlX9 hown hT hP 213 (Nat.le_of_ble_eq_true rfl) kd213 rfl rfl 0 (by decide) (hw _ uw117) rfl dX9_weights_6 ?_
      refine lv_iconst (v := 0) hx hb dX9_weights_9 (by decide) ?_
      refine gh_iald hx hb hT hP 214 (Nat.le_of_ble_eq_true rfl) kd214 (gh_ci (by decide)) dX9_weights_10 ?_
      refine lv_icmp_ge (tgt := 29) hx hb dX9_weights_11 (by decide) (fun c_1 => ?_) (fun c_1 => ?_)
      · have hres := hres.trans (if_pos c_1)
        refine lv_iload_n hx hb dX9_weights_29 rfl (lv_at hl 1 rfl) ?_
        exact gh_iretR hx hb hr hlocks hP hS hT hres dX9_weights_30
      have hres := hres.trans (if_neg c_1)
      have hs := hs c_1
      refine lv_iload_n hx hb dX9_weights_14 rfl (lv_at hl 1 rfl) ?_
      refine lv_aload_n hx hb dX9_weights_15 rfl (lv_at hl 0 rfl) ?_
      refine lv_iload_n hx hb dX9_weights_16 rfl (lv_at hl 2 rfl) ?_
      refine lv_iconst (v := 1) hx hb dX9_weights_17 (by decide) ?_
      obtain ⟨ho_2, hs⟩ := hs
      refine gh_kr (va_runV (As := [.int x2, .int (1 : Int32)]) (rest := [.int x1]) ⟨hx, hb, hml, hown, hw⟩ (cc_X9_of l G V x2 (1 : Int32) ho_2) (cwV 2 hw gv_RX9_29 rfl rfl rfl dd_X9_of ⟨Nat.le_of_ble_eq_true rfl, Nat.le_of_ble_eq_true rfl⟩) (gh_preV hT hP (Nat.le_of_ble_eq_true rfl) kd213 rfl rfl) rfl rfl hl.1 rfl (lv_room (Nat.le_of_ble_eq_true rfl)) dX9_weights_18 ⟨Nat.zero_le _, Nat.zero_le _⟩) hS (fun H locs hP hS => ?_)
      refine lv_iadd hx hb dX9_weights_21 ?_
      refine lv_istore_n (lv' := [(1, .int (x1 + (MX9_of x2 (1 : Int32) V))), (0, .ref (gA G 213)), (2, .int x2)]) hx hb dX9_weights_22 rfl hl (by decide) rfl (fun ls hl => ?_)
      refine lv_iinc (v := (x2 + (1 : Int32))) (lv' := [(2, .int (x2 + (1 : Int32))), (1, .int (x1 + (MX9_of x2 (1 : Int32) V))), (0, .ref (gA G 213))]) hx hb dX9_weights_23 hl (k := 2) rfl rfl (by decide) rfl (fun ls hl => ?_)
      refine lv_goto (tgt := 4) hx hb dX9_weights_26 (by decide) ?_
      exact ih4 (x1 + (MX9_of x2 (1 : Int32) V)) (x2 + (1 : Int32)) _ _ _ (lv_sub hl [2, 1, 0] rfl) hP hS hs hres
  refine lv_iconst (v := 0) hx hb dX9_weights_0 (by decide) ?_
  refine lv_istore_n (lv' := [(1, .int (0 : Int32)), (0, .ref (gA G 213))]) hx hb dX9_weights_1 rfl hl (by decide) rfl (fun ls hl => ?_)
  refine lv_iconst (v := 0) hx hb dX9_weights_2 (by decide) ?_
  refine lv_istore_n (lv' := [(2, .int (0 : Int32)), (1, .int (0 : Int32)), (0, .ref (gA G 213))]) hx hb dX9_weights_3 rfl hl (by decide) rfl (fun ls hl => ?_)
  exact b_4 1000 (0 : Int32) (0 : Int32) _ _ _ (lv_sub hl [2, 1, 0] rfl) hP hS hs hres
def MX9_drawn   (V : gV) : Int32 := ((((((V 214 ((10 : Int32)).toNatClampNeg)).toInt64 * (1103515245 : Int64)) + (12345 : Int64)) - ((((V 214 ((10 : Int32)).toNatClampNeg)).toInt64 * (1103515245 : Int64)) + (12345 : Int64)) / (2147483648 : Int64) * (2147483648 : Int64))).toInt32
abbrev wc_X9_drawn : List Cond := Cond.code yX9_drawn cX9_drawn 1 (some .int) :: wsL_law
abbrev r_X9_drawn : Room := { frames := 0, cells := 0, slots := 0, locals := 0 }
theorem dd_X9_drawn : yX9_drawn.cls = RX9 ∧ yX9_drawn.cls ≠ "java/lang/invoke/MethodHandle" ∧ yX9_drawn.cls ≠ "java/lang/invoke/VarHandle" ∧ (parseMethodDescriptor yX9_drawn.desc).map (fun d => d.parameters.length) = some 0 := by decide +kernel
set_option maxHeartbeats 8000000 in
set_option maxRecDepth 100000 in
theorem cc_X9_drawn (l : Launch) (G : gG) (V : gV)     : Met l yX9_drawn wc_X9_drawn r_X9_drawn (va_Pc [.ref (gA G 213)] (gW G V)) (gQR G (MX9_drawn V) V) 0 0 (gF G) := by
  refine Met.ofW (cc := cX9_drawn) (maxL := 1) (ret := (some .int)) (by decide) rfl ?_
  intro p e s m args below meth c s₁ B hml hv
  obtain ⟨rfl, hP, hT⟩ := hv
  have hx := B.exec
  have hb := B.bytes
  have hr := B.returns
  have hw := gh_hw (atoms_spec (ws := wc_X9_drawn) B.pre)
  have hown : s.vm.findClass RX9 = some m.cls := findClass_of_methodNamed B.named
  have hlocks := B.notSynchronized
  have hS : va_S (gF G) s.heap s.heap [] := va_S.rf
  have hl := lv_entry ([.ref (gA G 213)]) (n := 1) (Nat.le_of_ble_eq_true rfl)
  rw [lg_entry_eq]
  generalize (lg_sl ([.ref (gA G 213)]) ++ List.replicate (1 - (lg_sl ([.ref (gA G 213)])).length) Slot.unset).toArray = ls at hl ⊢
  have hl : lv_has ls 1 [(0, .ref (gA G 213))] := hl
  obtain ⟨res, hres⟩ : ∃ r, r = MX9_drawn V := ⟨_, rfl⟩
  rw [← hres]
  show W p l e r_X9_drawn s m ([.ref (gA G 213)] : List Value).toArray below meth c s.heap [] 0 0 (MQ below (gQR G res V) ([.ref (gA G 213)] : List Value).toArray s 0 0 (gF G)) (F0 m 0 ls [])
  have hres : res = (((((((V 214 ((10 : Int32)).toNatClampNeg)).toInt64 * (1103515245 : Int64)) + (12345 : Int64)) - ((((V 214 ((10 : Int32)).toNatClampNeg)).toInt64 * (1103515245 : Int64)) + (12345 : Int64)) / (2147483648 : Int64) * (2147483648 : Int64))).toInt32) := hres
  refine lv_aload_n hx hb dX9_drawn_0 rfl (lv_at hl 0 rfl) ?_
  refine gh_get (v := .ref (gA G 214)) (C := RX9) (T := TX9) (N := 11) hx hb hw inlX9 hown hT hP 213 (Nat.le_of_ble_eq_true rfl) kd213 rfl rfl 0 (by decide) (hw _ uw117) rfl dX9_drawn_1 ?_
  refine lv_bipush (v := 10) hx hb dX9_drawn_4 (by decide) ?_
  refine gh_iald hx hb hT hP 214 (Nat.le_of_ble_eq_true rfl) kd214 (gh_ci (by decide)) dX9_drawn_6 ?_
  refine lv_i2l hx hb dX9_drawn_7 rfl ?_
  refine lv_ldc2 hx hb hown (hw _ uw356) dX9_drawn_8 ?_
  refine lv_lmul hx hb dX9_drawn_11 ?_
  refine lv_ldc2 hx hb hown (hw _ uw357) dX9_drawn_12 ?_
  refine lv_ladd hx hb dX9_drawn_15 ?_
  refine lv_ldc2 hx hb hown (hw _ uw358) dX9_drawn_16 ?_
  refine lv_lrem hx hb dX9_drawn_19 (by decide) ?_
  refine lv_l2i hx hb dX9_drawn_20 rfl ?_
  exact gh_iretR hx hb hr hlocks hP hS hT hres dX9_drawn_21
theorem gv_RX9_64 : GoodIn wsL_law (wsV RX9 64 RX9 yX9_weights wc_X9_weights) := gh_gV uw364 uw365 uw366 uw5 uw367
def BX9_wordBy_12   : Nat → Int32 → Int32 → gV → Int32
  | 0, _, _, _ => 0
  | n + 1, x2, x3, V => if x2 < (MX9_of x3 (1 : Int32) V) then (x3) else ((BX9_wordBy_12 n) (x2 - (MX9_of x3 (1 : Int32) V)) (x3 + (1 : Int32)) V)
def PX9_wordBy_12   : Nat → Int32 → Int32 → gV → Prop
  | 0, _, _, _ => False
  | n + 1, x2, x3, V => (PX9_of x3 (1 : Int32) V) ∧ ((¬ x2 < (MX9_of x3 (1 : Int32) V) → (PX9_of x3 (1 : Int32) V) ∧ ((PX9_wordBy_12 n) (x2 - (MX9_of x3 (1 : Int32) V)) (x3 + (1 : Int32)) V)))
def MX9_wordBy  (a1 : Int32) (V : gV) : Int32 := BX9_wordBy_12 1000 ((a1 / (65536 : Int32)) - (a1 / (65536 : Int32)) / (MX9_weights V) * (MX9_weights V)) (0 : Int32) V
def PX9_wordBy  (a1 : Int32) (V : gV) : Prop := (PX9_weights V) ∧ (¬ (MX9_weights V) = 0) ∧ (PX9_wordBy_12 1000 ((a1 / (65536 : Int32)) - (a1 / (65536 : Int32)) / (MX9_weights V) * (MX9_weights V)) (0 : Int32) V)
abbrev wc_X9_wordBy : List Cond := Cond.code yX9_wordBy cX9_wordBy 4 (some .int) :: wsL_law
abbrev r_X9_wordBy : Room := { frames := 2, cells := 0, slots := 0, locals := 44 }
theorem dd_X9_wordBy : yX9_wordBy.cls = RX9 ∧ yX9_wordBy.cls ≠ "java/lang/invoke/MethodHandle" ∧ yX9_wordBy.cls ≠ "java/lang/invoke/VarHandle" ∧ (parseMethodDescriptor yX9_wordBy.desc).map (fun d => d.parameters.length) = some 1 := by decide +kernel
set_option maxHeartbeats 8000000 in
set_option maxRecDepth 100000 in
theorem cc_X9_wordBy (l : Launch) (G : gG) (V : gV)   (a1 : Int32) (hs : PX9_wordBy a1 V) : Met l yX9_wordBy wc_X9_wordBy r_X9_wordBy (va_Pc [.ref (gA G 213), .int a1] (gW G V)) (gQR G (MX9_wordBy a1 V) V) 0 0 (gF G) := by
  refine Met.ofW (cc := cX9_wordBy) (maxL := 4) (ret := (some .int)) (by decide) rfl ?_
  intro p e s m args below meth c s₁ B hml hv
  obtain ⟨rfl, hP, hT⟩ := hv
  have hx := B.exec
  have hb := B.bytes
  have hr := B.returns
  have hw := gh_hw (atoms_spec (ws := wc_X9_wordBy) B.pre)
  have hown : s.vm.findClass RX9 = some m.cls := findClass_of_methodNamed B.named
  have hlocks := B.notSynchronized
  have hS : va_S (gF G) s.heap s.heap [] := va_S.rf
  have hl := lv_entry ([.ref (gA G 213), .int a1]) (n := 4) (Nat.le_of_ble_eq_true rfl)
  rw [lg_entry_eq]
  generalize (lg_sl ([.ref (gA G 213), .int a1]) ++ List.replicate (4 - (lg_sl ([.ref (gA G 213), .int a1])).length) Slot.unset).toArray = ls at hl ⊢
  have hl : lv_has ls 4 [(0, .ref (gA G 213)), (1, .int a1)] := hl
  obtain ⟨res, hres⟩ : ∃ r, r = MX9_wordBy a1 V := ⟨_, rfl⟩
  rw [← hres]
  show W p l e r_X9_wordBy s m ([.ref (gA G 213), .int a1] : List Value).toArray below meth c s.heap [] 0 0 (MQ below (gQR G res V) ([.ref (gA G 213), .int a1] : List Value).toArray s 0 0 (gF G)) (F0 m 0 ls [])
  have hs : (PX9_weights V) ∧ (¬ (MX9_weights V) = 0) ∧ (PX9_wordBy_12 1000 ((a1 / (65536 : Int32)) - (a1 / (65536 : Int32)) / (MX9_weights V) * (MX9_weights V)) (0 : Int32) V) := hs
  have hres : res = (BX9_wordBy_12 1000 ((a1 / (65536 : Int32)) - (a1 / (65536 : Int32)) / (MX9_weights V) * (MX9_weights V)) (0 : Int32) V) := hres
  have b_12 : ∀ (n : Nat) (x2 : Int32) (x3 : Int32) (H : Heap) (locs : List Loc) (ls : Array Slot), lv_has ls 4 [(0, .ref (gA G 213)), (2, .int x2), (3, .int x3)] → va_P (gD G) vwCl (gL G V) H → va_S (gF G) s.heap H locs → PX9_wordBy_12  n x2 x3 V → res = BX9_wordBy_12  n x2 x3 V → W p l e r_X9_wordBy s m ([.ref (gA G 213), .int a1] : List Value).toArray below meth c H locs 0 0 (MQ below (gQR G res V) ([.ref (gA G 213), .int a1] : List Value).toArray s 0 0 (gF G)) (F0 m 12 ls []) := by
    intro n
    induction n with
    | zero =>
      intro x2 x3 H locs ls hl hP hS hs hres
      exact (show False from hs).elim
    | succ n12 ih12 =>
      intro x2 x3 H locs ls hl hP hS hs hres
      have hs : (PX9_of x3 (1 : Int32) V) ∧ ((¬ x2 < (MX9_of x3 (1 : Int32) V) → (PX9_of x3 (1 : Int32) V) ∧ ((PX9_wordBy_12 n12) (x2 - (MX9_of x3 (1 : Int32) V)) (x3 + (1 : Int32)) V))) := hs
      have hres : res = (if x2 < (MX9_of x3 (1 : Int32) V) then (x3) else ((BX9_wordBy_12 n12) (x2 - (MX9_of x3 (1 : Int32) V)) (x3 + (1 : Int32)) V)) := hres
      refine lv_iload_n hx hb dX9_wordBy_12 rfl (lv_at hl 1 rfl) ?_
      refine lv_aload_n hx hb dX9_wordBy_13 rfl (lv_at hl 0 rfl) ?_
      refine lv_iload_n hx hb dX9_wordBy_14 rfl (lv_at hl 2 rfl) ?_
      refine lv_iconst (v := 1) hx hb dX9_wordBy_15 (by decide) ?_
      obtain ⟨ho_3, hs⟩ := hs
      refine gh_kr (va_runV (As := [.int x3, .int (1 : Int32)]) (rest := [.int x2]) ⟨hx, hb, hml, hown, hw⟩ (cc_X9_of l G V x3 (1 : Int32) ho_3) (cwV 2 hw gv_RX9_29 rfl rfl rfl dd_X9_of ⟨Nat.le_of_ble_eq_true rfl, Nat.le_of_ble_eq_true rfl⟩) (gh_preV hT hP (Nat.le_of_ble_eq_true rfl) kd213 rfl rfl) rfl rfl hl.1 rfl (lv_room (Nat.le_of_ble_eq_true rfl)) dX9_wordBy_16 ⟨Nat.zero_le _, Nat.zero_le _⟩) hS (fun H locs hP hS => ?_)
      refine lv_icmp_lt (tgt := 37) hx hb dX9_wordBy_19 (by decide) (fun c_4 => ?_) (fun c_4 => ?_)
      · have hres := hres.trans (if_pos c_4)
        refine lv_iload_n hx hb dX9_wordBy_37 rfl (lv_at hl 2 rfl) ?_
        exact gh_iretR hx hb hr hlocks hP hS hT hres dX9_wordBy_38
      have hres := hres.trans (if_neg c_4)
      have hs := hs c_4
      refine lv_iload_n hx hb dX9_wordBy_22 rfl (lv_at hl 1 rfl) ?_
      refine lv_aload_n hx hb dX9_wordBy_23 rfl (lv_at hl 0 rfl) ?_
      refine lv_iload_n hx hb dX9_wordBy_24 rfl (lv_at hl 2 rfl) ?_
      refine lv_iconst (v := 1) hx hb dX9_wordBy_25 (by decide) ?_
      obtain ⟨ho_5, hs⟩ := hs
      refine gh_kr (va_runV (As := [.int x3, .int (1 : Int32)]) (rest := [.int x2]) ⟨hx, hb, hml, hown, hw⟩ (cc_X9_of l G V x3 (1 : Int32) ho_5) (cwV 2 hw gv_RX9_29 rfl rfl rfl dd_X9_of ⟨Nat.le_of_ble_eq_true rfl, Nat.le_of_ble_eq_true rfl⟩) (gh_preV hT hP (Nat.le_of_ble_eq_true rfl) kd213 rfl rfl) rfl rfl hl.1 rfl (lv_room (Nat.le_of_ble_eq_true rfl)) dX9_wordBy_26 ⟨Nat.zero_le _, Nat.zero_le _⟩) hS (fun H locs hP hS => ?_)
      refine lv_isub hx hb dX9_wordBy_29 ?_
      refine lv_istore_n (lv' := [(2, .int (x2 - (MX9_of x3 (1 : Int32) V))), (0, .ref (gA G 213)), (3, .int x3)]) hx hb dX9_wordBy_30 rfl hl (by decide) rfl (fun ls hl => ?_)
      refine lv_iinc (v := (x3 + (1 : Int32))) (lv' := [(3, .int (x3 + (1 : Int32))), (2, .int (x2 - (MX9_of x3 (1 : Int32) V))), (0, .ref (gA G 213))]) hx hb dX9_wordBy_31 hl (k := 2) rfl rfl (by decide) rfl (fun ls hl => ?_)
      refine lv_goto (tgt := 12) hx hb dX9_wordBy_34 (by decide) ?_
      exact ih12 (x2 - (MX9_of x3 (1 : Int32) V)) (x3 + (1 : Int32)) _ _ _ (lv_sub hl [2, 1, 0] rfl) hP hS hs hres
  refine lv_iload_n hx hb dX9_wordBy_0 rfl (lv_at hl 1 rfl) ?_
  refine lv_ldc hx hb hown (hw _ uw363) dX9_wordBy_1 ?_
  refine lv_idiv hx hb dX9_wordBy_3 (by decide) ?_
  refine lv_aload_n hx hb dX9_wordBy_4 rfl (lv_at hl 0 rfl) ?_
  obtain ⟨ho_1, hs⟩ := hs
  refine gh_kr (va_runV (As := []) (rest := [.int (a1 / (65536 : Int32))]) ⟨hx, hb, hml, hown, hw⟩ (cc_X9_weights l G V ho_1) (cwV 0 hw gv_RX9_64 rfl rfl rfl dd_X9_weights ⟨Nat.le_of_ble_eq_true rfl, Nat.le_of_ble_eq_true rfl⟩) (gh_preV hT hP (Nat.le_of_ble_eq_true rfl) kd213 rfl rfl) rfl rfl hl.1 rfl (lv_room (Nat.le_of_ble_eq_true rfl)) dX9_wordBy_5 ⟨Nat.zero_le _, Nat.zero_le _⟩) hS (fun H locs hP hS => ?_)
  obtain ⟨ho_2, hs⟩ := hs
  refine lv_irem hx hb dX9_wordBy_8 ho_2 ?_
  refine lv_istore_n (lv' := [(2, .int ((a1 / (65536 : Int32)) - (a1 / (65536 : Int32)) / (MX9_weights V) * (MX9_weights V))), (0, .ref (gA G 213)), (1, .int a1)]) hx hb dX9_wordBy_9 rfl hl (by decide) rfl (fun ls hl => ?_)
  refine lv_iconst (v := 0) hx hb dX9_wordBy_10 (by decide) ?_
  refine lv_istore_n (lv' := [(3, .int (0 : Int32)), (2, .int ((a1 / (65536 : Int32)) - (a1 / (65536 : Int32)) / (MX9_weights V) * (MX9_weights V))), (0, .ref (gA G 213)), (1, .int a1)]) hx hb dX9_wordBy_11 rfl hl (by decide) rfl (fun ls hl => ?_)
  exact b_12 1000 ((a1 / (65536 : Int32)) - (a1 / (65536 : Int32)) / (MX9_weights V) * (MX9_weights V)) (0 : Int32) _ _ _ (lv_sub hl [2, 1, 0] rfl) hP hS hs hres
theorem gv_RX9_51 : GoodIn wsL_law (va_wsS RX9 51 yX9_at wc_X9_at) := gh_gS uw240 uw241 uw5 uw242
def BX9_canPay_37  (K4 : Int32 → Int32 → Int32 → gV → Int32) (x1 : Int32) (x3 : Int32) (s0 : Int32) (V : gV) : Int32 := K4 x1 s0 (x3 + (1 : Int32)) V
def PX9_canPay_37  (KP4 : Int32 → Int32 → Int32 → gV → Prop) (x1 : Int32) (x3 : Int32) (s0 : Int32) (V : gV) : Prop := (KP4 x1 s0 (x3 + (1 : Int32)) V)
def BX9_canPay_36  (K4 : Int32 → Int32 → Int32 → gV → Int32) (x1 : Int32) (x3 : Int32) (V : gV) : Int32 := BX9_canPay_37 K4 x1 x3 (0 : Int32) V
def PX9_canPay_36  (KP4 : Int32 → Int32 → Int32 → gV → Prop) (x1 : Int32) (x3 : Int32) (V : gV) : Prop := (PX9_canPay_37 KP4 x1 x3 (0 : Int32) V)
def BX9_canPay_4   : Nat → Int32 → Int32 → Int32 → gV → Int32
  | 0, _, _, _, _ => 0
  | n + 1, x1, x2, x3, V => if (V 214 ((1 : Int32)).toNatClampNeg) ≤ x3 then (x2) else (if x2 = 0 then (BX9_canPay_36 (BX9_canPay_4 n) x1 x3 V) else (if (V 214 ((MX9_at x3 (0 : Int32) V)).toNatClampNeg) < x1 then (BX9_canPay_36 (BX9_canPay_4 n) x1 x3 V) else (BX9_canPay_37 (BX9_canPay_4 n) x1 x3 (1 : Int32) V)))
def PX9_canPay_4   : Nat → Int32 → Int32 → Int32 → gV → Prop
  | 0, _, _, _, _ => False
  | n + 1, x1, x2, x3, V => (((V 214 ((1 : Int32)).toNatClampNeg) ≤ x3 → (gZ x2)) ∧ (¬ (V 214 ((1 : Int32)).toNatClampNeg) ≤ x3 → ((x2 = 0 → (PX9_canPay_36 (PX9_canPay_4 n) x1 x3 V)) ∧ (¬ x2 = 0 → (vp_in (MX9_at x3 (0 : Int32) V) 246) ∧ (((V 214 ((MX9_at x3 (0 : Int32) V)).toNatClampNeg) < x1 → (PX9_canPay_36 (PX9_canPay_4 n) x1 x3 V)) ∧ (¬ (V 214 ((MX9_at x3 (0 : Int32) V)).toNatClampNeg) < x1 → (PX9_canPay_37 (PX9_canPay_4 n) x1 x3 (1 : Int32) V)))))))
def MX9_canPay  (a1 : Int32) (V : gV) : Int32 := BX9_canPay_4 1000 a1 (1 : Int32) (0 : Int32) V
def PX9_canPay  (a1 : Int32) (V : gV) : Prop := (PX9_canPay_4 1000 a1 (1 : Int32) (0 : Int32) V)
abbrev wc_X9_canPay : List Cond := Cond.code yX9_canPay cX9_canPay 4 (some .boolean) :: wsL_law
abbrev r_X9_canPay : Room := { frames := 1, cells := 0, slots := 0, locals := 21 }
theorem dd_X9_canPay : yX9_canPay.cls = RX9 ∧ yX9_canPay.cls ≠ "java/lang/invoke/MethodHandle" ∧ yX9_canPay.cls ≠ "java/lang/invoke/VarHandle" ∧ (parseMethodDescriptor yX9_canPay.desc).map (fun d => d.parameters.length) = some 1 := by decide +kernel
set_option maxHeartbeats 8000000 in
set_option maxRecDepth 100000 in
theorem cc_X9_canPay (l : Launch) (G : gG) (V : gV)   (a1 : Int32) (hs : PX9_canPay a1 V) : Met l yX9_canPay wc_X9_canPay r_X9_canPay (va_Pc [.ref (gA G 213), .int a1] (gW G V)) (gQR G (MX9_canPay a1 V) V) 0 0 (gF G) := by
  refine Met.ofW (cc := cX9_canPay) (maxL := 4) (ret := (some .boolean)) (by decide) rfl ?_
  intro p e s m args below meth c s₁ B hml hv
  obtain ⟨rfl, hP, hT⟩ := hv
  have hx := B.exec
  have hb := B.bytes
  have hr := B.returns
  have hw := gh_hw (atoms_spec (ws := wc_X9_canPay) B.pre)
  have hown : s.vm.findClass RX9 = some m.cls := findClass_of_methodNamed B.named
  have hlocks := B.notSynchronized
  have hS : va_S (gF G) s.heap s.heap [] := va_S.rf
  have hl := lv_entry ([.ref (gA G 213), .int a1]) (n := 4) (Nat.le_of_ble_eq_true rfl)
  rw [lg_entry_eq]
  generalize (lg_sl ([.ref (gA G 213), .int a1]) ++ List.replicate (4 - (lg_sl ([.ref (gA G 213), .int a1])).length) Slot.unset).toArray = ls at hl ⊢
  have hl : lv_has ls 4 [(0, .ref (gA G 213)), (1, .int a1)] := hl
  obtain ⟨res, hres⟩ : ∃ r, r = MX9_canPay a1 V := ⟨_, rfl⟩
  rw [← hres]
  show W p l e r_X9_canPay s m ([.ref (gA G 213), .int a1] : List Value).toArray below meth c s.heap [] 0 0 (MQ below (gQR G res V) ([.ref (gA G 213), .int a1] : List Value).toArray s 0 0 (gF G)) (F0 m 0 ls [])
  have hs : (PX9_canPay_4 1000 a1 (1 : Int32) (0 : Int32) V) := hs
  have hres : res = (BX9_canPay_4 1000 a1 (1 : Int32) (0 : Int32) V) := hres
  have b_4 : ∀ (n : Nat) (x1 : Int32) (x2 : Int32) (x3 : Int32) (H : Heap) (locs : List Loc) (ls : Array Slot), lv_has ls 4 [(0, .ref (gA G 213)), (1, .int x1), (2, .int x2), (3, .int x3)] → va_P (gD G) vwCl (gL G V) H → va_S (gF G) s.heap H locs → PX9_canPay_4  n x1 x2 x3 V → res = BX9_canPay_4  n x1 x2 x3 V → W p l e r_X9_canPay s m ([.ref (gA G 213), .int a1] : List Value).toArray below meth c H locs 0 0 (MQ below (gQR G res V) ([.ref (gA G 213), .int a1] : List Value).toArray s 0 0 (gF G)) (F0 m 4 ls []) := by
    intro n
    induction n with
    | zero =>
      intro x1 x2 x3 H locs ls hl hP hS hs hres
      exact (show False from hs).elim
    | succ n4 ih4 =>
      have b_37 : ∀ (x1 : Int32) (x3 : Int32) (s0 : Int32) (H : Heap) (locs : List Loc) (ls : Array Slot), lv_has ls 4 [(0, .ref (gA G 213)), (1, .int x1), (3, .int x3)] → va_P (gD G) vwCl (gL G V) H → va_S (gF G) s.heap H locs → PX9_canPay_37 (PX9_canPay_4 n4) x1 x3 s0 V → res = BX9_canPay_37 (BX9_canPay_4 n4) x1 x3 s0 V → W p l e r_X9_canPay s m ([.ref (gA G 213), .int a1] : List Value).toArray below meth c H locs 0 0 (MQ below (gQR G res V) ([.ref (gA G 213), .int a1] : List Value).toArray s 0 0 (gF G)) (F0 m 37 ls [.int s0]) := by
        intro x1 x3 s0 H locs ls hl hP hS hs hres
        have hs : ((PX9_canPay_4 n4) x1 s0 (x3 + (1 : Int32)) V) := hs
        have hres : res = ((BX9_canPay_4 n4) x1 s0 (x3 + (1 : Int32)) V) := hres
        refine lv_istore_n (lv' := [(2, .int s0), (0, .ref (gA G 213)), (1, .int x1), (3, .int x3)]) hx hb dX9_canPay_37 rfl hl (by decide) rfl (fun ls hl => ?_)
        refine lv_iinc (v := (x3 + (1 : Int32))) (lv' := [(3, .int (x3 + (1 : Int32))), (2, .int s0), (0, .ref (gA G 213)), (1, .int x1)]) hx hb dX9_canPay_38 hl (k := 3) rfl rfl (by decide) rfl (fun ls hl => ?_)
        refine lv_goto (tgt := 4) hx hb dX9_canPay_41 (by decide) ?_
        exact ih4 x1 s0 (x3 + (1 : Int32)) _ _ _ (lv_sub hl [2, 3, 1, 0] rfl) hP hS hs hres
      have b_36 : ∀ (x1 : Int32) (x3 : Int32) (H : Heap) (locs : List Loc) (ls : Array Slot), lv_has ls 4 [(0, .ref (gA G 213)), (1, .int x1), (3, .int x3)] → va_P (gD G) vwCl (gL G V) H → va_S (gF G) s.heap H locs → PX9_canPay_36 (PX9_canPay_4 n4) x1 x3 V → res = BX9_canPay_36 (BX9_canPay_4 n4) x1 x3 V → W p l e r_X9_canPay s m ([.ref (gA G 213), .int a1] : List Value).toArray below meth c H locs 0 0 (MQ below (gQR G res V) ([.ref (gA G 213), .int a1] : List Value).toArray s 0 0 (gF G)) (F0 m 36 ls []) := by
        intro x1 x3 H locs ls hl hP hS hs hres
        have hs : (PX9_canPay_37 (PX9_canPay_4 n4) x1 x3 (0 : Int32) V) := hs
        have hres : res = (BX9_canPay_37 (BX9_canPay_4 n4) x1 x3 (0 : Int32) V) := hres
        refine lv_iconst (v := 0) hx hb dX9_canPay_36 (by decide) ?_
        exact b_37 x1 x3 (0 : Int32) _ _ _ (lv_sub hl [0, 1, 2] rfl) hP hS hs hres
      intro x1 x2 x3 H locs ls hl hP hS hs hres
      have hs : (((V 214 ((1 : Int32)).toNatClampNeg) ≤ x3 → (gZ x2)) ∧ (¬ (V 214 ((1 : Int32)).toNatClampNeg) ≤ x3 → ((x2 = 0 → (PX9_canPay_36 (PX9_canPay_4 n4) x1 x3 V)) ∧ (¬ x2 = 0 → (vp_in (MX9_at x3 (0 : Int32) V) 246) ∧ (((V 214 ((MX9_at x3 (0 : Int32) V)).toNatClampNeg) < x1 → (PX9_canPay_36 (PX9_canPay_4 n4) x1 x3 V)) ∧ (¬ (V 214 ((MX9_at x3 (0 : Int32) V)).toNatClampNeg) < x1 → (PX9_canPay_37 (PX9_canPay_4 n4) x1 x3 (1 : Int32) V))))))) := hs
      have hres : res = (if (V 214 ((1 : Int32)).toNatClampNeg) ≤ x3 then (x2) else (if x2 = 0 then (BX9_canPay_36 (BX9_canPay_4 n4) x1 x3 V) else (if (V 214 ((MX9_at x3 (0 : Int32) V)).toNatClampNeg) < x1 then (BX9_canPay_36 (BX9_canPay_4 n4) x1 x3 V) else (BX9_canPay_37 (BX9_canPay_4 n4) x1 x3 (1 : Int32) V)))) := hres
      refine lv_iload_n hx hb dX9_canPay_4 rfl (lv_at hl 3 rfl) ?_
      refine lv_aload_n hx hb dX9_canPay_5 rfl (lv_at hl 0 rfl) ?_
      refine gh_get (v := .ref (gA G 214)) (C := RX9) (T := TX9) (N := 11) hx hb hw inlX9 hown hT hP 213 (Nat.le_of_ble_eq_true rfl) kd213 rfl rfl 0 (by decide) (hw _ uw117) rfl dX9_canPay_6 ?_
      refine lv_iconst (v := 1) hx hb dX9_canPay_9 (by decide) ?_
      refine gh_iald hx hb hT hP 214 (Nat.le_of_ble_eq_true rfl) kd214 (gh_ci (by decide)) dX9_canPay_10 ?_
      refine lv_icmp_ge (tgt := 44) hx hb dX9_canPay_11 (by decide) (fun c_1 => ?_) (fun c_1 => ?_)
      · have hres := hres.trans (if_pos c_1)
        have hs := hs.1 c_1
        refine lv_iload_n hx hb dX9_canPay_44 rfl (lv_at hl 2 rfl) ?_
        have ho_2 := hs
        exact gh_zretR hx hb hr ho_2.n hlocks hP hS hT hres dX9_canPay_45
      have hres := hres.trans (if_neg c_1)
      have hs := hs.2 c_1
      refine lv_iload_n hx hb dX9_canPay_14 rfl (lv_at hl 2 rfl) ?_
      refine lv_if_eq (tgt := 36) hx hb dX9_canPay_15 (by decide) (fun c_3 => ?_) (fun c_3 => ?_)
      · have hres := hres.trans (if_pos c_3)
        have hs := hs.1 c_3
        exact b_36 x1 x3 _ _ _ (lv_sub hl [0, 1, 3] rfl) hP hS hs hres
      have hres := hres.trans (if_neg c_3)
      have hs := hs.2 c_3
      refine lv_aload_n hx hb dX9_canPay_18 rfl (lv_at hl 0 rfl) ?_
      refine gh_get (v := .ref (gA G 214)) (C := RX9) (T := TX9) (N := 11) hx hb hw inlX9 hown hT hP 213 (Nat.le_of_ble_eq_true rfl) kd213 rfl rfl 0 (by decide) (hw _ uw117) rfl dX9_canPay_19 ?_
      refine lv_iload_n hx hb dX9_canPay_22 rfl (lv_at hl 3 rfl) ?_
      refine lv_iconst (v := 0) hx hb dX9_canPay_23 (by decide) ?_
      refine gh_kr (va_runS (As := [.int x3, .int (0 : Int32)]) (rest := [.ref (gA G 214)]) ⟨hx, hb, hml, hown, hw⟩ (cc_X9_at l G V x3 (0 : Int32)) (va_cwS 2 hw gv_RX9_51 rfl rfl rfl dd_X9_at.2 ⟨Nat.le_of_ble_eq_true rfl, Nat.le_of_ble_eq_true rfl⟩) (gh_pre hT hP) rfl rfl hl.1 rfl (lv_room (Nat.le_of_ble_eq_true rfl)) dX9_canPay_24 ⟨Nat.zero_le _, Nat.zero_le _⟩) hS (fun H locs hP hS => ?_)
      obtain ⟨ho_4, hs⟩ := hs
      refine gh_iald hx hb hT hP 214 (Nat.le_of_ble_eq_true rfl) kd214 ho_4 dX9_canPay_27 ?_
      refine lv_iload_n hx hb dX9_canPay_28 rfl (lv_at hl 1 rfl) ?_
      refine lv_icmp_lt (tgt := 36) hx hb dX9_canPay_29 (by decide) (fun c_5 => ?_) (fun c_5 => ?_)
      · have hres := hres.trans (if_pos c_5)
        have hs := hs.1 c_5
        exact b_36 x1 x3 _ _ _ (lv_sub hl [0, 1, 3] rfl) hP hS hs hres
      have hres := hres.trans (if_neg c_5)
      have hs := hs.2 c_5
      refine lv_iconst (v := 1) hx hb dX9_canPay_32 (by decide) ?_
      refine lv_goto (tgt := 37) hx hb dX9_canPay_33 (by decide) ?_
      exact b_37 x1 x3 (1 : Int32) _ _ _ (lv_sub hl [0, 1, 3] rfl) hP hS hs hres
  refine lv_iconst (v := 1) hx hb dX9_canPay_0 (by decide) ?_
  refine lv_istore_n (lv' := [(2, .int (1 : Int32)), (0, .ref (gA G 213)), (1, .int a1)]) hx hb dX9_canPay_1 rfl hl (by decide) rfl (fun ls hl => ?_)
  refine lv_iconst (v := 0) hx hb dX9_canPay_2 (by decide) ?_
  refine lv_istore_n (lv' := [(3, .int (0 : Int32)), (2, .int (1 : Int32)), (0, .ref (gA G 213)), (1, .int a1)]) hx hb dX9_canPay_3 rfl hl (by decide) rfl (fun ls hl => ?_)
  exact b_4 1000 a1 (1 : Int32) (0 : Int32) _ _ _ (lv_sub hl [2, 3, 1, 0] rfl) hP hS hs hres
def BX9_ends_210   (s0 : Int32) (s1 : Int32) (V : gV) : gV := (gu V 214 (s1).toNatClampNeg s0)
def PX9_ends_210   (s0 : Int32) (s1 : Int32) (V : gV) : Prop := (vp_in s1 246)
def BX9_ends_178    (V : gV) : gV := if (6 : Int32) ≤ (V 214 ((15 : Int32)).toNatClampNeg) then (BX9_ends_210 (6 : Int32) (15 : Int32) V) else (BX9_ends_210 ((V 214 ((15 : Int32)).toNatClampNeg) + (1 : Int32)) (15 : Int32) V)
def PX9_ends_178    (V : gV) : Prop := (((6 : Int32) ≤ (V 214 ((15 : Int32)).toNatClampNeg) → (PX9_ends_210 (6 : Int32) (15 : Int32) V)) ∧ (¬ (6 : Int32) ≤ (V 214 ((15 : Int32)).toNatClampNeg) → (PX9_ends_210 ((V 214 ((15 : Int32)).toNatClampNeg) + (1 : Int32)) (15 : Int32) V)))
def BX9_ends_163    (V : gV) : gV := BX9_ends_178 (gu V 214 ((225 : Int32)).toNatClampNeg (V 214 ((14 : Int32)).toNatClampNeg))
def PX9_ends_163    (V : gV) : Prop := (PX9_ends_178 (gu V 214 ((225 : Int32)).toNatClampNeg (V 214 ((14 : Int32)).toNatClampNeg)))
def BX9_ends_149    (V : gV) : gV := BX9_ends_163 (gu V 214 ((224 : Int32)).toNatClampNeg (V 214 ((5 : Int32)).toNatClampNeg))
def PX9_ends_149    (V : gV) : Prop := (PX9_ends_163 (gu V 214 ((224 : Int32)).toNatClampNeg (V 214 ((5 : Int32)).toNatClampNeg)))
def BX9_ends_140   (x1 : Int32) (V : gV) : gV := BX9_ends_149 (gu V 214 ((223 : Int32)).toNatClampNeg x1)
def PX9_ends_140   (x1 : Int32) (V : gV) : Prop := (PX9_ends_149 (gu V 214 ((223 : Int32)).toNatClampNeg x1))
def BX9_ends_119  (K98 : Int32 → Int32 → gV → gV) (x1 : Int32) (x2 : Int32) (V : gV) : gV := K98 x1 (x2 + (-1 : Int32)) V
def PX9_ends_119  (KP98 : Int32 → Int32 → gV → Prop) (x1 : Int32) (x2 : Int32) (V : gV) : Prop := (KP98 x1 (x2 + (-1 : Int32)) V)
def BX9_ends_98   : Nat → Int32 → Int32 → gV → gV
  | 0, _, _, V => V
  | n + 1, x1, x2, V => if x2 < (226 : Int32) then (BX9_ends_140 x1 (gu V 214 ((222 : Int32)).toNatClampNeg (V 214 ((13 : Int32)).toNatClampNeg))) else (BX9_ends_119 (BX9_ends_98 n) x1 x2 (gu V 214 (x2).toNatClampNeg (V 214 ((x2 - (4 : Int32))).toNatClampNeg)))
def PX9_ends_98   : Nat → Int32 → Int32 → gV → Prop
  | 0, _, _, _ => False
  | n + 1, x1, x2, V => ((x2 < (226 : Int32) → (PX9_ends_140 x1 (gu V 214 ((222 : Int32)).toNatClampNeg (V 214 ((13 : Int32)).toNatClampNeg)))) ∧ (¬ x2 < (226 : Int32) → (vp_in (x2 - (4 : Int32)) 246) ∧ (vp_in x2 246) ∧ (PX9_ends_119 (PX9_ends_98 n) x1 x2 (gu V 214 (x2).toNatClampNeg (V 214 ((x2 - (4 : Int32))).toNatClampNeg)))))
def BX9_ends_88  (K66 : Int32 → Int32 → gV → gV) (x1 : Int32) (x2 : Int32) (V : gV) : gV := K66 x1 (x2 + (1 : Int32)) V
def PX9_ends_88  (KP66 : Int32 → Int32 → gV → Prop) (x1 : Int32) (x2 : Int32) (V : gV) : Prop := (KP66 x1 (x2 + (1 : Int32)) V)
def BX9_ends_66   : Nat → Int32 → Int32 → gV → gV
  | 0, _, _, V => V
  | n + 1, x1, x2, V => if (V 214 ((1 : Int32)).toNatClampNeg) ≤ x2 then (BX9_ends_98 1000 x1 (245 : Int32) V) else (BX9_ends_88 (BX9_ends_66 n) x1 x2 (gu V 214 ((MX9_at x2 (4 : Int32) V)).toNatClampNeg (26 : Int32)))
def PX9_ends_66   : Nat → Int32 → Int32 → gV → Prop
  | 0, _, _, _ => False
  | n + 1, x1, x2, V => (((V 214 ((1 : Int32)).toNatClampNeg) ≤ x2 → (PX9_ends_98 1000 x1 (245 : Int32) V)) ∧ (¬ (V 214 ((1 : Int32)).toNatClampNeg) ≤ x2 → (vp_in (MX9_at x2 (4 : Int32) V) 246) ∧ (PX9_ends_88 (PX9_ends_66 n) x1 x2 (gu V 214 ((MX9_at x2 (4 : Int32) V)).toNatClampNeg (26 : Int32)))))
def BX9_ends_64   (x1 : Int32) (V : gV) : gV := BX9_ends_66 1000 x1 (0 : Int32) V
def PX9_ends_64   (x1 : Int32) (V : gV) : Prop := (PX9_ends_66 1000 x1 (0 : Int32) V)
def BX9_ends_57   (x1 : Int32) (V : gV) : gV := BX9_ends_64 x1 (gu V 214 ((2 : Int32)).toNatClampNeg (0 : Int32))
def PX9_ends_57   (x1 : Int32) (V : gV) : Prop := (PX9_ends_64 x1 (gu V 214 ((2 : Int32)).toNatClampNeg (0 : Int32)))
def BX9_ends_43   (x1 : Int32) (V : gV) : gV := BX9_ends_57 x1 (gu V 214 ((MX9_at x1 (1 : Int32) V)).toNatClampNeg ((V 214 ((MX9_at x1 (1 : Int32) V)).toNatClampNeg) + (1 : Int32)))
def PX9_ends_43   (x1 : Int32) (V : gV) : Prop := (vp_in (MX9_at x1 (1 : Int32) V) 246) ∧ (vp_in (MX9_at x1 (1 : Int32) V) 246) ∧ (PX9_ends_57 x1 (gu V 214 ((MX9_at x1 (1 : Int32) V)).toNatClampNeg ((V 214 ((MX9_at x1 (1 : Int32) V)).toNatClampNeg) + (1 : Int32))))
def MX9_ends  (a1 : Int32) (V : gV) : gV := if a1 = (5 : Int32) then (BX9_ends_57 a1 (gu V 214 ((9 : Int32)).toNatClampNeg ((V 214 ((9 : Int32)).toNatClampNeg) + (V 214 ((4 : Int32)).toNatClampNeg)))) else (BX9_ends_43 a1 (gu V 214 ((MX9_at a1 (0 : Int32) V)).toNatClampNeg ((V 214 ((MX9_at a1 (0 : Int32) V)).toNatClampNeg) + (V 214 ((4 : Int32)).toNatClampNeg))))
def PX9_ends  (a1 : Int32) (V : gV) : Prop := ((a1 = (5 : Int32) → (PX9_ends_57 a1 (gu V 214 ((9 : Int32)).toNatClampNeg ((V 214 ((9 : Int32)).toNatClampNeg) + (V 214 ((4 : Int32)).toNatClampNeg))))) ∧ (¬ a1 = (5 : Int32) → (vp_in (MX9_at a1 (0 : Int32) V) 246) ∧ (vp_in (MX9_at a1 (0 : Int32) V) 246) ∧ (PX9_ends_43 a1 (gu V 214 ((MX9_at a1 (0 : Int32) V)).toNatClampNeg ((V 214 ((MX9_at a1 (0 : Int32) V)).toNatClampNeg) + (V 214 ((4 : Int32)).toNatClampNeg))))))
abbrev wc_X9_ends : List Cond := Cond.code yX9_ends cX9_ends 3 none :: wsL_law
abbrev r_X9_ends : Room := { frames := 1, cells := 0, slots := 0, locals := 21 }
theorem dd_X9_ends : yX9_ends.cls = RX9 ∧ yX9_ends.cls ≠ "java/lang/invoke/MethodHandle" ∧ yX9_ends.cls ≠ "java/lang/invoke/VarHandle" ∧ (parseMethodDescriptor yX9_ends.desc).map (fun d => d.parameters.length) = some 1 := by decide +kernel
set_option maxHeartbeats 8000000 in
set_option maxRecDepth 100000 in
theorem cc_X9_ends (l : Launch) (G : gG) (V : gV)   (a1 : Int32) (hs : PX9_ends a1 V) : Met l yX9_ends wc_X9_ends r_X9_ends (va_Pc [.ref (gA G 213), .int a1] (gW G V)) (gQV G (MX9_ends a1 V)) 0 0 (gF G) := by
  refine Met.ofW (cc := cX9_ends) (maxL := 3) (ret := none) (by decide) rfl ?_
  intro p e s m args below meth c s₁ B hml hv
  obtain ⟨rfl, hP, hT⟩ := hv
  have hx := B.exec
  have hb := B.bytes
  have hr := B.returns
  have hw := gh_hw (atoms_spec (ws := wc_X9_ends) B.pre)
  have hown : s.vm.findClass RX9 = some m.cls := findClass_of_methodNamed B.named
  have hlocks := B.notSynchronized
  have hS : va_S (gF G) s.heap s.heap [] := va_S.rf
  have hl := lv_entry ([.ref (gA G 213), .int a1]) (n := 3) (Nat.le_of_ble_eq_true rfl)
  rw [lg_entry_eq]
  generalize (lg_sl ([.ref (gA G 213), .int a1]) ++ List.replicate (3 - (lg_sl ([.ref (gA G 213), .int a1])).length) Slot.unset).toArray = ls at hl ⊢
  have hl : lv_has ls 3 [(0, .ref (gA G 213)), (1, .int a1)] := hl
  obtain ⟨res, hres⟩ : ∃ r, r = MX9_ends a1 V := ⟨_, rfl⟩
  rw [← hres]
  show W p l e r_X9_ends s m ([.ref (gA G 213), .int a1] : List Value).toArray below meth c s.heap [] 0 0 (MQ below (gQV G res) ([.ref (gA G 213), .int a1] : List Value).toArray s 0 0 (gF G)) (F0 m 0 ls [])
  have hs : ((a1 = (5 : Int32) → (PX9_ends_57 a1 (gu V 214 ((9 : Int32)).toNatClampNeg ((V 214 ((9 : Int32)).toNatClampNeg) + (V 214 ((4 : Int32)).toNatClampNeg))))) ∧ (¬ a1 = (5 : Int32) → (vp_in (MX9_at a1 (0 : Int32) V) 246) ∧ (vp_in (MX9_at a1 (0 : Int32) V) 246) ∧ (PX9_ends_43 a1 (gu V 214 ((MX9_at a1 (0 : Int32) V)).toNatClampNeg ((V 214 ((MX9_at a1 (0 : Int32) V)).toNatClampNeg) + (V 214 ((4 : Int32)).toNatClampNeg)))))) := hs
  have hres : res = (if a1 = (5 : Int32) then (BX9_ends_57 a1 (gu V 214 ((9 : Int32)).toNatClampNeg ((V 214 ((9 : Int32)).toNatClampNeg) + (V 214 ((4 : Int32)).toNatClampNeg)))) else (BX9_ends_43 a1 (gu V 214 ((MX9_at a1 (0 : Int32) V)).toNatClampNeg ((V 214 ((MX9_at a1 (0 : Int32) V)).toNatClampNeg) + (V 214 ((4 : Int32)).toNatClampNeg))))) := hres
  have b_210 : ∀ (s0 : Int32) (s1 : Int32) (V : gV) (H : Heap) (locs : List Loc) (ls : Array Slot), lv_has ls 3 [] → va_P (gD G) vwCl (gL G V) H → va_S (gF G) s.heap H locs → PX9_ends_210  s0 s1 V → res = BX9_ends_210  s0 s1 V → W p l e r_X9_ends s m ([.ref (gA G 213), .int a1] : List Value).toArray below meth c H locs 0 0 (MQ below (gQV G res) ([.ref (gA G 213), .int a1] : List Value).toArray s 0 0 (gF G)) (F0 m 210 ls [.int s0, .int s1, .ref (gA G 214)]) := by
    intro s0 s1 V H locs ls hl hP hS hs hres
    have hs : (vp_in s1 246) := hs
    have hres : res = ((gu V 214 (s1).toNatClampNeg s0)) := hres
    have ho_9 := hs
    refine gh_iast hx hb hT hP hS 214 (Nat.le_of_ble_eq_true rfl) kd214 ho_9 dX9_ends_210 (fun H locs hP hS => ?_)
    exact gh_vret hx hb hr hlocks hP hS hT hres dX9_ends_211
  have b_178 : ∀  (V : gV) (H : Heap) (locs : List Loc) (ls : Array Slot), lv_has ls 3 [(0, .ref (gA G 213))] → va_P (gD G) vwCl (gL G V) H → va_S (gF G) s.heap H locs → PX9_ends_178   V → res = BX9_ends_178   V → W p l e r_X9_ends s m ([.ref (gA G 213), .int a1] : List Value).toArray below meth c H locs 0 0 (MQ below (gQV G res) ([.ref (gA G 213), .int a1] : List Value).toArray s 0 0 (gF G)) (F0 m 178 ls []) := by
    intro  V H locs ls hl hP hS hs hres
    have hs : (((6 : Int32) ≤ (V 214 ((15 : Int32)).toNatClampNeg) → (PX9_ends_210 (6 : Int32) (15 : Int32) V)) ∧ (¬ (6 : Int32) ≤ (V 214 ((15 : Int32)).toNatClampNeg) → (PX9_ends_210 ((V 214 ((15 : Int32)).toNatClampNeg) + (1 : Int32)) (15 : Int32) V))) := hs
    have hres : res = (if (6 : Int32) ≤ (V 214 ((15 : Int32)).toNatClampNeg) then (BX9_ends_210 (6 : Int32) (15 : Int32) V) else (BX9_ends_210 ((V 214 ((15 : Int32)).toNatClampNeg) + (1 : Int32)) (15 : Int32) V)) := hres
    refine lv_aload_n hx hb dX9_ends_178 rfl (lv_at hl 0 rfl) ?_
    refine gh_get (v := .ref (gA G 214)) (C := RX9) (T := TX9) (N := 11) hx hb hw inlX9 hown hT hP 213 (Nat.le_of_ble_eq_true rfl) kd213 rfl rfl 0 (by decide) (hw _ uw117) rfl dX9_ends_179 ?_
    refine lv_bipush (v := 15) hx hb dX9_ends_182 (by decide) ?_
    refine lv_aload_n hx hb dX9_ends_184 rfl (lv_at hl 0 rfl) ?_
    refine gh_get (v := .ref (gA G 214)) (C := RX9) (T := TX9) (N := 11) hx hb hw inlX9 hown hT hP 213 (Nat.le_of_ble_eq_true rfl) kd213 rfl rfl 0 (by decide) (hw _ uw117) rfl dX9_ends_185 ?_
    refine lv_bipush (v := 15) hx hb dX9_ends_188 (by decide) ?_
    refine gh_iald hx hb hT hP 214 (Nat.le_of_ble_eq_true rfl) kd214 (gh_ci (by decide)) dX9_ends_190 ?_
    refine lv_bipush (v := 6) hx hb dX9_ends_191 (by decide) ?_
    refine lv_icmp_ge (tgt := 208) hx hb dX9_ends_193 (by decide) (fun c_8 => ?_) (fun c_8 => ?_)
    · have hres := hres.trans (if_pos c_8)
      have hs := hs.1 c_8
      refine lv_bipush (v := 6) hx hb dX9_ends_208 (by decide) ?_
      exact b_210 (6 : Int32) (15 : Int32) V _ _ _ (lv_sub hl [] rfl) hP hS hs hres
    have hres := hres.trans (if_neg c_8)
    have hs := hs.2 c_8
    refine lv_aload_n hx hb dX9_ends_196 rfl (lv_at hl 0 rfl) ?_
    refine gh_get (v := .ref (gA G 214)) (C := RX9) (T := TX9) (N := 11) hx hb hw inlX9 hown hT hP 213 (Nat.le_of_ble_eq_true rfl) kd213 rfl rfl 0 (by decide) (hw _ uw117) rfl dX9_ends_197 ?_
    refine lv_bipush (v := 15) hx hb dX9_ends_200 (by decide) ?_
    refine gh_iald hx hb hT hP 214 (Nat.le_of_ble_eq_true rfl) kd214 (gh_ci (by decide)) dX9_ends_202 ?_
    refine lv_iconst (v := 1) hx hb dX9_ends_203 (by decide) ?_
    refine lv_iadd hx hb dX9_ends_204 ?_
    refine lv_goto (tgt := 210) hx hb dX9_ends_205 (by decide) ?_
    exact b_210 ((V 214 ((15 : Int32)).toNatClampNeg) + (1 : Int32)) (15 : Int32) V _ _ _ (lv_sub hl [] rfl) hP hS hs hres
  have b_163 : ∀  (V : gV) (H : Heap) (locs : List Loc) (ls : Array Slot), lv_has ls 3 [(0, .ref (gA G 213))] → va_P (gD G) vwCl (gL G V) H → va_S (gF G) s.heap H locs → PX9_ends_163   V → res = BX9_ends_163   V → W p l e r_X9_ends s m ([.ref (gA G 213), .int a1] : List Value).toArray below meth c H locs 0 0 (MQ below (gQV G res) ([.ref (gA G 213), .int a1] : List Value).toArray s 0 0 (gF G)) (F0 m 163 ls []) := by
    intro  V H locs ls hl hP hS hs hres
    have hs : (PX9_ends_178 (gu V 214 ((225 : Int32)).toNatClampNeg (V 214 ((14 : Int32)).toNatClampNeg))) := hs
    have hres : res = (BX9_ends_178 (gu V 214 ((225 : Int32)).toNatClampNeg (V 214 ((14 : Int32)).toNatClampNeg))) := hres
    refine lv_aload_n hx hb dX9_ends_163 rfl (lv_at hl 0 rfl) ?_
    refine gh_get (v := .ref (gA G 214)) (C := RX9) (T := TX9) (N := 11) hx hb hw inlX9 hown hT hP 213 (Nat.le_of_ble_eq_true rfl) kd213 rfl rfl 0 (by decide) (hw _ uw117) rfl dX9_ends_164 ?_
    refine lv_sipush (v := 225) hx hb dX9_ends_167 (by decide) ?_
    refine lv_aload_n hx hb dX9_ends_170 rfl (lv_at hl 0 rfl) ?_
    refine gh_get (v := .ref (gA G 214)) (C := RX9) (T := TX9) (N := 11) hx hb hw inlX9 hown hT hP 213 (Nat.le_of_ble_eq_true rfl) kd213 rfl rfl 0 (by decide) (hw _ uw117) rfl dX9_ends_171 ?_
    refine lv_bipush (v := 14) hx hb dX9_ends_174 (by decide) ?_
    refine gh_iald hx hb hT hP 214 (Nat.le_of_ble_eq_true rfl) kd214 (gh_ci (by decide)) dX9_ends_176 ?_
    refine gh_iast hx hb hT hP hS 214 (Nat.le_of_ble_eq_true rfl) kd214 (gh_ci (by decide)) dX9_ends_177 (fun H locs hP hS => ?_)
    exact b_178 (gu V 214 ((225 : Int32)).toNatClampNeg (V 214 ((14 : Int32)).toNatClampNeg)) _ _ _ (lv_sub hl [0] rfl) hP hS hs hres
  have b_149 : ∀  (V : gV) (H : Heap) (locs : List Loc) (ls : Array Slot), lv_has ls 3 [(0, .ref (gA G 213))] → va_P (gD G) vwCl (gL G V) H → va_S (gF G) s.heap H locs → PX9_ends_149   V → res = BX9_ends_149   V → W p l e r_X9_ends s m ([.ref (gA G 213), .int a1] : List Value).toArray below meth c H locs 0 0 (MQ below (gQV G res) ([.ref (gA G 213), .int a1] : List Value).toArray s 0 0 (gF G)) (F0 m 149 ls []) := by
    intro  V H locs ls hl hP hS hs hres
    have hs : (PX9_ends_163 (gu V 214 ((224 : Int32)).toNatClampNeg (V 214 ((5 : Int32)).toNatClampNeg))) := hs
    have hres : res = (BX9_ends_163 (gu V 214 ((224 : Int32)).toNatClampNeg (V 214 ((5 : Int32)).toNatClampNeg))) := hres
    refine lv_aload_n hx hb dX9_ends_149 rfl (lv_at hl 0 rfl) ?_
    refine gh_get (v := .ref (gA G 214)) (C := RX9) (T := TX9) (N := 11) hx hb hw inlX9 hown hT hP 213 (Nat.le_of_ble_eq_true rfl) kd213 rfl rfl 0 (by decide) (hw _ uw117) rfl dX9_ends_150 ?_
    refine lv_sipush (v := 224) hx hb dX9_ends_153 (by decide) ?_
    refine lv_aload_n hx hb dX9_ends_156 rfl (lv_at hl 0 rfl) ?_
    refine gh_get (v := .ref (gA G 214)) (C := RX9) (T := TX9) (N := 11) hx hb hw inlX9 hown hT hP 213 (Nat.le_of_ble_eq_true rfl) kd213 rfl rfl 0 (by decide) (hw _ uw117) rfl dX9_ends_157 ?_
    refine lv_iconst (v := 5) hx hb dX9_ends_160 (by decide) ?_
    refine gh_iald hx hb hT hP 214 (Nat.le_of_ble_eq_true rfl) kd214 (gh_ci (by decide)) dX9_ends_161 ?_
    refine gh_iast hx hb hT hP hS 214 (Nat.le_of_ble_eq_true rfl) kd214 (gh_ci (by decide)) dX9_ends_162 (fun H locs hP hS => ?_)
    exact b_163 (gu V 214 ((224 : Int32)).toNatClampNeg (V 214 ((5 : Int32)).toNatClampNeg)) _ _ _ (lv_sub hl [0] rfl) hP hS hs hres
  have b_140 : ∀ (x1 : Int32) (V : gV) (H : Heap) (locs : List Loc) (ls : Array Slot), lv_has ls 3 [(0, .ref (gA G 213)), (1, .int x1)] → va_P (gD G) vwCl (gL G V) H → va_S (gF G) s.heap H locs → PX9_ends_140  x1 V → res = BX9_ends_140  x1 V → W p l e r_X9_ends s m ([.ref (gA G 213), .int a1] : List Value).toArray below meth c H locs 0 0 (MQ below (gQV G res) ([.ref (gA G 213), .int a1] : List Value).toArray s 0 0 (gF G)) (F0 m 140 ls []) := by
    intro x1 V H locs ls hl hP hS hs hres
    have hs : (PX9_ends_149 (gu V 214 ((223 : Int32)).toNatClampNeg x1)) := hs
    have hres : res = (BX9_ends_149 (gu V 214 ((223 : Int32)).toNatClampNeg x1)) := hres
    refine lv_aload_n hx hb dX9_ends_140 rfl (lv_at hl 0 rfl) ?_
    refine gh_get (v := .ref (gA G 214)) (C := RX9) (T := TX9) (N := 11) hx hb hw inlX9 hown hT hP 213 (Nat.le_of_ble_eq_true rfl) kd213 rfl rfl 0 (by decide) (hw _ uw117) rfl dX9_ends_141 ?_
    refine lv_sipush (v := 223) hx hb dX9_ends_144 (by decide) ?_
    refine lv_iload_n hx hb dX9_ends_147 rfl (lv_at hl 1 rfl) ?_
    refine gh_iast hx hb hT hP hS 214 (Nat.le_of_ble_eq_true rfl) kd214 (gh_ci (by decide)) dX9_ends_148 (fun H locs hP hS => ?_)
    exact b_149 (gu V 214 ((223 : Int32)).toNatClampNeg x1) _ _ _ (lv_sub hl [0] rfl) hP hS hs hres
  have b_98 : ∀ (n : Nat) (x1 : Int32) (x2 : Int32) (V : gV) (H : Heap) (locs : List Loc) (ls : Array Slot), lv_has ls 3 [(0, .ref (gA G 213)), (1, .int x1), (2, .int x2)] → va_P (gD G) vwCl (gL G V) H → va_S (gF G) s.heap H locs → PX9_ends_98  n x1 x2 V → res = BX9_ends_98  n x1 x2 V → W p l e r_X9_ends s m ([.ref (gA G 213), .int a1] : List Value).toArray below meth c H locs 0 0 (MQ below (gQV G res) ([.ref (gA G 213), .int a1] : List Value).toArray s 0 0 (gF G)) (F0 m 98 ls []) := by
    intro n
    induction n with
    | zero =>
      intro x1 x2 V H locs ls hl hP hS hs hres
      exact (show False from hs).elim
    | succ n98 ih98 =>
      have b_119 : ∀ (x1 : Int32) (x2 : Int32) (V : gV) (H : Heap) (locs : List Loc) (ls : Array Slot), lv_has ls 3 [(0, .ref (gA G 213)), (1, .int x1), (2, .int x2)] → va_P (gD G) vwCl (gL G V) H → va_S (gF G) s.heap H locs → PX9_ends_119 (PX9_ends_98 n98) x1 x2 V → res = BX9_ends_119 (BX9_ends_98 n98) x1 x2 V → W p l e r_X9_ends s m ([.ref (gA G 213), .int a1] : List Value).toArray below meth c H locs 0 0 (MQ below (gQV G res) ([.ref (gA G 213), .int a1] : List Value).toArray s 0 0 (gF G)) (F0 m 119 ls []) := by
        intro x1 x2 V H locs ls hl hP hS hs hres
        have hs : ((PX9_ends_98 n98) x1 (x2 + (-1 : Int32)) V) := hs
        have hres : res = ((BX9_ends_98 n98) x1 (x2 + (-1 : Int32)) V) := hres
        refine lv_iinc (v := (x2 + (-1 : Int32))) (lv' := [(2, .int (x2 + (-1 : Int32))), (0, .ref (gA G 213)), (1, .int x1)]) hx hb dX9_ends_119 hl (k := 2) rfl rfl (by decide) rfl (fun ls hl => ?_)
        refine lv_goto (tgt := 98) hx hb dX9_ends_122 (by decide) ?_
        exact ih98 x1 (x2 + (-1 : Int32)) V _ _ _ (lv_sub hl [1, 2, 0] rfl) hP hS hs hres
      intro x1 x2 V H locs ls hl hP hS hs hres
      have hs : ((x2 < (226 : Int32) → (PX9_ends_140 x1 (gu V 214 ((222 : Int32)).toNatClampNeg (V 214 ((13 : Int32)).toNatClampNeg)))) ∧ (¬ x2 < (226 : Int32) → (vp_in (x2 - (4 : Int32)) 246) ∧ (vp_in x2 246) ∧ (PX9_ends_119 (PX9_ends_98 n98) x1 x2 (gu V 214 (x2).toNatClampNeg (V 214 ((x2 - (4 : Int32))).toNatClampNeg))))) := hs
      have hres : res = (if x2 < (226 : Int32) then (BX9_ends_140 x1 (gu V 214 ((222 : Int32)).toNatClampNeg (V 214 ((13 : Int32)).toNatClampNeg))) else (BX9_ends_119 (BX9_ends_98 n98) x1 x2 (gu V 214 (x2).toNatClampNeg (V 214 ((x2 - (4 : Int32))).toNatClampNeg)))) := hres
      refine lv_iload_n hx hb dX9_ends_98 rfl (lv_at hl 2 rfl) ?_
      refine lv_sipush (v := 226) hx hb dX9_ends_99 (by decide) ?_
      refine lv_icmp_lt (tgt := 125) hx hb dX9_ends_102 (by decide) (fun c_7 => ?_) (fun c_7 => ?_)
      · have hres := hres.trans (if_pos c_7)
        have hs := hs.1 c_7
        refine lv_aload_n hx hb dX9_ends_125 rfl (lv_at hl 0 rfl) ?_
        refine gh_get (v := .ref (gA G 214)) (C := RX9) (T := TX9) (N := 11) hx hb hw inlX9 hown hT hP 213 (Nat.le_of_ble_eq_true rfl) kd213 rfl rfl 0 (by decide) (hw _ uw117) rfl dX9_ends_126 ?_
        refine lv_sipush (v := 222) hx hb dX9_ends_129 (by decide) ?_
        refine lv_aload_n hx hb dX9_ends_132 rfl (lv_at hl 0 rfl) ?_
        refine gh_get (v := .ref (gA G 214)) (C := RX9) (T := TX9) (N := 11) hx hb hw inlX9 hown hT hP 213 (Nat.le_of_ble_eq_true rfl) kd213 rfl rfl 0 (by decide) (hw _ uw117) rfl dX9_ends_133 ?_
        refine lv_bipush (v := 13) hx hb dX9_ends_136 (by decide) ?_
        refine gh_iald hx hb hT hP 214 (Nat.le_of_ble_eq_true rfl) kd214 (gh_ci (by decide)) dX9_ends_138 ?_
        refine gh_iast hx hb hT hP hS 214 (Nat.le_of_ble_eq_true rfl) kd214 (gh_ci (by decide)) dX9_ends_139 (fun H locs hP hS => ?_)
        exact b_140 x1 (gu V 214 ((222 : Int32)).toNatClampNeg (V 214 ((13 : Int32)).toNatClampNeg)) _ _ _ (lv_sub hl [0, 1] rfl) hP hS hs hres
      have hres := hres.trans (if_neg c_7)
      have hs := hs.2 c_7
      refine lv_aload_n hx hb dX9_ends_105 rfl (lv_at hl 0 rfl) ?_
      refine gh_get (v := .ref (gA G 214)) (C := RX9) (T := TX9) (N := 11) hx hb hw inlX9 hown hT hP 213 (Nat.le_of_ble_eq_true rfl) kd213 rfl rfl 0 (by decide) (hw _ uw117) rfl dX9_ends_106 ?_
      refine lv_iload_n hx hb dX9_ends_109 rfl (lv_at hl 2 rfl) ?_
      refine lv_aload_n hx hb dX9_ends_110 rfl (lv_at hl 0 rfl) ?_
      refine gh_get (v := .ref (gA G 214)) (C := RX9) (T := TX9) (N := 11) hx hb hw inlX9 hown hT hP 213 (Nat.le_of_ble_eq_true rfl) kd213 rfl rfl 0 (by decide) (hw _ uw117) rfl dX9_ends_111 ?_
      refine lv_iload_n hx hb dX9_ends_114 rfl (lv_at hl 2 rfl) ?_
      refine lv_iconst (v := 4) hx hb dX9_ends_115 (by decide) ?_
      refine lv_isub hx hb dX9_ends_116 ?_
      obtain ⟨ho_10, hs⟩ := hs
      refine gh_iald hx hb hT hP 214 (Nat.le_of_ble_eq_true rfl) kd214 ho_10 dX9_ends_117 ?_
      obtain ⟨ho_11, hs⟩ := hs
      refine gh_iast hx hb hT hP hS 214 (Nat.le_of_ble_eq_true rfl) kd214 ho_11 dX9_ends_118 (fun H locs hP hS => ?_)
      exact b_119 x1 x2 (gu V 214 (x2).toNatClampNeg (V 214 ((x2 - (4 : Int32))).toNatClampNeg)) _ _ _ (lv_sub hl [0, 1, 2] rfl) hP hS hs hres
  have b_66 : ∀ (n : Nat) (x1 : Int32) (x2 : Int32) (V : gV) (H : Heap) (locs : List Loc) (ls : Array Slot), lv_has ls 3 [(0, .ref (gA G 213)), (1, .int x1), (2, .int x2)] → va_P (gD G) vwCl (gL G V) H → va_S (gF G) s.heap H locs → PX9_ends_66  n x1 x2 V → res = BX9_ends_66  n x1 x2 V → W p l e r_X9_ends s m ([.ref (gA G 213), .int a1] : List Value).toArray below meth c H locs 0 0 (MQ below (gQV G res) ([.ref (gA G 213), .int a1] : List Value).toArray s 0 0 (gF G)) (F0 m 66 ls []) := by
    intro n
    induction n with
    | zero =>
      intro x1 x2 V H locs ls hl hP hS hs hres
      exact (show False from hs).elim
    | succ n66 ih66 =>
      have b_88 : ∀ (x1 : Int32) (x2 : Int32) (V : gV) (H : Heap) (locs : List Loc) (ls : Array Slot), lv_has ls 3 [(0, .ref (gA G 213)), (1, .int x1), (2, .int x2)] → va_P (gD G) vwCl (gL G V) H → va_S (gF G) s.heap H locs → PX9_ends_88 (PX9_ends_66 n66) x1 x2 V → res = BX9_ends_88 (BX9_ends_66 n66) x1 x2 V → W p l e r_X9_ends s m ([.ref (gA G 213), .int a1] : List Value).toArray below meth c H locs 0 0 (MQ below (gQV G res) ([.ref (gA G 213), .int a1] : List Value).toArray s 0 0 (gF G)) (F0 m 88 ls []) := by
        intro x1 x2 V H locs ls hl hP hS hs hres
        have hs : ((PX9_ends_66 n66) x1 (x2 + (1 : Int32)) V) := hs
        have hres : res = ((BX9_ends_66 n66) x1 (x2 + (1 : Int32)) V) := hres
        refine lv_iinc (v := (x2 + (1 : Int32))) (lv' := [(2, .int (x2 + (1 : Int32))), (0, .ref (gA G 213)), (1, .int x1)]) hx hb dX9_ends_88 hl (k := 2) rfl rfl (by decide) rfl (fun ls hl => ?_)
        refine lv_goto (tgt := 66) hx hb dX9_ends_91 (by decide) ?_
        exact ih66 x1 (x2 + (1 : Int32)) V _ _ _ (lv_sub hl [1, 2, 0] rfl) hP hS hs hres
      intro x1 x2 V H locs ls hl hP hS hs hres
      have hs : (((V 214 ((1 : Int32)).toNatClampNeg) ≤ x2 → (PX9_ends_98 1000 x1 (245 : Int32) V)) ∧ (¬ (V 214 ((1 : Int32)).toNatClampNeg) ≤ x2 → (vp_in (MX9_at x2 (4 : Int32) V) 246) ∧ (PX9_ends_88 (PX9_ends_66 n66) x1 x2 (gu V 214 ((MX9_at x2 (4 : Int32) V)).toNatClampNeg (26 : Int32))))) := hs
      have hres : res = (if (V 214 ((1 : Int32)).toNatClampNeg) ≤ x2 then (BX9_ends_98 1000 x1 (245 : Int32) V) else (BX9_ends_88 (BX9_ends_66 n66) x1 x2 (gu V 214 ((MX9_at x2 (4 : Int32) V)).toNatClampNeg (26 : Int32)))) := hres
      refine lv_iload_n hx hb dX9_ends_66 rfl (lv_at hl 2 rfl) ?_
      refine lv_aload_n hx hb dX9_ends_67 rfl (lv_at hl 0 rfl) ?_
      refine gh_get (v := .ref (gA G 214)) (C := RX9) (T := TX9) (N := 11) hx hb hw inlX9 hown hT hP 213 (Nat.le_of_ble_eq_true rfl) kd213 rfl rfl 0 (by decide) (hw _ uw117) rfl dX9_ends_68 ?_
      refine lv_iconst (v := 1) hx hb dX9_ends_71 (by decide) ?_
      refine gh_iald hx hb hT hP 214 (Nat.le_of_ble_eq_true rfl) kd214 (gh_ci (by decide)) dX9_ends_72 ?_
      refine lv_icmp_ge (tgt := 94) hx hb dX9_ends_73 (by decide) (fun c_6 => ?_) (fun c_6 => ?_)
      · have hres := hres.trans (if_pos c_6)
        have hs := hs.1 c_6
        refine lv_sipush (v := 245) hx hb dX9_ends_94 (by decide) ?_
        refine lv_istore_n (lv' := [(2, .int (245 : Int32)), (0, .ref (gA G 213)), (1, .int x1)]) hx hb dX9_ends_97 rfl hl (by decide) rfl (fun ls hl => ?_)
        exact b_98 1000 x1 (245 : Int32) V _ _ _ (lv_sub hl [1, 2, 0] rfl) hP hS hs hres
      have hres := hres.trans (if_neg c_6)
      have hs := hs.2 c_6
      refine lv_aload_n hx hb dX9_ends_76 rfl (lv_at hl 0 rfl) ?_
      refine gh_get (v := .ref (gA G 214)) (C := RX9) (T := TX9) (N := 11) hx hb hw inlX9 hown hT hP 213 (Nat.le_of_ble_eq_true rfl) kd213 rfl rfl 0 (by decide) (hw _ uw117) rfl dX9_ends_77 ?_
      refine lv_iload_n hx hb dX9_ends_80 rfl (lv_at hl 2 rfl) ?_
      refine lv_iconst (v := 4) hx hb dX9_ends_81 (by decide) ?_
      refine gh_kr (va_runS (As := [.int x2, .int (4 : Int32)]) (rest := [.ref (gA G 214)]) ⟨hx, hb, hml, hown, hw⟩ (cc_X9_at l G V x2 (4 : Int32)) (va_cwS 2 hw gv_RX9_51 rfl rfl rfl dd_X9_at.2 ⟨Nat.le_of_ble_eq_true rfl, Nat.le_of_ble_eq_true rfl⟩) (gh_pre hT hP) rfl rfl hl.1 rfl (lv_room (Nat.le_of_ble_eq_true rfl)) dX9_ends_82 ⟨Nat.zero_le _, Nat.zero_le _⟩) hS (fun H locs hP hS => ?_)
      refine lv_bipush (v := 26) hx hb dX9_ends_85 (by decide) ?_
      obtain ⟨ho_12, hs⟩ := hs
      refine gh_iast hx hb hT hP hS 214 (Nat.le_of_ble_eq_true rfl) kd214 ho_12 dX9_ends_87 (fun H locs hP hS => ?_)
      exact b_88 x1 x2 (gu V 214 ((MX9_at x2 (4 : Int32) V)).toNatClampNeg (26 : Int32)) _ _ _ (lv_sub hl [0, 1, 2] rfl) hP hS hs hres
  have b_64 : ∀ (x1 : Int32) (V : gV) (H : Heap) (locs : List Loc) (ls : Array Slot), lv_has ls 3 [(0, .ref (gA G 213)), (1, .int x1)] → va_P (gD G) vwCl (gL G V) H → va_S (gF G) s.heap H locs → PX9_ends_64  x1 V → res = BX9_ends_64  x1 V → W p l e r_X9_ends s m ([.ref (gA G 213), .int a1] : List Value).toArray below meth c H locs 0 0 (MQ below (gQV G res) ([.ref (gA G 213), .int a1] : List Value).toArray s 0 0 (gF G)) (F0 m 64 ls []) := by
    intro x1 V H locs ls hl hP hS hs hres
    have hs : (PX9_ends_66 1000 x1 (0 : Int32) V) := hs
    have hres : res = (BX9_ends_66 1000 x1 (0 : Int32) V) := hres
    refine lv_iconst (v := 0) hx hb dX9_ends_64 (by decide) ?_
    refine lv_istore_n (lv' := [(2, .int (0 : Int32)), (0, .ref (gA G 213)), (1, .int x1)]) hx hb dX9_ends_65 rfl hl (by decide) rfl (fun ls hl => ?_)
    exact b_66 1000 x1 (0 : Int32) V _ _ _ (lv_sub hl [1, 2, 0] rfl) hP hS hs hres
  have b_57 : ∀ (x1 : Int32) (V : gV) (H : Heap) (locs : List Loc) (ls : Array Slot), lv_has ls 3 [(0, .ref (gA G 213)), (1, .int x1)] → va_P (gD G) vwCl (gL G V) H → va_S (gF G) s.heap H locs → PX9_ends_57  x1 V → res = BX9_ends_57  x1 V → W p l e r_X9_ends s m ([.ref (gA G 213), .int a1] : List Value).toArray below meth c H locs 0 0 (MQ below (gQV G res) ([.ref (gA G 213), .int a1] : List Value).toArray s 0 0 (gF G)) (F0 m 57 ls []) := by
    intro x1 V H locs ls hl hP hS hs hres
    have hs : (PX9_ends_64 x1 (gu V 214 ((2 : Int32)).toNatClampNeg (0 : Int32))) := hs
    have hres : res = (BX9_ends_64 x1 (gu V 214 ((2 : Int32)).toNatClampNeg (0 : Int32))) := hres
    refine lv_aload_n hx hb dX9_ends_57 rfl (lv_at hl 0 rfl) ?_
    refine gh_get (v := .ref (gA G 214)) (C := RX9) (T := TX9) (N := 11) hx hb hw inlX9 hown hT hP 213 (Nat.le_of_ble_eq_true rfl) kd213 rfl rfl 0 (by decide) (hw _ uw117) rfl dX9_ends_58 ?_
    refine lv_iconst (v := 2) hx hb dX9_ends_61 (by decide) ?_
    refine lv_iconst (v := 0) hx hb dX9_ends_62 (by decide) ?_
    refine gh_iast hx hb hT hP hS 214 (Nat.le_of_ble_eq_true rfl) kd214 (gh_ci (by decide)) dX9_ends_63 (fun H locs hP hS => ?_)
    exact b_64 x1 (gu V 214 ((2 : Int32)).toNatClampNeg (0 : Int32)) _ _ _ (lv_sub hl [0, 1] rfl) hP hS hs hres
  have b_43 : ∀ (x1 : Int32) (V : gV) (H : Heap) (locs : List Loc) (ls : Array Slot), lv_has ls 3 [(0, .ref (gA G 213)), (1, .int x1)] → va_P (gD G) vwCl (gL G V) H → va_S (gF G) s.heap H locs → PX9_ends_43  x1 V → res = BX9_ends_43  x1 V → W p l e r_X9_ends s m ([.ref (gA G 213), .int a1] : List Value).toArray below meth c H locs 0 0 (MQ below (gQV G res) ([.ref (gA G 213), .int a1] : List Value).toArray s 0 0 (gF G)) (F0 m 43 ls []) := by
    intro x1 V H locs ls hl hP hS hs hres
    have hs : (vp_in (MX9_at x1 (1 : Int32) V) 246) ∧ (vp_in (MX9_at x1 (1 : Int32) V) 246) ∧ (PX9_ends_57 x1 (gu V 214 ((MX9_at x1 (1 : Int32) V)).toNatClampNeg ((V 214 ((MX9_at x1 (1 : Int32) V)).toNatClampNeg) + (1 : Int32)))) := hs
    have hres : res = (BX9_ends_57 x1 (gu V 214 ((MX9_at x1 (1 : Int32) V)).toNatClampNeg ((V 214 ((MX9_at x1 (1 : Int32) V)).toNatClampNeg) + (1 : Int32)))) := hres
    refine lv_aload_n hx hb dX9_ends_43 rfl (lv_at hl 0 rfl) ?_
    refine gh_get (v := .ref (gA G 214)) (C := RX9) (T := TX9) (N := 11) hx hb hw inlX9 hown hT hP 213 (Nat.le_of_ble_eq_true rfl) kd213 rfl rfl 0 (by decide) (hw _ uw117) rfl dX9_ends_44 ?_
    refine lv_iload_n hx hb dX9_ends_47 rfl (lv_at hl 1 rfl) ?_
    refine lv_iconst (v := 1) hx hb dX9_ends_48 (by decide) ?_
    refine gh_kr (va_runS (As := [.int x1, .int (1 : Int32)]) (rest := [.ref (gA G 214)]) ⟨hx, hb, hml, hown, hw⟩ (cc_X9_at l G V x1 (1 : Int32)) (va_cwS 2 hw gv_RX9_51 rfl rfl rfl dd_X9_at.2 ⟨Nat.le_of_ble_eq_true rfl, Nat.le_of_ble_eq_true rfl⟩) (gh_pre hT hP) rfl rfl hl.1 rfl (lv_room (Nat.le_of_ble_eq_true rfl)) dX9_ends_49 ⟨Nat.zero_le _, Nat.zero_le _⟩) hS (fun H locs hP hS => ?_)
    refine lv_dup2_11 hx hb dX9_ends_52 rfl rfl ?_
    obtain ⟨ho_4, hs⟩ := hs
    refine gh_iald hx hb hT hP 214 (Nat.le_of_ble_eq_true rfl) kd214 ho_4 dX9_ends_53 ?_
    refine lv_iconst (v := 1) hx hb dX9_ends_54 (by decide) ?_
    refine lv_iadd hx hb dX9_ends_55 ?_
    obtain ⟨ho_5, hs⟩ := hs
    refine gh_iast hx hb hT hP hS 214 (Nat.le_of_ble_eq_true rfl) kd214 ho_5 dX9_ends_56 (fun H locs hP hS => ?_)
    exact b_57 x1 (gu V 214 ((MX9_at x1 (1 : Int32) V)).toNatClampNeg ((V 214 ((MX9_at x1 (1 : Int32) V)).toNatClampNeg) + (1 : Int32))) _ _ _ (lv_sub hl [0, 1] rfl) hP hS hs hres
  refine lv_iload_n hx hb dX9_ends_0 rfl (lv_at hl 1 rfl) ?_
  refine lv_iconst (v := 5) hx hb dX9_ends_1 (by decide) ?_
  refine lv_icmp_ne (tgt := 24) hx hb dX9_ends_2 (by decide) (fun c_1 => ?_) (fun c_1 => ?_)
  · have hres := hres.trans (if_neg c_1)
    have hs := hs.2 c_1
    refine lv_aload_n hx hb dX9_ends_24 rfl (lv_at hl 0 rfl) ?_
    refine gh_get (v := .ref (gA G 214)) (C := RX9) (T := TX9) (N := 11) hx hb hw inlX9 hown hT hP 213 (Nat.le_of_ble_eq_true rfl) kd213 rfl rfl 0 (by decide) (hw _ uw117) rfl dX9_ends_25 ?_
    refine lv_iload_n hx hb dX9_ends_28 rfl (lv_at hl 1 rfl) ?_
    refine lv_iconst (v := 0) hx hb dX9_ends_29 (by decide) ?_
    refine gh_kr (va_runS (As := [.int a1, .int (0 : Int32)]) (rest := [.ref (gA G 214)]) ⟨hx, hb, hml, hown, hw⟩ (cc_X9_at l G V a1 (0 : Int32)) (va_cwS 2 hw gv_RX9_51 rfl rfl rfl dd_X9_at.2 ⟨Nat.le_of_ble_eq_true rfl, Nat.le_of_ble_eq_true rfl⟩) (gh_pre hT hP) rfl rfl hl.1 rfl (lv_room (Nat.le_of_ble_eq_true rfl)) dX9_ends_30 ⟨Nat.zero_le _, Nat.zero_le _⟩) hS (fun H locs hP hS => ?_)
    refine lv_dup2_11 hx hb dX9_ends_33 rfl rfl ?_
    obtain ⟨ho_2, hs⟩ := hs
    refine gh_iald hx hb hT hP 214 (Nat.le_of_ble_eq_true rfl) kd214 ho_2 dX9_ends_34 ?_
    refine lv_aload_n hx hb dX9_ends_35 rfl (lv_at hl 0 rfl) ?_
    refine gh_get (v := .ref (gA G 214)) (C := RX9) (T := TX9) (N := 11) hx hb hw inlX9 hown hT hP 213 (Nat.le_of_ble_eq_true rfl) kd213 rfl rfl 0 (by decide) (hw _ uw117) rfl dX9_ends_36 ?_
    refine lv_iconst (v := 4) hx hb dX9_ends_39 (by decide) ?_
    refine gh_iald hx hb hT hP 214 (Nat.le_of_ble_eq_true rfl) kd214 (gh_ci (by decide)) dX9_ends_40 ?_
    refine lv_iadd hx hb dX9_ends_41 ?_
    obtain ⟨ho_3, hs⟩ := hs
    refine gh_iast hx hb hT hP hS 214 (Nat.le_of_ble_eq_true rfl) kd214 ho_3 dX9_ends_42 (fun H locs hP hS => ?_)
    exact b_43 a1 (gu V 214 ((MX9_at a1 (0 : Int32) V)).toNatClampNeg ((V 214 ((MX9_at a1 (0 : Int32) V)).toNatClampNeg) + (V 214 ((4 : Int32)).toNatClampNeg))) _ _ _ (lv_sub hl [0, 1] rfl) hP hS hs hres
  have hres := hres.trans (if_pos c_1)
  have hs := hs.1 c_1
  refine lv_aload_n hx hb dX9_ends_5 rfl (lv_at hl 0 rfl) ?_
  refine gh_get (v := .ref (gA G 214)) (C := RX9) (T := TX9) (N := 11) hx hb hw inlX9 hown hT hP 213 (Nat.le_of_ble_eq_true rfl) kd213 rfl rfl 0 (by decide) (hw _ uw117) rfl dX9_ends_6 ?_
  refine lv_bipush (v := 9) hx hb dX9_ends_9 (by decide) ?_
  refine lv_dup2_11 hx hb dX9_ends_11 rfl rfl ?_
  refine gh_iald hx hb hT hP 214 (Nat.le_of_ble_eq_true rfl) kd214 (gh_ci (by decide)) dX9_ends_12 ?_
  refine lv_aload_n hx hb dX9_ends_13 rfl (lv_at hl 0 rfl) ?_
  refine gh_get (v := .ref (gA G 214)) (C := RX9) (T := TX9) (N := 11) hx hb hw inlX9 hown hT hP 213 (Nat.le_of_ble_eq_true rfl) kd213 rfl rfl 0 (by decide) (hw _ uw117) rfl dX9_ends_14 ?_
  refine lv_iconst (v := 4) hx hb dX9_ends_17 (by decide) ?_
  refine gh_iald hx hb hT hP 214 (Nat.le_of_ble_eq_true rfl) kd214 (gh_ci (by decide)) dX9_ends_18 ?_
  refine lv_iadd hx hb dX9_ends_19 ?_
  refine gh_iast hx hb hT hP hS 214 (Nat.le_of_ble_eq_true rfl) kd214 (gh_ci (by decide)) dX9_ends_20 (fun H locs hP hS => ?_)
  refine lv_goto (tgt := 57) hx hb dX9_ends_21 (by decide) ?_
  exact b_57 a1 (gu V 214 ((9 : Int32)).toNatClampNeg ((V 214 ((9 : Int32)).toNatClampNeg) + (V 214 ((4 : Int32)).toNatClampNeg))) _ _ _ (lv_sub hl [0, 1] rfl) hP hS hs hres
theorem gv_RX9_78 : GoodIn wsL_law (wsV RX9 78 RX9 yX9_ends wc_X9_ends) := gh_gV uw463 uw464 uw465 uw5 uw466
def BX9_misses_50    (V : gV) : gV := if (V 214 ((5 : Int32)).toNatClampNeg) = (V 214 ((11 : Int32)).toNatClampNeg) then ((MX9_ends (5 : Int32) V)) else (V)
def PX9_misses_50    (V : gV) : Prop := (((V 214 ((5 : Int32)).toNatClampNeg) = (V 214 ((11 : Int32)).toNatClampNeg) → (PX9_ends (5 : Int32) V)))
def BX9_misses_29    (V : gV) : gV := BX9_misses_50 (gu V 214 ((3 : Int32)).toNatClampNeg (((V 214 ((3 : Int32)).toNatClampNeg) + (1 : Int32)) - ((V 214 ((3 : Int32)).toNatClampNeg) + (1 : Int32)) / (V 214 ((1 : Int32)).toNatClampNeg) * (V 214 ((1 : Int32)).toNatClampNeg)))
def PX9_misses_29    (V : gV) : Prop := (¬ (V 214 ((1 : Int32)).toNatClampNeg) = 0) ∧ (PX9_misses_50 (gu V 214 ((3 : Int32)).toNatClampNeg (((V 214 ((3 : Int32)).toNatClampNeg) + (1 : Int32)) - ((V 214 ((3 : Int32)).toNatClampNeg) + (1 : Int32)) / (V 214 ((1 : Int32)).toNatClampNeg) * (V 214 ((1 : Int32)).toNatClampNeg))))
def BX9_misses_10    (V : gV) : gV := BX9_misses_29 (gu V 214 ((MX9_at (V 214 ((3 : Int32)).toNatClampNeg) (3 : Int32) V)).toNatClampNeg ((V 214 ((MX9_at (V 214 ((3 : Int32)).toNatClampNeg) (3 : Int32) V)).toNatClampNeg) + (1 : Int32)))
def PX9_misses_10    (V : gV) : Prop := (vp_in (MX9_at (V 214 ((3 : Int32)).toNatClampNeg) (3 : Int32) V) 246) ∧ (vp_in (MX9_at (V 214 ((3 : Int32)).toNatClampNeg) (3 : Int32) V) 246) ∧ (PX9_misses_29 (gu V 214 ((MX9_at (V 214 ((3 : Int32)).toNatClampNeg) (3 : Int32) V)).toNatClampNeg ((V 214 ((MX9_at (V 214 ((3 : Int32)).toNatClampNeg) (3 : Int32) V)).toNatClampNeg) + (1 : Int32))))
def MX9_misses   (V : gV) : gV := BX9_misses_10 (gu V 214 ((5 : Int32)).toNatClampNeg ((V 214 ((5 : Int32)).toNatClampNeg) + (1 : Int32)))
def PX9_misses   (V : gV) : Prop := (PX9_misses_10 (gu V 214 ((5 : Int32)).toNatClampNeg ((V 214 ((5 : Int32)).toNatClampNeg) + (1 : Int32))))
abbrev wc_X9_misses : List Cond := Cond.code yX9_misses cX9_misses 1 none :: wsL_law
abbrev r_X9_misses : Room := { frames := 2, cells := 0, slots := 0, locals := 43 }
theorem dd_X9_misses : yX9_misses.cls = RX9 ∧ yX9_misses.cls ≠ "java/lang/invoke/MethodHandle" ∧ yX9_misses.cls ≠ "java/lang/invoke/VarHandle" ∧ (parseMethodDescriptor yX9_misses.desc).map (fun d => d.parameters.length) = some 0 := by decide +kernel
set_option maxHeartbeats 8000000 in
set_option maxRecDepth 100000 in
theorem cc_X9_misses (l : Launch) (G : gG) (V : gV)    (hs : PX9_misses V) : Met l yX9_misses wc_X9_misses r_X9_misses (va_Pc [.ref (gA G 213)] (gW G V)) (gQV G (MX9_misses V)) 0 0 (gF G) := by
  refine Met.ofW (cc := cX9_misses) (maxL := 1) (ret := none) (by decide) rfl ?_
  intro p e s m args below meth c s₁ B hml hv
  obtain ⟨rfl, hP, hT⟩ := hv
  have hx := B.exec
  have hb := B.bytes
  have hr := B.returns
  have hw := gh_hw (atoms_spec (ws := wc_X9_misses) B.pre)
  have hown : s.vm.findClass RX9 = some m.cls := findClass_of_methodNamed B.named
  have hlocks := B.notSynchronized
  have hS : va_S (gF G) s.heap s.heap [] := va_S.rf
  have hl := lv_entry ([.ref (gA G 213)]) (n := 1) (Nat.le_of_ble_eq_true rfl)
  rw [lg_entry_eq]
  generalize (lg_sl ([.ref (gA G 213)]) ++ List.replicate (1 - (lg_sl ([.ref (gA G 213)])).length) Slot.unset).toArray = ls at hl ⊢
  have hl : lv_has ls 1 [(0, .ref (gA G 213))] := hl
  obtain ⟨res, hres⟩ : ∃ r, r = MX9_misses V := ⟨_, rfl⟩
  rw [← hres]
  show W p l e r_X9_misses s m ([.ref (gA G 213)] : List Value).toArray below meth c s.heap [] 0 0 (MQ below (gQV G res) ([.ref (gA G 213)] : List Value).toArray s 0 0 (gF G)) (F0 m 0 ls [])
  have hs : (PX9_misses_10 (gu V 214 ((5 : Int32)).toNatClampNeg ((V 214 ((5 : Int32)).toNatClampNeg) + (1 : Int32)))) := hs
  have hres : res = (BX9_misses_10 (gu V 214 ((5 : Int32)).toNatClampNeg ((V 214 ((5 : Int32)).toNatClampNeg) + (1 : Int32)))) := hres
  have b_50 : ∀  (V : gV) (H : Heap) (locs : List Loc) (ls : Array Slot), lv_has ls 1 [(0, .ref (gA G 213))] → va_P (gD G) vwCl (gL G V) H → va_S (gF G) s.heap H locs → PX9_misses_50   V → res = BX9_misses_50   V → W p l e r_X9_misses s m ([.ref (gA G 213)] : List Value).toArray below meth c H locs 0 0 (MQ below (gQV G res) ([.ref (gA G 213)] : List Value).toArray s 0 0 (gF G)) (F0 m 50 ls []) := by
    intro  V H locs ls hl hP hS hs hres
    have hs : (((V 214 ((5 : Int32)).toNatClampNeg) = (V 214 ((11 : Int32)).toNatClampNeg) → (PX9_ends (5 : Int32) V))) := hs
    have hres : res = (if (V 214 ((5 : Int32)).toNatClampNeg) = (V 214 ((11 : Int32)).toNatClampNeg) then ((MX9_ends (5 : Int32) V)) else (V)) := hres
    refine lv_aload_n hx hb dX9_misses_50 rfl (lv_at hl 0 rfl) ?_
    refine gh_get (v := .ref (gA G 214)) (C := RX9) (T := TX9) (N := 11) hx hb hw inlX9 hown hT hP 213 (Nat.le_of_ble_eq_true rfl) kd213 rfl rfl 0 (by decide) (hw _ uw117) rfl dX9_misses_51 ?_
    refine lv_iconst (v := 5) hx hb dX9_misses_54 (by decide) ?_
    refine gh_iald hx hb hT hP 214 (Nat.le_of_ble_eq_true rfl) kd214 (gh_ci (by decide)) dX9_misses_55 ?_
    refine lv_aload_n hx hb dX9_misses_56 rfl (lv_at hl 0 rfl) ?_
    refine gh_get (v := .ref (gA G 214)) (C := RX9) (T := TX9) (N := 11) hx hb hw inlX9 hown hT hP 213 (Nat.le_of_ble_eq_true rfl) kd213 rfl rfl 0 (by decide) (hw _ uw117) rfl dX9_misses_57 ?_
    refine lv_bipush (v := 11) hx hb dX9_misses_60 (by decide) ?_
    refine gh_iald hx hb hT hP 214 (Nat.le_of_ble_eq_true rfl) kd214 (gh_ci (by decide)) dX9_misses_62 ?_
    refine lv_icmp_ne (tgt := 71) hx hb dX9_misses_63 (by decide) (fun c_4 => ?_) (fun c_4 => ?_)
    · have hres := hres.trans (if_neg c_4)
      exact gh_vret hx hb hr hlocks hP hS hT hres dX9_misses_71
    have hres := hres.trans (if_pos c_4)
    have hs := hs c_4
    refine lv_aload_n hx hb dX9_misses_66 rfl (lv_at hl 0 rfl) ?_
    refine lv_iconst (v := 5) hx hb dX9_misses_67 (by decide) ?_
    have ho_5 := hs
    refine gh_kv (va_runV (As := [.int (5 : Int32)]) (rest := []) ⟨hx, hb, hml, hown, hw⟩ (cc_X9_ends l G V (5 : Int32) ho_5) (cwV 1 hw gv_RX9_78 rfl rfl rfl dd_X9_ends ⟨Nat.le_of_ble_eq_true rfl, Nat.le_of_ble_eq_true rfl⟩) (gh_preV hT hP (Nat.le_of_ble_eq_true rfl) kd213 rfl rfl) rfl rfl hl.1 rfl (lv_room (Nat.le_of_ble_eq_true rfl)) dX9_misses_68 ⟨Nat.zero_le _, Nat.zero_le _⟩) hS (fun H locs hP hS => ?_)
    exact gh_vret hx hb hr hlocks hP hS hT hres dX9_misses_71
  have b_29 : ∀  (V : gV) (H : Heap) (locs : List Loc) (ls : Array Slot), lv_has ls 1 [(0, .ref (gA G 213))] → va_P (gD G) vwCl (gL G V) H → va_S (gF G) s.heap H locs → PX9_misses_29   V → res = BX9_misses_29   V → W p l e r_X9_misses s m ([.ref (gA G 213)] : List Value).toArray below meth c H locs 0 0 (MQ below (gQV G res) ([.ref (gA G 213)] : List Value).toArray s 0 0 (gF G)) (F0 m 29 ls []) := by
    intro  V H locs ls hl hP hS hs hres
    have hs : (¬ (V 214 ((1 : Int32)).toNatClampNeg) = 0) ∧ (PX9_misses_50 (gu V 214 ((3 : Int32)).toNatClampNeg (((V 214 ((3 : Int32)).toNatClampNeg) + (1 : Int32)) - ((V 214 ((3 : Int32)).toNatClampNeg) + (1 : Int32)) / (V 214 ((1 : Int32)).toNatClampNeg) * (V 214 ((1 : Int32)).toNatClampNeg)))) := hs
    have hres : res = (BX9_misses_50 (gu V 214 ((3 : Int32)).toNatClampNeg (((V 214 ((3 : Int32)).toNatClampNeg) + (1 : Int32)) - ((V 214 ((3 : Int32)).toNatClampNeg) + (1 : Int32)) / (V 214 ((1 : Int32)).toNatClampNeg) * (V 214 ((1 : Int32)).toNatClampNeg)))) := hres
    refine lv_aload_n hx hb dX9_misses_29 rfl (lv_at hl 0 rfl) ?_
    refine gh_get (v := .ref (gA G 214)) (C := RX9) (T := TX9) (N := 11) hx hb hw inlX9 hown hT hP 213 (Nat.le_of_ble_eq_true rfl) kd213 rfl rfl 0 (by decide) (hw _ uw117) rfl dX9_misses_30 ?_
    refine lv_iconst (v := 3) hx hb dX9_misses_33 (by decide) ?_
    refine lv_aload_n hx hb dX9_misses_34 rfl (lv_at hl 0 rfl) ?_
    refine gh_get (v := .ref (gA G 214)) (C := RX9) (T := TX9) (N := 11) hx hb hw inlX9 hown hT hP 213 (Nat.le_of_ble_eq_true rfl) kd213 rfl rfl 0 (by decide) (hw _ uw117) rfl dX9_misses_35 ?_
    refine lv_iconst (v := 3) hx hb dX9_misses_38 (by decide) ?_
    refine gh_iald hx hb hT hP 214 (Nat.le_of_ble_eq_true rfl) kd214 (gh_ci (by decide)) dX9_misses_39 ?_
    refine lv_iconst (v := 1) hx hb dX9_misses_40 (by decide) ?_
    refine lv_iadd hx hb dX9_misses_41 ?_
    refine lv_aload_n hx hb dX9_misses_42 rfl (lv_at hl 0 rfl) ?_
    refine gh_get (v := .ref (gA G 214)) (C := RX9) (T := TX9) (N := 11) hx hb hw inlX9 hown hT hP 213 (Nat.le_of_ble_eq_true rfl) kd213 rfl rfl 0 (by decide) (hw _ uw117) rfl dX9_misses_43 ?_
    refine lv_iconst (v := 1) hx hb dX9_misses_46 (by decide) ?_
    refine gh_iald hx hb hT hP 214 (Nat.le_of_ble_eq_true rfl) kd214 (gh_ci (by decide)) dX9_misses_47 ?_
    obtain ⟨ho_3, hs⟩ := hs
    refine lv_irem hx hb dX9_misses_48 ho_3 ?_
    refine gh_iast hx hb hT hP hS 214 (Nat.le_of_ble_eq_true rfl) kd214 (gh_ci (by decide)) dX9_misses_49 (fun H locs hP hS => ?_)
    exact b_50 (gu V 214 ((3 : Int32)).toNatClampNeg (((V 214 ((3 : Int32)).toNatClampNeg) + (1 : Int32)) - ((V 214 ((3 : Int32)).toNatClampNeg) + (1 : Int32)) / (V 214 ((1 : Int32)).toNatClampNeg) * (V 214 ((1 : Int32)).toNatClampNeg))) _ _ _ (lv_sub hl [0] rfl) hP hS hs hres
  have b_10 : ∀  (V : gV) (H : Heap) (locs : List Loc) (ls : Array Slot), lv_has ls 1 [(0, .ref (gA G 213))] → va_P (gD G) vwCl (gL G V) H → va_S (gF G) s.heap H locs → PX9_misses_10   V → res = BX9_misses_10   V → W p l e r_X9_misses s m ([.ref (gA G 213)] : List Value).toArray below meth c H locs 0 0 (MQ below (gQV G res) ([.ref (gA G 213)] : List Value).toArray s 0 0 (gF G)) (F0 m 10 ls []) := by
    intro  V H locs ls hl hP hS hs hres
    have hs : (vp_in (MX9_at (V 214 ((3 : Int32)).toNatClampNeg) (3 : Int32) V) 246) ∧ (vp_in (MX9_at (V 214 ((3 : Int32)).toNatClampNeg) (3 : Int32) V) 246) ∧ (PX9_misses_29 (gu V 214 ((MX9_at (V 214 ((3 : Int32)).toNatClampNeg) (3 : Int32) V)).toNatClampNeg ((V 214 ((MX9_at (V 214 ((3 : Int32)).toNatClampNeg) (3 : Int32) V)).toNatClampNeg) + (1 : Int32)))) := hs
    have hres : res = (BX9_misses_29 (gu V 214 ((MX9_at (V 214 ((3 : Int32)).toNatClampNeg) (3 : Int32) V)).toNatClampNeg ((V 214 ((MX9_at (V 214 ((3 : Int32)).toNatClampNeg) (3 : Int32) V)).toNatClampNeg) + (1 : Int32)))) := hres
    refine lv_aload_n hx hb dX9_misses_10 rfl (lv_at hl 0 rfl) ?_
    refine gh_get (v := .ref (gA G 214)) (C := RX9) (T := TX9) (N := 11) hx hb hw inlX9 hown hT hP 213 (Nat.le_of_ble_eq_true rfl) kd213 rfl rfl 0 (by decide) (hw _ uw117) rfl dX9_misses_11 ?_
    refine lv_aload_n hx hb dX9_misses_14 rfl (lv_at hl 0 rfl) ?_
    refine gh_get (v := .ref (gA G 214)) (C := RX9) (T := TX9) (N := 11) hx hb hw inlX9 hown hT hP 213 (Nat.le_of_ble_eq_true rfl) kd213 rfl rfl 0 (by decide) (hw _ uw117) rfl dX9_misses_15 ?_
    refine lv_iconst (v := 3) hx hb dX9_misses_18 (by decide) ?_
    refine gh_iald hx hb hT hP 214 (Nat.le_of_ble_eq_true rfl) kd214 (gh_ci (by decide)) dX9_misses_19 ?_
    refine lv_iconst (v := 3) hx hb dX9_misses_20 (by decide) ?_
    refine gh_kr (va_runS (As := [.int (V 214 ((3 : Int32)).toNatClampNeg), .int (3 : Int32)]) (rest := [.ref (gA G 214)]) ⟨hx, hb, hml, hown, hw⟩ (cc_X9_at l G V (V 214 ((3 : Int32)).toNatClampNeg) (3 : Int32)) (va_cwS 2 hw gv_RX9_51 rfl rfl rfl dd_X9_at.2 ⟨Nat.le_of_ble_eq_true rfl, Nat.le_of_ble_eq_true rfl⟩) (gh_pre hT hP) rfl rfl hl.1 rfl (lv_room (Nat.le_of_ble_eq_true rfl)) dX9_misses_21 ⟨Nat.zero_le _, Nat.zero_le _⟩) hS (fun H locs hP hS => ?_)
    refine lv_dup2_11 hx hb dX9_misses_24 rfl rfl ?_
    obtain ⟨ho_1, hs⟩ := hs
    refine gh_iald hx hb hT hP 214 (Nat.le_of_ble_eq_true rfl) kd214 ho_1 dX9_misses_25 ?_
    refine lv_iconst (v := 1) hx hb dX9_misses_26 (by decide) ?_
    refine lv_iadd hx hb dX9_misses_27 ?_
    obtain ⟨ho_2, hs⟩ := hs
    refine gh_iast hx hb hT hP hS 214 (Nat.le_of_ble_eq_true rfl) kd214 ho_2 dX9_misses_28 (fun H locs hP hS => ?_)
    exact b_29 (gu V 214 ((MX9_at (V 214 ((3 : Int32)).toNatClampNeg) (3 : Int32) V)).toNatClampNeg ((V 214 ((MX9_at (V 214 ((3 : Int32)).toNatClampNeg) (3 : Int32) V)).toNatClampNeg) + (1 : Int32))) _ _ _ (lv_sub hl [0] rfl) hP hS hs hres
  refine lv_aload_n hx hb dX9_misses_0 rfl (lv_at hl 0 rfl) ?_
  refine gh_get (v := .ref (gA G 214)) (C := RX9) (T := TX9) (N := 11) hx hb hw inlX9 hown hT hP 213 (Nat.le_of_ble_eq_true rfl) kd213 rfl rfl 0 (by decide) (hw _ uw117) rfl dX9_misses_1 ?_
  refine lv_iconst (v := 5) hx hb dX9_misses_4 (by decide) ?_
  refine lv_dup2_11 hx hb dX9_misses_5 rfl rfl ?_
  refine gh_iald hx hb hT hP 214 (Nat.le_of_ble_eq_true rfl) kd214 (gh_ci (by decide)) dX9_misses_6 ?_
  refine lv_iconst (v := 1) hx hb dX9_misses_7 (by decide) ?_
  refine lv_iadd hx hb dX9_misses_8 ?_
  refine gh_iast hx hb hT hP hS 214 (Nat.le_of_ble_eq_true rfl) kd214 (gh_ci (by decide)) dX9_misses_9 (fun H locs hP hS => ?_)
  exact b_10 (gu V 214 ((5 : Int32)).toNatClampNeg ((V 214 ((5 : Int32)).toNatClampNeg) + (1 : Int32))) _ _ _ (lv_sub hl [0] rfl) hP hS hs hres
theorem gv_RX9_82 : GoodIn wsL_law (va_wsS RX9 82 yX9_ones wc_X9_ones) := gh_gS uw471 uw472 uw5 uw473
def BX9_hits_121   (x4 : Int32) (V : gV) : gV := if (V 214 ((7 : Int32)).toNatClampNeg) = (((1 : Int32) <<< ((MX9_of (V 214 ((13 : Int32)).toNatClampNeg) (0 : Int32) V) &&& 31)) - (1 : Int32)) then ((MX9_ends x4 V)) else (V)
def PX9_hits_121   (x4 : Int32) (V : gV) : Prop := (PX9_of (V 214 ((13 : Int32)).toNatClampNeg) (0 : Int32) V) ∧ (((V 214 ((7 : Int32)).toNatClampNeg) = (((1 : Int32) <<< ((MX9_of (V 214 ((13 : Int32)).toNatClampNeg) (0 : Int32) V) &&& 31)) - (1 : Int32)) → (PX9_ends x4 V)))
def BX9_hits_110   (x1 : Int32) (x4 : Int32) (V : gV) : gV := BX9_hits_121 x4 (gu V 214 ((7 : Int32)).toNatClampNeg ((V 214 ((7 : Int32)).toNatClampNeg) ||| x1))
def PX9_hits_110   (x1 : Int32) (x4 : Int32) (V : gV) : Prop := (PX9_hits_121 x4 (gu V 214 ((7 : Int32)).toNatClampNeg ((V 214 ((7 : Int32)).toNatClampNeg) ||| x1)))
def BX9_hits_95   (x1 : Int32) (x4 : Int32) (V : gV) : gV := BX9_hits_110 x1 x4 (gu V 214 ((MX9_at x4 (2 : Int32) V)).toNatClampNeg ((V 214 ((MX9_at x4 (2 : Int32) V)).toNatClampNeg) + (1 : Int32)))
def PX9_hits_95   (x1 : Int32) (x4 : Int32) (V : gV) : Prop := (vp_in (MX9_at x4 (2 : Int32) V) 246) ∧ (vp_in (MX9_at x4 (2 : Int32) V) 246) ∧ (PX9_hits_110 x1 x4 (gu V 214 ((MX9_at x4 (2 : Int32) V)).toNatClampNeg ((V 214 ((MX9_at x4 (2 : Int32) V)).toNatClampNeg) + (1 : Int32))))
def BX9_hits_80   (x1 : Int32) (x3 : Int32) (x4 : Int32) (x6 : Int32) (V : gV) : gV := BX9_hits_95 x1 x4 (gu V 214 ((MX9_at x3 (0 : Int32) V)).toNatClampNeg ((V 214 ((MX9_at x3 (0 : Int32) V)).toNatClampNeg) + x6))
def PX9_hits_80   (x1 : Int32) (x3 : Int32) (x4 : Int32) (x6 : Int32) (V : gV) : Prop := (vp_in (MX9_at x3 (0 : Int32) V) 246) ∧ (vp_in (MX9_at x3 (0 : Int32) V) 246) ∧ (PX9_hits_95 x1 x4 (gu V 214 ((MX9_at x3 (0 : Int32) V)).toNatClampNeg ((V 214 ((MX9_at x3 (0 : Int32) V)).toNatClampNeg) + x6)))
def BX9_hits_61   (x1 : Int32) (x3 : Int32) (x4 : Int32) (x5 : Int32) (x6 : Int32) (V : gV) : gV := BX9_hits_80 x1 x3 x4 x6 (gu V 214 ((MX9_at x4 (0 : Int32) V)).toNatClampNeg ((V 214 ((MX9_at x4 (0 : Int32) V)).toNatClampNeg) + (x5 - x6)))
def PX9_hits_61   (x1 : Int32) (x3 : Int32) (x4 : Int32) (x5 : Int32) (x6 : Int32) (V : gV) : Prop := (vp_in (MX9_at x4 (0 : Int32) V) 246) ∧ (vp_in (MX9_at x4 (0 : Int32) V) 246) ∧ (PX9_hits_80 x1 x3 x4 x6 (gu V 214 ((MX9_at x4 (0 : Int32) V)).toNatClampNeg ((V 214 ((MX9_at x4 (0 : Int32) V)).toNatClampNeg) + (x5 - x6))))
def BX9_hits_48   (x1 : Int32) (x3 : Int32) (x4 : Int32) (x5 : Int32) (s0 : Int32) (V : gV) : gV := BX9_hits_61 x1 x3 x4 x5 s0 (gu V 214 ((4 : Int32)).toNatClampNeg ((V 214 ((4 : Int32)).toNatClampNeg) - x5))
def PX9_hits_48   (x1 : Int32) (x3 : Int32) (x4 : Int32) (x5 : Int32) (s0 : Int32) (V : gV) : Prop := (PX9_hits_61 x1 x3 x4 x5 s0 (gu V 214 ((4 : Int32)).toNatClampNeg ((V 214 ((4 : Int32)).toNatClampNeg) - x5)))
def BX9_hits_34   (x1 : Int32) (x2 : Int32) (x3 : Int32) (x4 : Int32) (s0 : Int32) (V : gV) : gV := if x2 = 0 then (BX9_hits_48 x1 x3 x4 s0 (0 : Int32) V) else (BX9_hits_48 x1 x3 x4 s0 (s0 / (2 : Int32)) V)
def PX9_hits_34   (x1 : Int32) (x2 : Int32) (x3 : Int32) (x4 : Int32) (s0 : Int32) (V : gV) : Prop := ((x2 = 0 → (PX9_hits_48 x1 x3 x4 s0 (0 : Int32) V)) ∧ (¬ x2 = 0 → (PX9_hits_48 x1 x3 x4 s0 (s0 / (2 : Int32)) V)))
def MX9_hits  (a1 : Int32) (a2 : Int32) (a3 : Int32) (V : gV) : gV := if (V 214 ((4 : Int32)).toNatClampNeg) ≤ (MX9_ones a1 V) then (BX9_hits_34 a1 a2 a3 (V 214 ((3 : Int32)).toNatClampNeg) (V 214 ((4 : Int32)).toNatClampNeg) V) else (BX9_hits_34 a1 a2 a3 (V 214 ((3 : Int32)).toNatClampNeg) (MX9_ones a1 V) V)
def PX9_hits  (a1 : Int32) (a2 : Int32) (a3 : Int32) (V : gV) : Prop := (PX9_ones a1 V) ∧ (((V 214 ((4 : Int32)).toNatClampNeg) ≤ (MX9_ones a1 V) → (PX9_hits_34 a1 a2 a3 (V 214 ((3 : Int32)).toNatClampNeg) (V 214 ((4 : Int32)).toNatClampNeg) V)) ∧ (¬ (V 214 ((4 : Int32)).toNatClampNeg) ≤ (MX9_ones a1 V) → (PX9_ones a1 V) ∧ (PX9_hits_34 a1 a2 a3 (V 214 ((3 : Int32)).toNatClampNeg) (MX9_ones a1 V) V)))
abbrev wc_X9_hits : List Cond := Cond.code yX9_hits cX9_hits 7 none :: wsL_law
abbrev r_X9_hits : Room := { frames := 2, cells := 0, slots := 0, locals := 43 }
theorem dd_X9_hits : yX9_hits.cls = RX9 ∧ yX9_hits.cls ≠ "java/lang/invoke/MethodHandle" ∧ yX9_hits.cls ≠ "java/lang/invoke/VarHandle" ∧ (parseMethodDescriptor yX9_hits.desc).map (fun d => d.parameters.length) = some 3 := by decide +kernel
set_option maxHeartbeats 8000000 in
set_option maxRecDepth 100000 in
theorem cc_X9_hits (l : Launch) (G : gG) (V : gV)   (a1 : Int32) (a2 : Int32) (a3 : Int32) (hs : PX9_hits a1 a2 a3 V) : Met l yX9_hits wc_X9_hits r_X9_hits (va_Pc [.ref (gA G 213), .int a1, .int a2, .int a3] (gW G V)) (gQV G (MX9_hits a1 a2 a3 V)) 0 0 (gF G) := by
  refine Met.ofW (cc := cX9_hits) (maxL := 7) (ret := none) (by decide) rfl ?_
  intro p e s m args below meth c s₁ B hml hv
  obtain ⟨rfl, hP, hT⟩ := hv
  have hx := B.exec
  have hb := B.bytes
  have hr := B.returns
  have hw := gh_hw (atoms_spec (ws := wc_X9_hits) B.pre)
  have hown : s.vm.findClass RX9 = some m.cls := findClass_of_methodNamed B.named
  have hlocks := B.notSynchronized
  have hS : va_S (gF G) s.heap s.heap [] := va_S.rf
  have hl := lv_entry ([.ref (gA G 213), .int a1, .int a2, .int a3]) (n := 7) (Nat.le_of_ble_eq_true rfl)
  rw [lg_entry_eq]
  generalize (lg_sl ([.ref (gA G 213), .int a1, .int a2, .int a3]) ++ List.replicate (7 - (lg_sl ([.ref (gA G 213), .int a1, .int a2, .int a3])).length) Slot.unset).toArray = ls at hl ⊢
  have hl : lv_has ls 7 [(0, .ref (gA G 213)), (1, .int a1), (2, .int a2), (3, .int a3)] := hl
  obtain ⟨res, hres⟩ : ∃ r, r = MX9_hits a1 a2 a3 V := ⟨_, rfl⟩
  rw [← hres]
  show W p l e r_X9_hits s m ([.ref (gA G 213), .int a1, .int a2, .int a3] : List Value).toArray below meth c s.heap [] 0 0 (MQ below (gQV G res) ([.ref (gA G 213), .int a1, .int a2, .int a3] : List Value).toArray s 0 0 (gF G)) (F0 m 0 ls [])
  have hs : (PX9_ones a1 V) ∧ (((V 214 ((4 : Int32)).toNatClampNeg) ≤ (MX9_ones a1 V) → (PX9_hits_34 a1 a2 a3 (V 214 ((3 : Int32)).toNatClampNeg) (V 214 ((4 : Int32)).toNatClampNeg) V)) ∧ (¬ (V 214 ((4 : Int32)).toNatClampNeg) ≤ (MX9_ones a1 V) → (PX9_ones a1 V) ∧ (PX9_hits_34 a1 a2 a3 (V 214 ((3 : Int32)).toNatClampNeg) (MX9_ones a1 V) V))) := hs
  have hres : res = (if (V 214 ((4 : Int32)).toNatClampNeg) ≤ (MX9_ones a1 V) then (BX9_hits_34 a1 a2 a3 (V 214 ((3 : Int32)).toNatClampNeg) (V 214 ((4 : Int32)).toNatClampNeg) V) else (BX9_hits_34 a1 a2 a3 (V 214 ((3 : Int32)).toNatClampNeg) (MX9_ones a1 V) V)) := hres
  have b_121 : ∀ (x4 : Int32) (V : gV) (H : Heap) (locs : List Loc) (ls : Array Slot), lv_has ls 7 [(0, .ref (gA G 213)), (4, .int x4)] → va_P (gD G) vwCl (gL G V) H → va_S (gF G) s.heap H locs → PX9_hits_121  x4 V → res = BX9_hits_121  x4 V → W p l e r_X9_hits s m ([.ref (gA G 213), .int a1, .int a2, .int a3] : List Value).toArray below meth c H locs 0 0 (MQ below (gQV G res) ([.ref (gA G 213), .int a1, .int a2, .int a3] : List Value).toArray s 0 0 (gF G)) (F0 m 121 ls []) := by
    intro x4 V H locs ls hl hP hS hs hres
    have hs : (PX9_of (V 214 ((13 : Int32)).toNatClampNeg) (0 : Int32) V) ∧ (((V 214 ((7 : Int32)).toNatClampNeg) = (((1 : Int32) <<< ((MX9_of (V 214 ((13 : Int32)).toNatClampNeg) (0 : Int32) V) &&& 31)) - (1 : Int32)) → (PX9_ends x4 V))) := hs
    have hres : res = (if (V 214 ((7 : Int32)).toNatClampNeg) = (((1 : Int32) <<< ((MX9_of (V 214 ((13 : Int32)).toNatClampNeg) (0 : Int32) V) &&& 31)) - (1 : Int32)) then ((MX9_ends x4 V)) else (V)) := hres
    refine lv_aload_n hx hb dX9_hits_121 rfl (lv_at hl 0 rfl) ?_
    refine gh_get (v := .ref (gA G 214)) (C := RX9) (T := TX9) (N := 11) hx hb hw inlX9 hown hT hP 213 (Nat.le_of_ble_eq_true rfl) kd213 rfl rfl 0 (by decide) (hw _ uw117) rfl dX9_hits_122 ?_
    refine lv_bipush (v := 7) hx hb dX9_hits_125 (by decide) ?_
    refine gh_iald hx hb hT hP 214 (Nat.le_of_ble_eq_true rfl) kd214 (gh_ci (by decide)) dX9_hits_127 ?_
    refine lv_iconst (v := 1) hx hb dX9_hits_128 (by decide) ?_
    refine lv_aload_n hx hb dX9_hits_129 rfl (lv_at hl 0 rfl) ?_
    refine lv_aload_n hx hb dX9_hits_130 rfl (lv_at hl 0 rfl) ?_
    refine gh_get (v := .ref (gA G 214)) (C := RX9) (T := TX9) (N := 11) hx hb hw inlX9 hown hT hP 213 (Nat.le_of_ble_eq_true rfl) kd213 rfl rfl 0 (by decide) (hw _ uw117) rfl dX9_hits_131 ?_
    refine lv_bipush (v := 13) hx hb dX9_hits_134 (by decide) ?_
    refine gh_iald hx hb hT hP 214 (Nat.le_of_ble_eq_true rfl) kd214 (gh_ci (by decide)) dX9_hits_136 ?_
    refine lv_iconst (v := 0) hx hb dX9_hits_137 (by decide) ?_
    obtain ⟨ho_10, hs⟩ := hs
    refine gh_kr (va_runV (As := [.int (V 214 ((13 : Int32)).toNatClampNeg), .int (0 : Int32)]) (rest := [.int (1 : Int32), .int (V 214 ((7 : Int32)).toNatClampNeg)]) ⟨hx, hb, hml, hown, hw⟩ (cc_X9_of l G V (V 214 ((13 : Int32)).toNatClampNeg) (0 : Int32) ho_10) (cwV 2 hw gv_RX9_29 rfl rfl rfl dd_X9_of ⟨Nat.le_of_ble_eq_true rfl, Nat.le_of_ble_eq_true rfl⟩) (gh_preV hT hP (Nat.le_of_ble_eq_true rfl) kd213 rfl rfl) rfl rfl hl.1 rfl (lv_room (Nat.le_of_ble_eq_true rfl)) dX9_hits_138 ⟨Nat.zero_le _, Nat.zero_le _⟩) hS (fun H locs hP hS => ?_)
    refine lv_ishl hx hb dX9_hits_141 ?_
    refine lv_iconst (v := 1) hx hb dX9_hits_142 (by decide) ?_
    refine lv_isub hx hb dX9_hits_143 ?_
    refine lv_icmp_ne (tgt := 153) hx hb dX9_hits_144 (by decide) (fun c_11 => ?_) (fun c_11 => ?_)
    · have hres := hres.trans (if_neg c_11)
      exact gh_vret hx hb hr hlocks hP hS hT hres dX9_hits_153
    have hres := hres.trans (if_pos c_11)
    have hs := hs c_11
    refine lv_aload_n hx hb dX9_hits_147 rfl (lv_at hl 0 rfl) ?_
    refine lv_iload hx hb dX9_hits_148 (lv_at hl 1 rfl) ?_
    have ho_12 := hs
    refine gh_kv (va_runV (As := [.int x4]) (rest := []) ⟨hx, hb, hml, hown, hw⟩ (cc_X9_ends l G V x4 ho_12) (cwV 1 hw gv_RX9_78 rfl rfl rfl dd_X9_ends ⟨Nat.le_of_ble_eq_true rfl, Nat.le_of_ble_eq_true rfl⟩) (gh_preV hT hP (Nat.le_of_ble_eq_true rfl) kd213 rfl rfl) rfl rfl hl.1 rfl (lv_room (Nat.le_of_ble_eq_true rfl)) dX9_hits_150 ⟨Nat.zero_le _, Nat.zero_le _⟩) hS (fun H locs hP hS => ?_)
    exact gh_vret hx hb hr hlocks hP hS hT hres dX9_hits_153
  have b_110 : ∀ (x1 : Int32) (x4 : Int32) (V : gV) (H : Heap) (locs : List Loc) (ls : Array Slot), lv_has ls 7 [(0, .ref (gA G 213)), (1, .int x1), (4, .int x4)] → va_P (gD G) vwCl (gL G V) H → va_S (gF G) s.heap H locs → PX9_hits_110  x1 x4 V → res = BX9_hits_110  x1 x4 V → W p l e r_X9_hits s m ([.ref (gA G 213), .int a1, .int a2, .int a3] : List Value).toArray below meth c H locs 0 0 (MQ below (gQV G res) ([.ref (gA G 213), .int a1, .int a2, .int a3] : List Value).toArray s 0 0 (gF G)) (F0 m 110 ls []) := by
    intro x1 x4 V H locs ls hl hP hS hs hres
    have hs : (PX9_hits_121 x4 (gu V 214 ((7 : Int32)).toNatClampNeg ((V 214 ((7 : Int32)).toNatClampNeg) ||| x1))) := hs
    have hres : res = (BX9_hits_121 x4 (gu V 214 ((7 : Int32)).toNatClampNeg ((V 214 ((7 : Int32)).toNatClampNeg) ||| x1))) := hres
    refine lv_aload_n hx hb dX9_hits_110 rfl (lv_at hl 0 rfl) ?_
    refine gh_get (v := .ref (gA G 214)) (C := RX9) (T := TX9) (N := 11) hx hb hw inlX9 hown hT hP 213 (Nat.le_of_ble_eq_true rfl) kd213 rfl rfl 0 (by decide) (hw _ uw117) rfl dX9_hits_111 ?_
    refine lv_bipush (v := 7) hx hb dX9_hits_114 (by decide) ?_
    refine lv_dup2_11 hx hb dX9_hits_116 rfl rfl ?_
    refine gh_iald hx hb hT hP 214 (Nat.le_of_ble_eq_true rfl) kd214 (gh_ci (by decide)) dX9_hits_117 ?_
    refine lv_iload_n hx hb dX9_hits_118 rfl (lv_at hl 1 rfl) ?_
    refine lv_ior hx hb dX9_hits_119 ?_
    refine gh_iast hx hb hT hP hS 214 (Nat.le_of_ble_eq_true rfl) kd214 (gh_ci (by decide)) dX9_hits_120 (fun H locs hP hS => ?_)
    exact b_121 x4 (gu V 214 ((7 : Int32)).toNatClampNeg ((V 214 ((7 : Int32)).toNatClampNeg) ||| x1)) _ _ _ (lv_sub hl [0, 2] rfl) hP hS hs hres
  have b_95 : ∀ (x1 : Int32) (x4 : Int32) (V : gV) (H : Heap) (locs : List Loc) (ls : Array Slot), lv_has ls 7 [(0, .ref (gA G 213)), (1, .int x1), (4, .int x4)] → va_P (gD G) vwCl (gL G V) H → va_S (gF G) s.heap H locs → PX9_hits_95  x1 x4 V → res = BX9_hits_95  x1 x4 V → W p l e r_X9_hits s m ([.ref (gA G 213), .int a1, .int a2, .int a3] : List Value).toArray below meth c H locs 0 0 (MQ below (gQV G res) ([.ref (gA G 213), .int a1, .int a2, .int a3] : List Value).toArray s 0 0 (gF G)) (F0 m 95 ls []) := by
    intro x1 x4 V H locs ls hl hP hS hs hres
    have hs : (vp_in (MX9_at x4 (2 : Int32) V) 246) ∧ (vp_in (MX9_at x4 (2 : Int32) V) 246) ∧ (PX9_hits_110 x1 x4 (gu V 214 ((MX9_at x4 (2 : Int32) V)).toNatClampNeg ((V 214 ((MX9_at x4 (2 : Int32) V)).toNatClampNeg) + (1 : Int32)))) := hs
    have hres : res = (BX9_hits_110 x1 x4 (gu V 214 ((MX9_at x4 (2 : Int32) V)).toNatClampNeg ((V 214 ((MX9_at x4 (2 : Int32) V)).toNatClampNeg) + (1 : Int32)))) := hres
    refine lv_aload_n hx hb dX9_hits_95 rfl (lv_at hl 0 rfl) ?_
    refine gh_get (v := .ref (gA G 214)) (C := RX9) (T := TX9) (N := 11) hx hb hw inlX9 hown hT hP 213 (Nat.le_of_ble_eq_true rfl) kd213 rfl rfl 0 (by decide) (hw _ uw117) rfl dX9_hits_96 ?_
    refine lv_iload hx hb dX9_hits_99 (lv_at hl 2 rfl) ?_
    refine lv_iconst (v := 2) hx hb dX9_hits_101 (by decide) ?_
    refine gh_kr (va_runS (As := [.int x4, .int (2 : Int32)]) (rest := [.ref (gA G 214)]) ⟨hx, hb, hml, hown, hw⟩ (cc_X9_at l G V x4 (2 : Int32)) (va_cwS 2 hw gv_RX9_51 rfl rfl rfl dd_X9_at.2 ⟨Nat.le_of_ble_eq_true rfl, Nat.le_of_ble_eq_true rfl⟩) (gh_pre hT hP) rfl rfl hl.1 rfl (lv_room (Nat.le_of_ble_eq_true rfl)) dX9_hits_102 ⟨Nat.zero_le _, Nat.zero_le _⟩) hS (fun H locs hP hS => ?_)
    refine lv_dup2_11 hx hb dX9_hits_105 rfl rfl ?_
    obtain ⟨ho_8, hs⟩ := hs
    refine gh_iald hx hb hT hP 214 (Nat.le_of_ble_eq_true rfl) kd214 ho_8 dX9_hits_106 ?_
    refine lv_iconst (v := 1) hx hb dX9_hits_107 (by decide) ?_
    refine lv_iadd hx hb dX9_hits_108 ?_
    obtain ⟨ho_9, hs⟩ := hs
    refine gh_iast hx hb hT hP hS 214 (Nat.le_of_ble_eq_true rfl) kd214 ho_9 dX9_hits_109 (fun H locs hP hS => ?_)
    exact b_110 x1 x4 (gu V 214 ((MX9_at x4 (2 : Int32) V)).toNatClampNeg ((V 214 ((MX9_at x4 (2 : Int32) V)).toNatClampNeg) + (1 : Int32))) _ _ _ (lv_sub hl [0, 1, 2] rfl) hP hS hs hres
  have b_80 : ∀ (x1 : Int32) (x3 : Int32) (x4 : Int32) (x6 : Int32) (V : gV) (H : Heap) (locs : List Loc) (ls : Array Slot), lv_has ls 7 [(0, .ref (gA G 213)), (1, .int x1), (3, .int x3), (4, .int x4), (6, .int x6)] → va_P (gD G) vwCl (gL G V) H → va_S (gF G) s.heap H locs → PX9_hits_80  x1 x3 x4 x6 V → res = BX9_hits_80  x1 x3 x4 x6 V → W p l e r_X9_hits s m ([.ref (gA G 213), .int a1, .int a2, .int a3] : List Value).toArray below meth c H locs 0 0 (MQ below (gQV G res) ([.ref (gA G 213), .int a1, .int a2, .int a3] : List Value).toArray s 0 0 (gF G)) (F0 m 80 ls []) := by
    intro x1 x3 x4 x6 V H locs ls hl hP hS hs hres
    have hs : (vp_in (MX9_at x3 (0 : Int32) V) 246) ∧ (vp_in (MX9_at x3 (0 : Int32) V) 246) ∧ (PX9_hits_95 x1 x4 (gu V 214 ((MX9_at x3 (0 : Int32) V)).toNatClampNeg ((V 214 ((MX9_at x3 (0 : Int32) V)).toNatClampNeg) + x6))) := hs
    have hres : res = (BX9_hits_95 x1 x4 (gu V 214 ((MX9_at x3 (0 : Int32) V)).toNatClampNeg ((V 214 ((MX9_at x3 (0 : Int32) V)).toNatClampNeg) + x6))) := hres
    refine lv_aload_n hx hb dX9_hits_80 rfl (lv_at hl 0 rfl) ?_
    refine gh_get (v := .ref (gA G 214)) (C := RX9) (T := TX9) (N := 11) hx hb hw inlX9 hown hT hP 213 (Nat.le_of_ble_eq_true rfl) kd213 rfl rfl 0 (by decide) (hw _ uw117) rfl dX9_hits_81 ?_
    refine lv_iload_n hx hb dX9_hits_84 rfl (lv_at hl 2 rfl) ?_
    refine lv_iconst (v := 0) hx hb dX9_hits_85 (by decide) ?_
    refine gh_kr (va_runS (As := [.int x3, .int (0 : Int32)]) (rest := [.ref (gA G 214)]) ⟨hx, hb, hml, hown, hw⟩ (cc_X9_at l G V x3 (0 : Int32)) (va_cwS 2 hw gv_RX9_51 rfl rfl rfl dd_X9_at.2 ⟨Nat.le_of_ble_eq_true rfl, Nat.le_of_ble_eq_true rfl⟩) (gh_pre hT hP) rfl rfl hl.1 rfl (lv_room (Nat.le_of_ble_eq_true rfl)) dX9_hits_86 ⟨Nat.zero_le _, Nat.zero_le _⟩) hS (fun H locs hP hS => ?_)
    refine lv_dup2_11 hx hb dX9_hits_89 rfl rfl ?_
    obtain ⟨ho_6, hs⟩ := hs
    refine gh_iald hx hb hT hP 214 (Nat.le_of_ble_eq_true rfl) kd214 ho_6 dX9_hits_90 ?_
    refine lv_iload hx hb dX9_hits_91 (lv_at hl 4 rfl) ?_
    refine lv_iadd hx hb dX9_hits_93 ?_
    obtain ⟨ho_7, hs⟩ := hs
    refine gh_iast hx hb hT hP hS 214 (Nat.le_of_ble_eq_true rfl) kd214 ho_7 dX9_hits_94 (fun H locs hP hS => ?_)
    exact b_95 x1 x4 (gu V 214 ((MX9_at x3 (0 : Int32) V)).toNatClampNeg ((V 214 ((MX9_at x3 (0 : Int32) V)).toNatClampNeg) + x6)) _ _ _ (lv_sub hl [0, 1, 3] rfl) hP hS hs hres
  have b_61 : ∀ (x1 : Int32) (x3 : Int32) (x4 : Int32) (x5 : Int32) (x6 : Int32) (V : gV) (H : Heap) (locs : List Loc) (ls : Array Slot), lv_has ls 7 [(0, .ref (gA G 213)), (1, .int x1), (3, .int x3), (4, .int x4), (5, .int x5), (6, .int x6)] → va_P (gD G) vwCl (gL G V) H → va_S (gF G) s.heap H locs → PX9_hits_61  x1 x3 x4 x5 x6 V → res = BX9_hits_61  x1 x3 x4 x5 x6 V → W p l e r_X9_hits s m ([.ref (gA G 213), .int a1, .int a2, .int a3] : List Value).toArray below meth c H locs 0 0 (MQ below (gQV G res) ([.ref (gA G 213), .int a1, .int a2, .int a3] : List Value).toArray s 0 0 (gF G)) (F0 m 61 ls []) := by
    intro x1 x3 x4 x5 x6 V H locs ls hl hP hS hs hres
    have hs : (vp_in (MX9_at x4 (0 : Int32) V) 246) ∧ (vp_in (MX9_at x4 (0 : Int32) V) 246) ∧ (PX9_hits_80 x1 x3 x4 x6 (gu V 214 ((MX9_at x4 (0 : Int32) V)).toNatClampNeg ((V 214 ((MX9_at x4 (0 : Int32) V)).toNatClampNeg) + (x5 - x6)))) := hs
    have hres : res = (BX9_hits_80 x1 x3 x4 x6 (gu V 214 ((MX9_at x4 (0 : Int32) V)).toNatClampNeg ((V 214 ((MX9_at x4 (0 : Int32) V)).toNatClampNeg) + (x5 - x6)))) := hres
    refine lv_aload_n hx hb dX9_hits_61 rfl (lv_at hl 0 rfl) ?_
    refine gh_get (v := .ref (gA G 214)) (C := RX9) (T := TX9) (N := 11) hx hb hw inlX9 hown hT hP 213 (Nat.le_of_ble_eq_true rfl) kd213 rfl rfl 0 (by decide) (hw _ uw117) rfl dX9_hits_62 ?_
    refine lv_iload hx hb dX9_hits_65 (lv_at hl 3 rfl) ?_
    refine lv_iconst (v := 0) hx hb dX9_hits_67 (by decide) ?_
    refine gh_kr (va_runS (As := [.int x4, .int (0 : Int32)]) (rest := [.ref (gA G 214)]) ⟨hx, hb, hml, hown, hw⟩ (cc_X9_at l G V x4 (0 : Int32)) (va_cwS 2 hw gv_RX9_51 rfl rfl rfl dd_X9_at.2 ⟨Nat.le_of_ble_eq_true rfl, Nat.le_of_ble_eq_true rfl⟩) (gh_pre hT hP) rfl rfl hl.1 rfl (lv_room (Nat.le_of_ble_eq_true rfl)) dX9_hits_68 ⟨Nat.zero_le _, Nat.zero_le _⟩) hS (fun H locs hP hS => ?_)
    refine lv_dup2_11 hx hb dX9_hits_71 rfl rfl ?_
    obtain ⟨ho_4, hs⟩ := hs
    refine gh_iald hx hb hT hP 214 (Nat.le_of_ble_eq_true rfl) kd214 ho_4 dX9_hits_72 ?_
    refine lv_iload hx hb dX9_hits_73 (lv_at hl 4 rfl) ?_
    refine lv_iload hx hb dX9_hits_75 (lv_at hl 5 rfl) ?_
    refine lv_isub hx hb dX9_hits_77 ?_
    refine lv_iadd hx hb dX9_hits_78 ?_
    obtain ⟨ho_5, hs⟩ := hs
    refine gh_iast hx hb hT hP hS 214 (Nat.le_of_ble_eq_true rfl) kd214 ho_5 dX9_hits_79 (fun H locs hP hS => ?_)
    exact b_80 x1 x3 x4 x6 (gu V 214 ((MX9_at x4 (0 : Int32) V)).toNatClampNeg ((V 214 ((MX9_at x4 (0 : Int32) V)).toNatClampNeg) + (x5 - x6))) _ _ _ (lv_sub hl [0, 1, 2, 3, 5] rfl) hP hS hs hres
  have b_48 : ∀ (x1 : Int32) (x3 : Int32) (x4 : Int32) (x5 : Int32) (s0 : Int32) (V : gV) (H : Heap) (locs : List Loc) (ls : Array Slot), lv_has ls 7 [(0, .ref (gA G 213)), (1, .int x1), (3, .int x3), (4, .int x4), (5, .int x5)] → va_P (gD G) vwCl (gL G V) H → va_S (gF G) s.heap H locs → PX9_hits_48  x1 x3 x4 x5 s0 V → res = BX9_hits_48  x1 x3 x4 x5 s0 V → W p l e r_X9_hits s m ([.ref (gA G 213), .int a1, .int a2, .int a3] : List Value).toArray below meth c H locs 0 0 (MQ below (gQV G res) ([.ref (gA G 213), .int a1, .int a2, .int a3] : List Value).toArray s 0 0 (gF G)) (F0 m 48 ls [.int s0]) := by
    intro x1 x3 x4 x5 s0 V H locs ls hl hP hS hs hres
    have hs : (PX9_hits_61 x1 x3 x4 x5 s0 (gu V 214 ((4 : Int32)).toNatClampNeg ((V 214 ((4 : Int32)).toNatClampNeg) - x5))) := hs
    have hres : res = (BX9_hits_61 x1 x3 x4 x5 s0 (gu V 214 ((4 : Int32)).toNatClampNeg ((V 214 ((4 : Int32)).toNatClampNeg) - x5))) := hres
    refine lv_istore (lv' := [(6, .int s0), (0, .ref (gA G 213)), (1, .int x1), (3, .int x3), (4, .int x4), (5, .int x5)]) hx hb dX9_hits_48 hl (by decide) rfl (fun ls hl => ?_)
    refine lv_aload_n hx hb dX9_hits_50 rfl (lv_at hl 1 rfl) ?_
    refine gh_get (v := .ref (gA G 214)) (C := RX9) (T := TX9) (N := 11) hx hb hw inlX9 hown hT hP 213 (Nat.le_of_ble_eq_true rfl) kd213 rfl rfl 0 (by decide) (hw _ uw117) rfl dX9_hits_51 ?_
    refine lv_iconst (v := 4) hx hb dX9_hits_54 (by decide) ?_
    refine lv_dup2_11 hx hb dX9_hits_55 rfl rfl ?_
    refine gh_iald hx hb hT hP 214 (Nat.le_of_ble_eq_true rfl) kd214 (gh_ci (by decide)) dX9_hits_56 ?_
    refine lv_iload hx hb dX9_hits_57 (lv_at hl 5 rfl) ?_
    refine lv_isub hx hb dX9_hits_59 ?_
    refine gh_iast hx hb hT hP hS 214 (Nat.le_of_ble_eq_true rfl) kd214 (gh_ci (by decide)) dX9_hits_60 (fun H locs hP hS => ?_)
    exact b_61 x1 x3 x4 x5 s0 (gu V 214 ((4 : Int32)).toNatClampNeg ((V 214 ((4 : Int32)).toNatClampNeg) - x5)) _ _ _ (lv_sub hl [1, 2, 3, 4, 5, 0] rfl) hP hS hs hres
  have b_34 : ∀ (x1 : Int32) (x2 : Int32) (x3 : Int32) (x4 : Int32) (s0 : Int32) (V : gV) (H : Heap) (locs : List Loc) (ls : Array Slot), lv_has ls 7 [(0, .ref (gA G 213)), (1, .int x1), (2, .int x2), (3, .int x3), (4, .int x4)] → va_P (gD G) vwCl (gL G V) H → va_S (gF G) s.heap H locs → PX9_hits_34  x1 x2 x3 x4 s0 V → res = BX9_hits_34  x1 x2 x3 x4 s0 V → W p l e r_X9_hits s m ([.ref (gA G 213), .int a1, .int a2, .int a3] : List Value).toArray below meth c H locs 0 0 (MQ below (gQV G res) ([.ref (gA G 213), .int a1, .int a2, .int a3] : List Value).toArray s 0 0 (gF G)) (F0 m 34 ls [.int s0]) := by
    intro x1 x2 x3 x4 s0 V H locs ls hl hP hS hs hres
    have hs : ((x2 = 0 → (PX9_hits_48 x1 x3 x4 s0 (0 : Int32) V)) ∧ (¬ x2 = 0 → (PX9_hits_48 x1 x3 x4 s0 (s0 / (2 : Int32)) V))) := hs
    have hres : res = (if x2 = 0 then (BX9_hits_48 x1 x3 x4 s0 (0 : Int32) V) else (BX9_hits_48 x1 x3 x4 s0 (s0 / (2 : Int32)) V)) := hres
    refine lv_istore (lv' := [(5, .int s0), (0, .ref (gA G 213)), (1, .int x1), (2, .int x2), (3, .int x3), (4, .int x4)]) hx hb dX9_hits_34 hl (by decide) rfl (fun ls hl => ?_)
    refine lv_iload_n hx hb dX9_hits_36 rfl (lv_at hl 3 rfl) ?_
    refine lv_if_eq (tgt := 47) hx hb dX9_hits_37 (by decide) (fun c_3 => ?_) (fun c_3 => ?_)
    · have hres := hres.trans (if_pos c_3)
      have hs := hs.1 c_3
      refine lv_iconst (v := 0) hx hb dX9_hits_47 (by decide) ?_
      exact b_48 x1 x3 x4 s0 (0 : Int32) V _ _ _ (lv_sub hl [1, 2, 4, 5, 0] rfl) hP hS hs hres
    have hres := hres.trans (if_neg c_3)
    have hs := hs.2 c_3
    refine lv_iload hx hb dX9_hits_40 (lv_at hl 0 rfl) ?_
    refine lv_iconst (v := 2) hx hb dX9_hits_42 (by decide) ?_
    refine lv_idiv hx hb dX9_hits_43 (by decide) ?_
    refine lv_goto (tgt := 48) hx hb dX9_hits_44 (by decide) ?_
    exact b_48 x1 x3 x4 s0 (s0 / (2 : Int32)) V _ _ _ (lv_sub hl [1, 2, 4, 5, 0] rfl) hP hS hs hres
  refine lv_aload_n hx hb dX9_hits_0 rfl (lv_at hl 0 rfl) ?_
  refine gh_get (v := .ref (gA G 214)) (C := RX9) (T := TX9) (N := 11) hx hb hw inlX9 hown hT hP 213 (Nat.le_of_ble_eq_true rfl) kd213 rfl rfl 0 (by decide) (hw _ uw117) rfl dX9_hits_1 ?_
  refine lv_iconst (v := 3) hx hb dX9_hits_4 (by decide) ?_
  refine gh_iald hx hb hT hP 214 (Nat.le_of_ble_eq_true rfl) kd214 (gh_ci (by decide)) dX9_hits_5 ?_
  refine lv_istore (lv' := [(4, .int (V 214 ((3 : Int32)).toNatClampNeg)), (0, .ref (gA G 213)), (1, .int a1), (2, .int a2), (3, .int a3)]) hx hb dX9_hits_6 hl (by decide) rfl (fun ls hl => ?_)
  refine lv_iload_n hx hb dX9_hits_8 rfl (lv_at hl 2 rfl) ?_
  obtain ⟨ho_1, hs⟩ := hs
  refine gh_kr (va_runS (As := [.int a1]) (rest := []) ⟨hx, hb, hml, hown, hw⟩ (cc_X9_ones l G V a1 ho_1) (va_cwS 1 hw gv_RX9_82 rfl rfl rfl dd_X9_ones.2 ⟨Nat.le_of_ble_eq_true rfl, Nat.le_of_ble_eq_true rfl⟩) (gh_pre hT hP) rfl rfl hl.1 rfl (lv_room (Nat.le_of_ble_eq_true rfl)) dX9_hits_9 ⟨Nat.zero_le _, Nat.zero_le _⟩) hS (fun H locs hP hS => ?_)
  refine lv_aload_n hx hb dX9_hits_12 rfl (lv_at hl 1 rfl) ?_
  refine gh_get (v := .ref (gA G 214)) (C := RX9) (T := TX9) (N := 11) hx hb hw inlX9 hown hT hP 213 (Nat.le_of_ble_eq_true rfl) kd213 rfl rfl 0 (by decide) (hw _ uw117) rfl dX9_hits_13 ?_
  refine lv_iconst (v := 4) hx hb dX9_hits_16 (by decide) ?_
  refine gh_iald hx hb hT hP 214 (Nat.le_of_ble_eq_true rfl) kd214 (gh_ci (by decide)) dX9_hits_17 ?_
  refine lv_icmp_ge (tgt := 28) hx hb dX9_hits_18 (by decide) (fun c_2 => ?_) (fun c_2 => ?_)
  · have hres := hres.trans (if_pos c_2)
    have hs := hs.1 c_2
    refine lv_aload_n hx hb dX9_hits_28 rfl (lv_at hl 1 rfl) ?_
    refine gh_get (v := .ref (gA G 214)) (C := RX9) (T := TX9) (N := 11) hx hb hw inlX9 hown hT hP 213 (Nat.le_of_ble_eq_true rfl) kd213 rfl rfl 0 (by decide) (hw _ uw117) rfl dX9_hits_29 ?_
    refine lv_iconst (v := 4) hx hb dX9_hits_32 (by decide) ?_
    refine gh_iald hx hb hT hP 214 (Nat.le_of_ble_eq_true rfl) kd214 (gh_ci (by decide)) dX9_hits_33 ?_
    exact b_34 a1 a2 a3 (V 214 ((3 : Int32)).toNatClampNeg) (V 214 ((4 : Int32)).toNatClampNeg) V _ _ _ (lv_sub hl [1, 2, 3, 4, 0] rfl) hP hS hs hres
  have hres := hres.trans (if_neg c_2)
  have hs := hs.2 c_2
  refine lv_iload_n hx hb dX9_hits_21 rfl (lv_at hl 2 rfl) ?_
  obtain ⟨ho_13, hs⟩ := hs
  refine gh_kr (va_runS (As := [.int a1]) (rest := []) ⟨hx, hb, hml, hown, hw⟩ (cc_X9_ones l G V a1 ho_13) (va_cwS 1 hw gv_RX9_82 rfl rfl rfl dd_X9_ones.2 ⟨Nat.le_of_ble_eq_true rfl, Nat.le_of_ble_eq_true rfl⟩) (gh_pre hT hP) rfl rfl hl.1 rfl (lv_room (Nat.le_of_ble_eq_true rfl)) dX9_hits_22 ⟨Nat.zero_le _, Nat.zero_le _⟩) hS (fun H locs hP hS => ?_)
  refine lv_goto (tgt := 34) hx hb dX9_hits_25 (by decide) ?_
  exact b_34 a1 a2 a3 (V 214 ((3 : Int32)).toNatClampNeg) (MX9_ones a1 V) V _ _ _ (lv_sub hl [1, 2, 3, 4, 0] rfl) hP hS hs hres
def BX9_fitsOne_123  (K29 : Int32 → Int32 → Int32 → gV → Int32) (x1 : Int32) (x3 : Int32) (s0 : Int32) (V : gV) : Int32 := K29 x1 s0 (x3 + (1 : Int32)) V
def PX9_fitsOne_123  (KP29 : Int32 → Int32 → Int32 → gV → Prop) (x1 : Int32) (x3 : Int32) (s0 : Int32) (V : gV) : Prop := (KP29 x1 s0 (x3 + (1 : Int32)) V)
def BX9_fitsOne_63  (K29 : Int32 → Int32 → Int32 → gV → Int32) (x1 : Int32) (x3 : Int32) (s0 : Int32) (V : gV) : Int32 := if s0 = 0 then (if (((V 214 ((6 : Int32)).toNatClampNeg) >>> ((MX9_letterAt x1 x3 V) &&& 31)) &&& (1 : Int32)) = 0 then (BX9_fitsOne_123 K29 x1 x3 (1 : Int32) V) else (BX9_fitsOne_123 K29 x1 x3 (0 : Int32) V)) else (if (MX9_letterAt x1 x3 V) = (MX9_letterAt (V 214 ((13 : Int32)).toNatClampNeg) x3 V) then (BX9_fitsOne_123 K29 x1 x3 (1 : Int32) V) else (BX9_fitsOne_123 K29 x1 x3 (0 : Int32) V))
def PX9_fitsOne_63  (KP29 : Int32 → Int32 → Int32 → gV → Prop) (x1 : Int32) (x3 : Int32) (s0 : Int32) (V : gV) : Prop := (PX9_letterAt x1 x3 V) ∧ ((s0 = 0 → (((((V 214 ((6 : Int32)).toNatClampNeg) >>> ((MX9_letterAt x1 x3 V) &&& 31)) &&& (1 : Int32)) = 0 → (PX9_fitsOne_123 KP29 x1 x3 (1 : Int32) V)) ∧ (¬ (((V 214 ((6 : Int32)).toNatClampNeg) >>> ((MX9_letterAt x1 x3 V) &&& 31)) &&& (1 : Int32)) = 0 → (PX9_fitsOne_123 KP29 x1 x3 (0 : Int32) V)))) ∧ (¬ s0 = 0 → (PX9_letterAt (V 214 ((13 : Int32)).toNatClampNeg) x3 V) ∧ (((MX9_letterAt x1 x3 V) = (MX9_letterAt (V 214 ((13 : Int32)).toNatClampNeg) x3 V) → (PX9_fitsOne_123 KP29 x1 x3 (1 : Int32) V)) ∧ (¬ (MX9_letterAt x1 x3 V) = (MX9_letterAt (V 214 ((13 : Int32)).toNatClampNeg) x3 V) → (PX9_fitsOne_123 KP29 x1 x3 (0 : Int32) V)))))
def BX9_fitsOne_29   : Nat → Int32 → Int32 → Int32 → gV → Int32
  | 0, _, _, _, _ => 0
  | n + 1, x1, x2, x3, V => if (MX9_of x1 (0 : Int32) V) ≤ x3 then (x2) else (if x2 = 0 then (x2) else (if (((V 214 ((7 : Int32)).toNatClampNeg) >>> (x3 &&& 31)) &&& (1 : Int32)) = (1 : Int32) then (BX9_fitsOne_63 (BX9_fitsOne_29 n) x1 x3 (1 : Int32) V) else (BX9_fitsOne_63 (BX9_fitsOne_29 n) x1 x3 (0 : Int32) V)))
def PX9_fitsOne_29   : Nat → Int32 → Int32 → Int32 → gV → Prop
  | 0, _, _, _, _ => False
  | n + 1, x1, x2, x3, V => (PX9_of x1 (0 : Int32) V) ∧ (((MX9_of x1 (0 : Int32) V) ≤ x3 → (gZ x2)) ∧ (¬ (MX9_of x1 (0 : Int32) V) ≤ x3 → ((x2 = 0 → (gZ x2)) ∧ (¬ x2 = 0 → (((((V 214 ((7 : Int32)).toNatClampNeg) >>> (x3 &&& 31)) &&& (1 : Int32)) = (1 : Int32) → (PX9_fitsOne_63 (PX9_fitsOne_29 n) x1 x3 (1 : Int32) V)) ∧ (¬ (((V 214 ((7 : Int32)).toNatClampNeg) >>> (x3 &&& 31)) &&& (1 : Int32)) = (1 : Int32) → (PX9_fitsOne_63 (PX9_fitsOne_29 n) x1 x3 (0 : Int32) V)))))))
def BX9_fitsOne_26   (x1 : Int32) (s0 : Int32) (V : gV) : Int32 := BX9_fitsOne_29 1000 x1 s0 (0 : Int32) V
def PX9_fitsOne_26   (x1 : Int32) (s0 : Int32) (V : gV) : Prop := (PX9_fitsOne_29 1000 x1 s0 (0 : Int32) V)
def MX9_fitsOne  (a1 : Int32) (V : gV) : Int32 := if (MX9_of a1 (0 : Int32) V) = (MX9_of (V 214 ((13 : Int32)).toNatClampNeg) (0 : Int32) V) then (BX9_fitsOne_26 a1 (1 : Int32) V) else (BX9_fitsOne_26 a1 (0 : Int32) V)
def PX9_fitsOne  (a1 : Int32) (V : gV) : Prop := (PX9_of a1 (0 : Int32) V) ∧ (PX9_of (V 214 ((13 : Int32)).toNatClampNeg) (0 : Int32) V) ∧ (((MX9_of a1 (0 : Int32) V) = (MX9_of (V 214 ((13 : Int32)).toNatClampNeg) (0 : Int32) V) → (PX9_fitsOne_26 a1 (1 : Int32) V)) ∧ (¬ (MX9_of a1 (0 : Int32) V) = (MX9_of (V 214 ((13 : Int32)).toNatClampNeg) (0 : Int32) V) → (PX9_fitsOne_26 a1 (0 : Int32) V)))
abbrev wc_X9_fitsOne : List Cond := Cond.code yX9_fitsOne cX9_fitsOne 6 (some .boolean) :: wsL_law
abbrev r_X9_fitsOne : Room := { frames := 2, cells := 0, slots := 0, locals := 44 }
theorem dd_X9_fitsOne : yX9_fitsOne.cls = RX9 ∧ yX9_fitsOne.cls ≠ "java/lang/invoke/MethodHandle" ∧ yX9_fitsOne.cls ≠ "java/lang/invoke/VarHandle" ∧ (parseMethodDescriptor yX9_fitsOne.desc).map (fun d => d.parameters.length) = some 1 := by decide +kernel
set_option maxHeartbeats 8000000 in
set_option maxRecDepth 100000 in
theorem cc_X9_fitsOne (l : Launch) (G : gG) (V : gV)   (a1 : Int32) (hs : PX9_fitsOne a1 V) : Met l yX9_fitsOne wc_X9_fitsOne r_X9_fitsOne (va_Pc [.ref (gA G 213), .int a1] (gW G V)) (gQR G (MX9_fitsOne a1 V) V) 0 0 (gF G) := by
  refine Met.ofW (cc := cX9_fitsOne) (maxL := 6) (ret := (some .boolean)) (by decide) rfl ?_
  intro p e s m args below meth c s₁ B hml hv
  obtain ⟨rfl, hP, hT⟩ := hv
  have hx := B.exec
  have hb := B.bytes
  have hr := B.returns
  have hw := gh_hw (atoms_spec (ws := wc_X9_fitsOne) B.pre)
  have hown : s.vm.findClass RX9 = some m.cls := findClass_of_methodNamed B.named
  have hlocks := B.notSynchronized
  have hS : va_S (gF G) s.heap s.heap [] := va_S.rf
  have hl := lv_entry ([.ref (gA G 213), .int a1]) (n := 6) (Nat.le_of_ble_eq_true rfl)
  rw [lg_entry_eq]
  generalize (lg_sl ([.ref (gA G 213), .int a1]) ++ List.replicate (6 - (lg_sl ([.ref (gA G 213), .int a1])).length) Slot.unset).toArray = ls at hl ⊢
  have hl : lv_has ls 6 [(0, .ref (gA G 213)), (1, .int a1)] := hl
  obtain ⟨res, hres⟩ : ∃ r, r = MX9_fitsOne a1 V := ⟨_, rfl⟩
  rw [← hres]
  show W p l e r_X9_fitsOne s m ([.ref (gA G 213), .int a1] : List Value).toArray below meth c s.heap [] 0 0 (MQ below (gQR G res V) ([.ref (gA G 213), .int a1] : List Value).toArray s 0 0 (gF G)) (F0 m 0 ls [])
  have hs : (PX9_of a1 (0 : Int32) V) ∧ (PX9_of (V 214 ((13 : Int32)).toNatClampNeg) (0 : Int32) V) ∧ (((MX9_of a1 (0 : Int32) V) = (MX9_of (V 214 ((13 : Int32)).toNatClampNeg) (0 : Int32) V) → (PX9_fitsOne_26 a1 (1 : Int32) V)) ∧ (¬ (MX9_of a1 (0 : Int32) V) = (MX9_of (V 214 ((13 : Int32)).toNatClampNeg) (0 : Int32) V) → (PX9_fitsOne_26 a1 (0 : Int32) V))) := hs
  have hres : res = (if (MX9_of a1 (0 : Int32) V) = (MX9_of (V 214 ((13 : Int32)).toNatClampNeg) (0 : Int32) V) then (BX9_fitsOne_26 a1 (1 : Int32) V) else (BX9_fitsOne_26 a1 (0 : Int32) V)) := hres
  have b_29 : ∀ (n : Nat) (x1 : Int32) (x2 : Int32) (x3 : Int32) (H : Heap) (locs : List Loc) (ls : Array Slot), lv_has ls 6 [(0, .ref (gA G 213)), (1, .int x1), (2, .int x2), (3, .int x3)] → va_P (gD G) vwCl (gL G V) H → va_S (gF G) s.heap H locs → PX9_fitsOne_29  n x1 x2 x3 V → res = BX9_fitsOne_29  n x1 x2 x3 V → W p l e r_X9_fitsOne s m ([.ref (gA G 213), .int a1] : List Value).toArray below meth c H locs 0 0 (MQ below (gQR G res V) ([.ref (gA G 213), .int a1] : List Value).toArray s 0 0 (gF G)) (F0 m 29 ls []) := by
    intro n
    induction n with
    | zero =>
      intro x1 x2 x3 H locs ls hl hP hS hs hres
      exact (show False from hs).elim
    | succ n29 ih29 =>
      have b_123 : ∀ (x1 : Int32) (x3 : Int32) (s0 : Int32) (H : Heap) (locs : List Loc) (ls : Array Slot), lv_has ls 6 [(0, .ref (gA G 213)), (1, .int x1), (3, .int x3)] → va_P (gD G) vwCl (gL G V) H → va_S (gF G) s.heap H locs → PX9_fitsOne_123 (PX9_fitsOne_29 n29) x1 x3 s0 V → res = BX9_fitsOne_123 (BX9_fitsOne_29 n29) x1 x3 s0 V → W p l e r_X9_fitsOne s m ([.ref (gA G 213), .int a1] : List Value).toArray below meth c H locs 0 0 (MQ below (gQR G res V) ([.ref (gA G 213), .int a1] : List Value).toArray s 0 0 (gF G)) (F0 m 123 ls [.int s0]) := by
        intro x1 x3 s0 H locs ls hl hP hS hs hres
        have hs : ((PX9_fitsOne_29 n29) x1 s0 (x3 + (1 : Int32)) V) := hs
        have hres : res = ((BX9_fitsOne_29 n29) x1 s0 (x3 + (1 : Int32)) V) := hres
        refine lv_istore_n (lv' := [(2, .int s0), (0, .ref (gA G 213)), (1, .int x1), (3, .int x3)]) hx hb dX9_fitsOne_123 rfl hl (by decide) rfl (fun ls hl => ?_)
        refine lv_iinc (v := (x3 + (1 : Int32))) (lv' := [(3, .int (x3 + (1 : Int32))), (2, .int s0), (0, .ref (gA G 213)), (1, .int x1)]) hx hb dX9_fitsOne_124 hl (k := 3) rfl rfl (by decide) rfl (fun ls hl => ?_)
        refine lv_goto (tgt := 29) hx hb dX9_fitsOne_127 (by decide) ?_
        exact ih29 x1 s0 (x3 + (1 : Int32)) _ _ _ (lv_sub hl [2, 3, 1, 0] rfl) hP hS hs hres
      have b_63 : ∀ (x1 : Int32) (x3 : Int32) (s0 : Int32) (H : Heap) (locs : List Loc) (ls : Array Slot), lv_has ls 6 [(0, .ref (gA G 213)), (1, .int x1), (3, .int x3)] → va_P (gD G) vwCl (gL G V) H → va_S (gF G) s.heap H locs → PX9_fitsOne_63 (PX9_fitsOne_29 n29) x1 x3 s0 V → res = BX9_fitsOne_63 (BX9_fitsOne_29 n29) x1 x3 s0 V → W p l e r_X9_fitsOne s m ([.ref (gA G 213), .int a1] : List Value).toArray below meth c H locs 0 0 (MQ below (gQR G res V) ([.ref (gA G 213), .int a1] : List Value).toArray s 0 0 (gF G)) (F0 m 63 ls [.int s0]) := by
        intro x1 x3 s0 H locs ls hl hP hS hs hres
        have hs : (PX9_letterAt x1 x3 V) ∧ ((s0 = 0 → (((((V 214 ((6 : Int32)).toNatClampNeg) >>> ((MX9_letterAt x1 x3 V) &&& 31)) &&& (1 : Int32)) = 0 → (PX9_fitsOne_123 (PX9_fitsOne_29 n29) x1 x3 (1 : Int32) V)) ∧ (¬ (((V 214 ((6 : Int32)).toNatClampNeg) >>> ((MX9_letterAt x1 x3 V) &&& 31)) &&& (1 : Int32)) = 0 → (PX9_fitsOne_123 (PX9_fitsOne_29 n29) x1 x3 (0 : Int32) V)))) ∧ (¬ s0 = 0 → (PX9_letterAt (V 214 ((13 : Int32)).toNatClampNeg) x3 V) ∧ (((MX9_letterAt x1 x3 V) = (MX9_letterAt (V 214 ((13 : Int32)).toNatClampNeg) x3 V) → (PX9_fitsOne_123 (PX9_fitsOne_29 n29) x1 x3 (1 : Int32) V)) ∧ (¬ (MX9_letterAt x1 x3 V) = (MX9_letterAt (V 214 ((13 : Int32)).toNatClampNeg) x3 V) → (PX9_fitsOne_123 (PX9_fitsOne_29 n29) x1 x3 (0 : Int32) V))))) := hs
        have hres : res = (if s0 = 0 then (if (((V 214 ((6 : Int32)).toNatClampNeg) >>> ((MX9_letterAt x1 x3 V) &&& 31)) &&& (1 : Int32)) = 0 then (BX9_fitsOne_123 (BX9_fitsOne_29 n29) x1 x3 (1 : Int32) V) else (BX9_fitsOne_123 (BX9_fitsOne_29 n29) x1 x3 (0 : Int32) V)) else (if (MX9_letterAt x1 x3 V) = (MX9_letterAt (V 214 ((13 : Int32)).toNatClampNeg) x3 V) then (BX9_fitsOne_123 (BX9_fitsOne_29 n29) x1 x3 (1 : Int32) V) else (BX9_fitsOne_123 (BX9_fitsOne_29 n29) x1 x3 (0 : Int32) V))) := hres
        refine lv_istore (lv' := [(4, .int s0), (0, .ref (gA G 213)), (1, .int x1), (3, .int x3)]) hx hb dX9_fitsOne_63 hl (by decide) rfl (fun ls hl => ?_)
        refine lv_aload_n hx hb dX9_fitsOne_65 rfl (lv_at hl 1 rfl) ?_
        refine lv_iload_n hx hb dX9_fitsOne_66 rfl (lv_at hl 2 rfl) ?_
        refine lv_iload_n hx hb dX9_fitsOne_67 rfl (lv_at hl 3 rfl) ?_
        obtain ⟨ho_10, hs⟩ := hs
        refine gh_kr (va_runV (As := [.int x1, .int x3]) (rest := []) ⟨hx, hb, hml, hown, hw⟩ (cc_X9_letterAt l G V x1 x3 ho_10) (cwV 2 hw gv_RX9_33 rfl rfl rfl dd_X9_letterAt ⟨Nat.le_of_ble_eq_true rfl, Nat.le_of_ble_eq_true rfl⟩) (gh_preV hT hP (Nat.le_of_ble_eq_true rfl) kd213 rfl rfl) rfl rfl hl.1 rfl (lv_room (Nat.le_of_ble_eq_true rfl)) dX9_fitsOne_68 ⟨Nat.zero_le _, Nat.zero_le _⟩) hS (fun H locs hP hS => ?_)
        refine lv_istore (lv' := [(5, .int (MX9_letterAt x1 x3 V)), (4, .int s0), (0, .ref (gA G 213)), (1, .int x1), (3, .int x3)]) hx hb dX9_fitsOne_71 hl (by decide) rfl (fun ls hl => ?_)
        refine lv_iload hx hb dX9_fitsOne_73 (lv_at hl 1 rfl) ?_
        refine lv_if_eq (tgt := 103) hx hb dX9_fitsOne_75 (by decide) (fun c_11 => ?_) (fun c_11 => ?_)
        · have hres := hres.trans (if_pos c_11)
          have hs := hs.1 c_11
          refine lv_aload_n hx hb dX9_fitsOne_103 rfl (lv_at hl 2 rfl) ?_
          refine gh_get (v := .ref (gA G 214)) (C := RX9) (T := TX9) (N := 11) hx hb hw inlX9 hown hT hP 213 (Nat.le_of_ble_eq_true rfl) kd213 rfl rfl 0 (by decide) (hw _ uw117) rfl dX9_fitsOne_104 ?_
          refine lv_bipush (v := 6) hx hb dX9_fitsOne_107 (by decide) ?_
          refine gh_iald hx hb hT hP 214 (Nat.le_of_ble_eq_true rfl) kd214 (gh_ci (by decide)) dX9_fitsOne_109 ?_
          refine lv_iload hx hb dX9_fitsOne_110 (lv_at hl 0 rfl) ?_
          refine lv_ishr hx hb dX9_fitsOne_112 ?_
          refine lv_iconst (v := 1) hx hb dX9_fitsOne_113 (by decide) ?_
          refine lv_iand hx hb dX9_fitsOne_114 ?_
          refine lv_if_ne (tgt := 122) hx hb dX9_fitsOne_115 (by decide) (fun c_12 => ?_) (fun c_12 => ?_)
          · have hres := hres.trans (if_neg c_12)
            have hs := hs.2 c_12
            refine lv_iconst (v := 0) hx hb dX9_fitsOne_122 (by decide) ?_
            exact b_123 x1 x3 (0 : Int32) _ _ _ (lv_sub hl [2, 3, 4] rfl) hP hS hs hres
          have hres := hres.trans (if_pos c_12)
          have hs := hs.1 c_12
          refine lv_iconst (v := 1) hx hb dX9_fitsOne_118 (by decide) ?_
          refine lv_goto (tgt := 123) hx hb dX9_fitsOne_119 (by decide) ?_
          exact b_123 x1 x3 (1 : Int32) _ _ _ (lv_sub hl [2, 3, 4] rfl) hP hS hs hres
        have hres := hres.trans (if_neg c_11)
        have hs := hs.2 c_11
        refine lv_iload hx hb dX9_fitsOne_78 (lv_at hl 0 rfl) ?_
        refine lv_aload_n hx hb dX9_fitsOne_80 rfl (lv_at hl 2 rfl) ?_
        refine lv_aload_n hx hb dX9_fitsOne_81 rfl (lv_at hl 2 rfl) ?_
        refine gh_get (v := .ref (gA G 214)) (C := RX9) (T := TX9) (N := 11) hx hb hw inlX9 hown hT hP 213 (Nat.le_of_ble_eq_true rfl) kd213 rfl rfl 0 (by decide) (hw _ uw117) rfl dX9_fitsOne_82 ?_
        refine lv_bipush (v := 13) hx hb dX9_fitsOne_85 (by decide) ?_
        refine gh_iald hx hb hT hP 214 (Nat.le_of_ble_eq_true rfl) kd214 (gh_ci (by decide)) dX9_fitsOne_87 ?_
        refine lv_iload_n hx hb dX9_fitsOne_88 rfl (lv_at hl 4 rfl) ?_
        obtain ⟨ho_13, hs⟩ := hs
        refine gh_kr (va_runV (As := [.int (V 214 ((13 : Int32)).toNatClampNeg), .int x3]) (rest := [.int (MX9_letterAt x1 x3 V)]) ⟨hx, hb, hml, hown, hw⟩ (cc_X9_letterAt l G V (V 214 ((13 : Int32)).toNatClampNeg) x3 ho_13) (cwV 2 hw gv_RX9_33 rfl rfl rfl dd_X9_letterAt ⟨Nat.le_of_ble_eq_true rfl, Nat.le_of_ble_eq_true rfl⟩) (gh_preV hT hP (Nat.le_of_ble_eq_true rfl) kd213 rfl rfl) rfl rfl hl.1 rfl (lv_room (Nat.le_of_ble_eq_true rfl)) dX9_fitsOne_89 ⟨Nat.zero_le _, Nat.zero_le _⟩) hS (fun H locs hP hS => ?_)
        refine lv_icmp_ne (tgt := 99) hx hb dX9_fitsOne_92 (by decide) (fun c_14 => ?_) (fun c_14 => ?_)
        · have hres := hres.trans (if_neg c_14)
          have hs := hs.2 c_14
          refine lv_iconst (v := 0) hx hb dX9_fitsOne_99 (by decide) ?_
          refine lv_goto (tgt := 123) hx hb dX9_fitsOne_100 (by decide) ?_
          exact b_123 x1 x3 (0 : Int32) _ _ _ (lv_sub hl [2, 3, 4] rfl) hP hS hs hres
        have hres := hres.trans (if_pos c_14)
        have hs := hs.1 c_14
        refine lv_iconst (v := 1) hx hb dX9_fitsOne_95 (by decide) ?_
        refine lv_goto (tgt := 123) hx hb dX9_fitsOne_96 (by decide) ?_
        exact b_123 x1 x3 (1 : Int32) _ _ _ (lv_sub hl [2, 3, 4] rfl) hP hS hs hres
      intro x1 x2 x3 H locs ls hl hP hS hs hres
      have hs : (PX9_of x1 (0 : Int32) V) ∧ (((MX9_of x1 (0 : Int32) V) ≤ x3 → (gZ x2)) ∧ (¬ (MX9_of x1 (0 : Int32) V) ≤ x3 → ((x2 = 0 → (gZ x2)) ∧ (¬ x2 = 0 → (((((V 214 ((7 : Int32)).toNatClampNeg) >>> (x3 &&& 31)) &&& (1 : Int32)) = (1 : Int32) → (PX9_fitsOne_63 (PX9_fitsOne_29 n29) x1 x3 (1 : Int32) V)) ∧ (¬ (((V 214 ((7 : Int32)).toNatClampNeg) >>> (x3 &&& 31)) &&& (1 : Int32)) = (1 : Int32) → (PX9_fitsOne_63 (PX9_fitsOne_29 n29) x1 x3 (0 : Int32) V))))))) := hs
      have hres : res = (if (MX9_of x1 (0 : Int32) V) ≤ x3 then (x2) else (if x2 = 0 then (x2) else (if (((V 214 ((7 : Int32)).toNatClampNeg) >>> (x3 &&& 31)) &&& (1 : Int32)) = (1 : Int32) then (BX9_fitsOne_63 (BX9_fitsOne_29 n29) x1 x3 (1 : Int32) V) else (BX9_fitsOne_63 (BX9_fitsOne_29 n29) x1 x3 (0 : Int32) V)))) := hres
      refine lv_iload_n hx hb dX9_fitsOne_29 rfl (lv_at hl 3 rfl) ?_
      refine lv_aload_n hx hb dX9_fitsOne_30 rfl (lv_at hl 0 rfl) ?_
      refine lv_iload_n hx hb dX9_fitsOne_31 rfl (lv_at hl 1 rfl) ?_
      refine lv_iconst (v := 0) hx hb dX9_fitsOne_32 (by decide) ?_
      obtain ⟨ho_4, hs⟩ := hs
      refine gh_kr (va_runV (As := [.int x1, .int (0 : Int32)]) (rest := [.int x3]) ⟨hx, hb, hml, hown, hw⟩ (cc_X9_of l G V x1 (0 : Int32) ho_4) (cwV 2 hw gv_RX9_29 rfl rfl rfl dd_X9_of ⟨Nat.le_of_ble_eq_true rfl, Nat.le_of_ble_eq_true rfl⟩) (gh_preV hT hP (Nat.le_of_ble_eq_true rfl) kd213 rfl rfl) rfl rfl hl.1 rfl (lv_room (Nat.le_of_ble_eq_true rfl)) dX9_fitsOne_33 ⟨Nat.zero_le _, Nat.zero_le _⟩) hS (fun H locs hP hS => ?_)
      refine lv_icmp_ge (tgt := 130) hx hb dX9_fitsOne_36 (by decide) (fun c_5 => ?_) (fun c_5 => ?_)
      · have hres := hres.trans (if_pos c_5)
        have hs := hs.1 c_5
        refine lv_iload_n hx hb dX9_fitsOne_130 rfl (lv_at hl 2 rfl) ?_
        have ho_6 := hs
        exact gh_zretR hx hb hr ho_6.n hlocks hP hS hT hres dX9_fitsOne_131
      have hres := hres.trans (if_neg c_5)
      have hs := hs.2 c_5
      refine lv_iload_n hx hb dX9_fitsOne_39 rfl (lv_at hl 2 rfl) ?_
      refine lv_if_eq (tgt := 130) hx hb dX9_fitsOne_40 (by decide) (fun c_7 => ?_) (fun c_7 => ?_)
      · have hres := hres.trans (if_pos c_7)
        have hs := hs.1 c_7
        refine lv_iload_n hx hb dX9_fitsOne_130 rfl (lv_at hl 2 rfl) ?_
        have ho_8 := hs
        exact gh_zretR hx hb hr ho_8.n hlocks hP hS hT hres dX9_fitsOne_131
      have hres := hres.trans (if_neg c_7)
      have hs := hs.2 c_7
      refine lv_aload_n hx hb dX9_fitsOne_43 rfl (lv_at hl 0 rfl) ?_
      refine gh_get (v := .ref (gA G 214)) (C := RX9) (T := TX9) (N := 11) hx hb hw inlX9 hown hT hP 213 (Nat.le_of_ble_eq_true rfl) kd213 rfl rfl 0 (by decide) (hw _ uw117) rfl dX9_fitsOne_44 ?_
      refine lv_bipush (v := 7) hx hb dX9_fitsOne_47 (by decide) ?_
      refine gh_iald hx hb hT hP 214 (Nat.le_of_ble_eq_true rfl) kd214 (gh_ci (by decide)) dX9_fitsOne_49 ?_
      refine lv_iload_n hx hb dX9_fitsOne_50 rfl (lv_at hl 3 rfl) ?_
      refine lv_ishr hx hb dX9_fitsOne_51 ?_
      refine lv_iconst (v := 1) hx hb dX9_fitsOne_52 (by decide) ?_
      refine lv_iand hx hb dX9_fitsOne_53 ?_
      refine lv_iconst (v := 1) hx hb dX9_fitsOne_54 (by decide) ?_
      refine lv_icmp_ne (tgt := 62) hx hb dX9_fitsOne_55 (by decide) (fun c_9 => ?_) (fun c_9 => ?_)
      · have hres := hres.trans (if_neg c_9)
        have hs := hs.2 c_9
        refine lv_iconst (v := 0) hx hb dX9_fitsOne_62 (by decide) ?_
        exact b_63 x1 x3 (0 : Int32) _ _ _ (lv_sub hl [0, 1, 3] rfl) hP hS hs hres
      have hres := hres.trans (if_pos c_9)
      have hs := hs.1 c_9
      refine lv_iconst (v := 1) hx hb dX9_fitsOne_58 (by decide) ?_
      refine lv_goto (tgt := 63) hx hb dX9_fitsOne_59 (by decide) ?_
      exact b_63 x1 x3 (1 : Int32) _ _ _ (lv_sub hl [0, 1, 3] rfl) hP hS hs hres
  have b_26 : ∀ (x1 : Int32) (s0 : Int32) (H : Heap) (locs : List Loc) (ls : Array Slot), lv_has ls 6 [(0, .ref (gA G 213)), (1, .int x1)] → va_P (gD G) vwCl (gL G V) H → va_S (gF G) s.heap H locs → PX9_fitsOne_26  x1 s0 V → res = BX9_fitsOne_26  x1 s0 V → W p l e r_X9_fitsOne s m ([.ref (gA G 213), .int a1] : List Value).toArray below meth c H locs 0 0 (MQ below (gQR G res V) ([.ref (gA G 213), .int a1] : List Value).toArray s 0 0 (gF G)) (F0 m 26 ls [.int s0]) := by
    intro x1 s0 H locs ls hl hP hS hs hres
    have hs : (PX9_fitsOne_29 1000 x1 s0 (0 : Int32) V) := hs
    have hres : res = (BX9_fitsOne_29 1000 x1 s0 (0 : Int32) V) := hres
    refine lv_istore_n (lv' := [(2, .int s0), (0, .ref (gA G 213)), (1, .int x1)]) hx hb dX9_fitsOne_26 rfl hl (by decide) rfl (fun ls hl => ?_)
    refine lv_iconst (v := 0) hx hb dX9_fitsOne_27 (by decide) ?_
    refine lv_istore_n (lv' := [(3, .int (0 : Int32)), (2, .int s0), (0, .ref (gA G 213)), (1, .int x1)]) hx hb dX9_fitsOne_28 rfl hl (by decide) rfl (fun ls hl => ?_)
    exact b_29 1000 x1 s0 (0 : Int32) _ _ _ (lv_sub hl [2, 3, 1, 0] rfl) hP hS hs hres
  refine lv_aload_n hx hb dX9_fitsOne_0 rfl (lv_at hl 0 rfl) ?_
  refine lv_iload_n hx hb dX9_fitsOne_1 rfl (lv_at hl 1 rfl) ?_
  refine lv_iconst (v := 0) hx hb dX9_fitsOne_2 (by decide) ?_
  obtain ⟨ho_1, hs⟩ := hs
  refine gh_kr (va_runV (As := [.int a1, .int (0 : Int32)]) (rest := []) ⟨hx, hb, hml, hown, hw⟩ (cc_X9_of l G V a1 (0 : Int32) ho_1) (cwV 2 hw gv_RX9_29 rfl rfl rfl dd_X9_of ⟨Nat.le_of_ble_eq_true rfl, Nat.le_of_ble_eq_true rfl⟩) (gh_preV hT hP (Nat.le_of_ble_eq_true rfl) kd213 rfl rfl) rfl rfl hl.1 rfl (lv_room (Nat.le_of_ble_eq_true rfl)) dX9_fitsOne_3 ⟨Nat.zero_le _, Nat.zero_le _⟩) hS (fun H locs hP hS => ?_)
  refine lv_aload_n hx hb dX9_fitsOne_6 rfl (lv_at hl 0 rfl) ?_
  refine lv_aload_n hx hb dX9_fitsOne_7 rfl (lv_at hl 0 rfl) ?_
  refine gh_get (v := .ref (gA G 214)) (C := RX9) (T := TX9) (N := 11) hx hb hw inlX9 hown hT hP 213 (Nat.le_of_ble_eq_true rfl) kd213 rfl rfl 0 (by decide) (hw _ uw117) rfl dX9_fitsOne_8 ?_
  refine lv_bipush (v := 13) hx hb dX9_fitsOne_11 (by decide) ?_
  refine gh_iald hx hb hT hP 214 (Nat.le_of_ble_eq_true rfl) kd214 (gh_ci (by decide)) dX9_fitsOne_13 ?_
  refine lv_iconst (v := 0) hx hb dX9_fitsOne_14 (by decide) ?_
  obtain ⟨ho_2, hs⟩ := hs
  refine gh_kr (va_runV (As := [.int (V 214 ((13 : Int32)).toNatClampNeg), .int (0 : Int32)]) (rest := [.int (MX9_of a1 (0 : Int32) V)]) ⟨hx, hb, hml, hown, hw⟩ (cc_X9_of l G V (V 214 ((13 : Int32)).toNatClampNeg) (0 : Int32) ho_2) (cwV 2 hw gv_RX9_29 rfl rfl rfl dd_X9_of ⟨Nat.le_of_ble_eq_true rfl, Nat.le_of_ble_eq_true rfl⟩) (gh_preV hT hP (Nat.le_of_ble_eq_true rfl) kd213 rfl rfl) rfl rfl hl.1 rfl (lv_room (Nat.le_of_ble_eq_true rfl)) dX9_fitsOne_15 ⟨Nat.zero_le _, Nat.zero_le _⟩) hS (fun H locs hP hS => ?_)
  refine lv_icmp_ne (tgt := 25) hx hb dX9_fitsOne_18 (by decide) (fun c_3 => ?_) (fun c_3 => ?_)
  · have hres := hres.trans (if_neg c_3)
    have hs := hs.2 c_3
    refine lv_iconst (v := 0) hx hb dX9_fitsOne_25 (by decide) ?_
    exact b_26 a1 (0 : Int32) _ _ _ (lv_sub hl [0, 1] rfl) hP hS hs hres
  have hres := hres.trans (if_pos c_3)
  have hs := hs.1 c_3
  refine lv_iconst (v := 1) hx hb dX9_fitsOne_21 (by decide) ?_
  refine lv_goto (tgt := 26) hx hb dX9_fitsOne_22 (by decide) ?_
  exact b_26 a1 (1 : Int32) _ _ _ (lv_sub hl [0, 1] rfl) hP hS hs hres
theorem gv_RX9_95 : GoodIn wsL_law (wsV RX9 95 RX9 yX9_fitsOne wc_X9_fitsOne) := gh_gV uw538 uw539 uw540 uw5 uw541
def BX9_fitting_30  (K4 : Int32 → Int32 → gV → Int32) (x2 : Int32) (s0 : Int32) (s1 : Int32) (V : gV) : Int32 := K4 (s1 ||| s0) (x2 + (1 : Int32)) V
def PX9_fitting_30  (KP4 : Int32 → Int32 → gV → Prop) (x2 : Int32) (s0 : Int32) (s1 : Int32) (V : gV) : Prop := (KP4 (s1 ||| s0) (x2 + (1 : Int32)) V)
def BX9_fitting_4   : Nat → Int32 → Int32 → gV → Int32
  | 0, _, _, _ => 0
  | n + 1, x1, x2, V => if (V 214 ((0 : Int32)).toNatClampNeg) ≤ x2 then (x1) else (if (MX9_fitsOne x2 V) = 0 then (BX9_fitting_30 (BX9_fitting_4 n) x2 (0 : Int32) x1 V) else (BX9_fitting_30 (BX9_fitting_4 n) x2 ((1 : Int32) <<< (x2 &&& 31)) x1 V))
def PX9_fitting_4   : Nat → Int32 → Int32 → gV → Prop
  | 0, _, _, _ => False
  | n + 1, x1, x2, V => ((¬ (V 214 ((0 : Int32)).toNatClampNeg) ≤ x2 → (PX9_fitsOne x2 V) ∧ (((MX9_fitsOne x2 V) = 0 → (PX9_fitting_30 (PX9_fitting_4 n) x2 (0 : Int32) x1 V)) ∧ (¬ (MX9_fitsOne x2 V) = 0 → (PX9_fitting_30 (PX9_fitting_4 n) x2 ((1 : Int32) <<< (x2 &&& 31)) x1 V)))))
def MX9_fitting   (V : gV) : Int32 := BX9_fitting_4 1000 (0 : Int32) (0 : Int32) V
def PX9_fitting   (V : gV) : Prop := (PX9_fitting_4 1000 (0 : Int32) (0 : Int32) V)
abbrev wc_X9_fitting : List Cond := Cond.code yX9_fitting cX9_fitting 3 (some .int) :: wsL_law
abbrev r_X9_fitting : Room := { frames := 3, cells := 0, slots := 0, locals := 69 }
theorem dd_X9_fitting : yX9_fitting.cls = RX9 ∧ yX9_fitting.cls ≠ "java/lang/invoke/MethodHandle" ∧ yX9_fitting.cls ≠ "java/lang/invoke/VarHandle" ∧ (parseMethodDescriptor yX9_fitting.desc).map (fun d => d.parameters.length) = some 0 := by decide +kernel
set_option maxHeartbeats 8000000 in
set_option maxRecDepth 100000 in
theorem cc_X9_fitting (l : Launch) (G : gG) (V : gV)    (hs : PX9_fitting V) : Met l yX9_fitting wc_X9_fitting r_X9_fitting (va_Pc [.ref (gA G 213)] (gW G V)) (gQR G (MX9_fitting V) V) 0 0 (gF G) := by
  refine Met.ofW (cc := cX9_fitting) (maxL := 3) (ret := (some .int)) (by decide) rfl ?_
  intro p e s m args below meth c s₁ B hml hv
  obtain ⟨rfl, hP, hT⟩ := hv
  have hx := B.exec
  have hb := B.bytes
  have hr := B.returns
  have hw := gh_hw (atoms_spec (ws := wc_X9_fitting) B.pre)
  have hown : s.vm.findClass RX9 = some m.cls := findClass_of_methodNamed B.named
  have hlocks := B.notSynchronized
  have hS : va_S (gF G) s.heap s.heap [] := va_S.rf
  have hl := lv_entry ([.ref (gA G 213)]) (n := 3) (Nat.le_of_ble_eq_true rfl)
  rw [lg_entry_eq]
  generalize (lg_sl ([.ref (gA G 213)]) ++ List.replicate (3 - (lg_sl ([.ref (gA G 213)])).length) Slot.unset).toArray = ls at hl ⊢
  have hl : lv_has ls 3 [(0, .ref (gA G 213))] := hl
  obtain ⟨res, hres⟩ : ∃ r, r = MX9_fitting V := ⟨_, rfl⟩
  rw [← hres]
  show W p l e r_X9_fitting s m ([.ref (gA G 213)] : List Value).toArray below meth c s.heap [] 0 0 (MQ below (gQR G res V) ([.ref (gA G 213)] : List Value).toArray s 0 0 (gF G)) (F0 m 0 ls [])
  have hs : (PX9_fitting_4 1000 (0 : Int32) (0 : Int32) V) := hs
  have hres : res = (BX9_fitting_4 1000 (0 : Int32) (0 : Int32) V) := hres
  have b_4 : ∀ (n : Nat) (x1 : Int32) (x2 : Int32) (H : Heap) (locs : List Loc) (ls : Array Slot), lv_has ls 3 [(0, .ref (gA G 213)), (1, .int x1), (2, .int x2)] → va_P (gD G) vwCl (gL G V) H → va_S (gF G) s.heap H locs → PX9_fitting_4  n x1 x2 V → res = BX9_fitting_4  n x1 x2 V → W p l e r_X9_fitting s m ([.ref (gA G 213)] : List Value).toArray below meth c H locs 0 0 (MQ below (gQR G res V) ([.ref (gA G 213)] : List Value).toArray s 0 0 (gF G)) (F0 m 4 ls []) := by
    intro n
    induction n with
    | zero =>
      intro x1 x2 H locs ls hl hP hS hs hres
      exact (show False from hs).elim
    | succ n4 ih4 =>
      have b_30 : ∀ (x2 : Int32) (s0 : Int32) (s1 : Int32) (H : Heap) (locs : List Loc) (ls : Array Slot), lv_has ls 3 [(0, .ref (gA G 213)), (2, .int x2)] → va_P (gD G) vwCl (gL G V) H → va_S (gF G) s.heap H locs → PX9_fitting_30 (PX9_fitting_4 n4) x2 s0 s1 V → res = BX9_fitting_30 (BX9_fitting_4 n4) x2 s0 s1 V → W p l e r_X9_fitting s m ([.ref (gA G 213)] : List Value).toArray below meth c H locs 0 0 (MQ below (gQR G res V) ([.ref (gA G 213)] : List Value).toArray s 0 0 (gF G)) (F0 m 30 ls [.int s0, .int s1]) := by
        intro x2 s0 s1 H locs ls hl hP hS hs hres
        have hs : ((PX9_fitting_4 n4) (s1 ||| s0) (x2 + (1 : Int32)) V) := hs
        have hres : res = ((BX9_fitting_4 n4) (s1 ||| s0) (x2 + (1 : Int32)) V) := hres
        refine lv_ior hx hb dX9_fitting_30 ?_
        refine lv_istore_n (lv' := [(1, .int (s1 ||| s0)), (0, .ref (gA G 213)), (2, .int x2)]) hx hb dX9_fitting_31 rfl hl (by decide) rfl (fun ls hl => ?_)
        refine lv_iinc (v := (x2 + (1 : Int32))) (lv' := [(2, .int (x2 + (1 : Int32))), (1, .int (s1 ||| s0)), (0, .ref (gA G 213))]) hx hb dX9_fitting_32 hl (k := 2) rfl rfl (by decide) rfl (fun ls hl => ?_)
        refine lv_goto (tgt := 4) hx hb dX9_fitting_35 (by decide) ?_
        exact ih4 (s1 ||| s0) (x2 + (1 : Int32)) _ _ _ (lv_sub hl [2, 1, 0] rfl) hP hS hs hres
      intro x1 x2 H locs ls hl hP hS hs hres
      have hs : ((¬ (V 214 ((0 : Int32)).toNatClampNeg) ≤ x2 → (PX9_fitsOne x2 V) ∧ (((MX9_fitsOne x2 V) = 0 → (PX9_fitting_30 (PX9_fitting_4 n4) x2 (0 : Int32) x1 V)) ∧ (¬ (MX9_fitsOne x2 V) = 0 → (PX9_fitting_30 (PX9_fitting_4 n4) x2 ((1 : Int32) <<< (x2 &&& 31)) x1 V))))) := hs
      have hres : res = (if (V 214 ((0 : Int32)).toNatClampNeg) ≤ x2 then (x1) else (if (MX9_fitsOne x2 V) = 0 then (BX9_fitting_30 (BX9_fitting_4 n4) x2 (0 : Int32) x1 V) else (BX9_fitting_30 (BX9_fitting_4 n4) x2 ((1 : Int32) <<< (x2 &&& 31)) x1 V))) := hres
      refine lv_iload_n hx hb dX9_fitting_4 rfl (lv_at hl 2 rfl) ?_
      refine lv_aload_n hx hb dX9_fitting_5 rfl (lv_at hl 0 rfl) ?_
      refine gh_get (v := .ref (gA G 214)) (C := RX9) (T := TX9) (N := 11) hx hb hw inlX9 hown hT hP 213 (Nat.le_of_ble_eq_true rfl) kd213 rfl rfl 0 (by decide) (hw _ uw117) rfl dX9_fitting_6 ?_
      refine lv_iconst (v := 0) hx hb dX9_fitting_9 (by decide) ?_
      refine gh_iald hx hb hT hP 214 (Nat.le_of_ble_eq_true rfl) kd214 (gh_ci (by decide)) dX9_fitting_10 ?_
      refine lv_icmp_ge (tgt := 38) hx hb dX9_fitting_11 (by decide) (fun c_1 => ?_) (fun c_1 => ?_)
      · have hres := hres.trans (if_pos c_1)
        refine lv_iload_n hx hb dX9_fitting_38 rfl (lv_at hl 1 rfl) ?_
        exact gh_iretR hx hb hr hlocks hP hS hT hres dX9_fitting_39
      have hres := hres.trans (if_neg c_1)
      have hs := hs c_1
      refine lv_iload_n hx hb dX9_fitting_14 rfl (lv_at hl 1 rfl) ?_
      refine lv_aload_n hx hb dX9_fitting_15 rfl (lv_at hl 0 rfl) ?_
      refine lv_iload_n hx hb dX9_fitting_16 rfl (lv_at hl 2 rfl) ?_
      obtain ⟨ho_2, hs⟩ := hs
      refine gh_kr (va_runV (As := [.int x2]) (rest := [.int x1]) ⟨hx, hb, hml, hown, hw⟩ (cc_X9_fitsOne l G V x2 ho_2) (cwV 1 hw gv_RX9_95 rfl rfl rfl dd_X9_fitsOne ⟨Nat.le_of_ble_eq_true rfl, Nat.le_of_ble_eq_true rfl⟩) (gh_preV hT hP (Nat.le_of_ble_eq_true rfl) kd213 rfl rfl) rfl rfl hl.1 rfl (lv_room (Nat.le_of_ble_eq_true rfl)) dX9_fitting_17 ⟨Nat.zero_le _, Nat.zero_le _⟩) hS (fun H locs hP hS => ?_)
      refine lv_if_eq (tgt := 29) hx hb dX9_fitting_20 (by decide) (fun c_3 => ?_) (fun c_3 => ?_)
      · have hres := hres.trans (if_pos c_3)
        have hs := hs.1 c_3
        refine lv_iconst (v := 0) hx hb dX9_fitting_29 (by decide) ?_
        exact b_30 x2 (0 : Int32) x1 _ _ _ (lv_sub hl [0, 2] rfl) hP hS hs hres
      have hres := hres.trans (if_neg c_3)
      have hs := hs.2 c_3
      refine lv_iconst (v := 1) hx hb dX9_fitting_23 (by decide) ?_
      refine lv_iload_n hx hb dX9_fitting_24 rfl (lv_at hl 2 rfl) ?_
      refine lv_ishl hx hb dX9_fitting_25 ?_
      refine lv_goto (tgt := 30) hx hb dX9_fitting_26 (by decide) ?_
      exact b_30 x2 ((1 : Int32) <<< (x2 &&& 31)) x1 _ _ _ (lv_sub hl [0, 2] rfl) hP hS hs hres
  refine lv_iconst (v := 0) hx hb dX9_fitting_0 (by decide) ?_
  refine lv_istore_n (lv' := [(1, .int (0 : Int32)), (0, .ref (gA G 213))]) hx hb dX9_fitting_1 rfl hl (by decide) rfl (fun ls hl => ?_)
  refine lv_iconst (v := 0) hx hb dX9_fitting_2 (by decide) ?_
  refine lv_istore_n (lv' := [(2, .int (0 : Int32)), (1, .int (0 : Int32)), (0, .ref (gA G 213))]) hx hb dX9_fitting_3 rfl hl (by decide) rfl (fun ls hl => ?_)
  exact b_4 1000 (0 : Int32) (0 : Int32) _ _ _ (lv_sub hl [2, 1, 0] rfl) hP hS hs hres
theorem gv_RX9_85 : GoodIn wsL_law (wsV RX9 85 RX9 yX9_places wc_X9_places) := gh_gV uw451 uw452 uw453 uw5 uw454
def BX9_weightsOf_66  (K5 : Int32 → Int32 → Int32 → Int32 → gV → Int32) (x1 : Int32) (x2 : Int32) (x4 : Int32) (s0 : Int32) (s1 : Int32) (V : gV) : Int32 := K5 x1 x2 (s1 + s0) (x4 + (1 : Int32)) V
def PX9_weightsOf_66  (KP5 : Int32 → Int32 → Int32 → Int32 → gV → Prop) (x1 : Int32) (x2 : Int32) (x4 : Int32) (s0 : Int32) (s1 : Int32) (V : gV) : Prop := (KP5 x1 x2 (s1 + s0) (x4 + (1 : Int32)) V)
def BX9_weightsOf_65  (K5 : Int32 → Int32 → Int32 → Int32 → gV → Int32) (x1 : Int32) (x2 : Int32) (x4 : Int32) (s0 : Int32) (V : gV) : Int32 := BX9_weightsOf_66 K5 x1 x2 x4 (0 : Int32) s0 V
def PX9_weightsOf_65  (KP5 : Int32 → Int32 → Int32 → Int32 → gV → Prop) (x1 : Int32) (x2 : Int32) (x4 : Int32) (s0 : Int32) (V : gV) : Prop := (PX9_weightsOf_66 KP5 x1 x2 x4 (0 : Int32) s0 V)
def BX9_weightsOf_37  (K5 : Int32 → Int32 → Int32 → Int32 → gV → Int32) (x1 : Int32) (x2 : Int32) (x3 : Int32) (x4 : Int32) (s0 : Int32) (V : gV) : Int32 := if ((x1 >>> (x4 &&& 31)) &&& (1 : Int32)) = (1 : Int32) then (if s0 = 0 then (BX9_weightsOf_65 K5 x1 x2 x4 x3 V) else (BX9_weightsOf_66 K5 x1 x2 x4 (MX9_of x4 (1 : Int32) V) x3 V)) else (BX9_weightsOf_65 K5 x1 x2 x4 x3 V)
def PX9_weightsOf_37  (KP5 : Int32 → Int32 → Int32 → Int32 → gV → Prop) (x1 : Int32) (x2 : Int32) (x3 : Int32) (x4 : Int32) (s0 : Int32) (V : gV) : Prop := ((((x1 >>> (x4 &&& 31)) &&& (1 : Int32)) = (1 : Int32) → ((s0 = 0 → (PX9_weightsOf_65 KP5 x1 x2 x4 x3 V)) ∧ (¬ s0 = 0 → (PX9_of x4 (1 : Int32) V) ∧ (PX9_weightsOf_66 KP5 x1 x2 x4 (MX9_of x4 (1 : Int32) V) x3 V)))) ∧ (¬ ((x1 >>> (x4 &&& 31)) &&& (1 : Int32)) = (1 : Int32) → (PX9_weightsOf_65 KP5 x1 x2 x4 x3 V)))
def BX9_weightsOf_32  (K5 : Int32 → Int32 → Int32 → Int32 → gV → Int32) (x1 : Int32) (x2 : Int32) (x3 : Int32) (x4 : Int32) (V : gV) : Int32 := BX9_weightsOf_37 K5 x1 x2 x3 x4 (1 : Int32) V
def PX9_weightsOf_32  (KP5 : Int32 → Int32 → Int32 → Int32 → gV → Prop) (x1 : Int32) (x2 : Int32) (x3 : Int32) (x4 : Int32) (V : gV) : Prop := (PX9_weightsOf_37 KP5 x1 x2 x3 x4 (1 : Int32) V)
def BX9_weightsOf_5   : Nat → Int32 → Int32 → Int32 → Int32 → gV → Int32
  | 0, _, _, _, _, _ => 0
  | n + 1, x1, x2, x3, x4, V => if (V 214 ((0 : Int32)).toNatClampNeg) ≤ x4 then (x3) else (if x2 = (26 : Int32) then (BX9_weightsOf_32 (BX9_weightsOf_5 n) x1 x2 x3 x4 V) else (if (MX9_places x4 x2 V) = 0 then (BX9_weightsOf_37 (BX9_weightsOf_5 n) x1 x2 x3 x4 (0 : Int32) V) else (BX9_weightsOf_32 (BX9_weightsOf_5 n) x1 x2 x3 x4 V)))
def PX9_weightsOf_5   : Nat → Int32 → Int32 → Int32 → Int32 → gV → Prop
  | 0, _, _, _, _, _ => False
  | n + 1, x1, x2, x3, x4, V => ((¬ (V 214 ((0 : Int32)).toNatClampNeg) ≤ x4 → ((x2 = (26 : Int32) → (PX9_weightsOf_32 (PX9_weightsOf_5 n) x1 x2 x3 x4 V)) ∧ (¬ x2 = (26 : Int32) → (PX9_places x4 x2 V) ∧ (((MX9_places x4 x2 V) = 0 → (PX9_weightsOf_37 (PX9_weightsOf_5 n) x1 x2 x3 x4 (0 : Int32) V)) ∧ (¬ (MX9_places x4 x2 V) = 0 → (PX9_weightsOf_32 (PX9_weightsOf_5 n) x1 x2 x3 x4 V)))))))
def MX9_weightsOf  (a1 : Int32) (a2 : Int32) (V : gV) : Int32 := BX9_weightsOf_5 1000 a1 a2 (0 : Int32) (0 : Int32) V
def PX9_weightsOf  (a1 : Int32) (a2 : Int32) (V : gV) : Prop := (PX9_weightsOf_5 1000 a1 a2 (0 : Int32) (0 : Int32) V)
abbrev wc_X9_weightsOf : List Cond := Cond.code yX9_weightsOf cX9_weightsOf 6 (some .int) :: wsL_law
abbrev r_X9_weightsOf : Room := { frames := 3, cells := 0, slots := 0, locals := 68 }
theorem dd_X9_weightsOf : yX9_weightsOf.cls = RX9 ∧ yX9_weightsOf.cls ≠ "java/lang/invoke/MethodHandle" ∧ yX9_weightsOf.cls ≠ "java/lang/invoke/VarHandle" ∧ (parseMethodDescriptor yX9_weightsOf.desc).map (fun d => d.parameters.length) = some 2 := by decide +kernel
set_option maxHeartbeats 8000000 in
set_option maxRecDepth 100000 in
theorem cc_X9_weightsOf (l : Launch) (G : gG) (V : gV)   (a1 : Int32) (a2 : Int32) (hs : PX9_weightsOf a1 a2 V) : Met l yX9_weightsOf wc_X9_weightsOf r_X9_weightsOf (va_Pc [.ref (gA G 213), .int a1, .int a2] (gW G V)) (gQR G (MX9_weightsOf a1 a2 V) V) 0 0 (gF G) := by
  refine Met.ofW (cc := cX9_weightsOf) (maxL := 6) (ret := (some .int)) (by decide) rfl ?_
  intro p e s m args below meth c s₁ B hml hv
  obtain ⟨rfl, hP, hT⟩ := hv
  have hx := B.exec
  have hb := B.bytes
  have hr := B.returns
  have hw := gh_hw (atoms_spec (ws := wc_X9_weightsOf) B.pre)
  have hown : s.vm.findClass RX9 = some m.cls := findClass_of_methodNamed B.named
  have hlocks := B.notSynchronized
  have hS : va_S (gF G) s.heap s.heap [] := va_S.rf
  have hl := lv_entry ([.ref (gA G 213), .int a1, .int a2]) (n := 6) (Nat.le_of_ble_eq_true rfl)
  rw [lg_entry_eq]
  generalize (lg_sl ([.ref (gA G 213), .int a1, .int a2]) ++ List.replicate (6 - (lg_sl ([.ref (gA G 213), .int a1, .int a2])).length) Slot.unset).toArray = ls at hl ⊢
  have hl : lv_has ls 6 [(0, .ref (gA G 213)), (1, .int a1), (2, .int a2)] := hl
  obtain ⟨res, hres⟩ : ∃ r, r = MX9_weightsOf a1 a2 V := ⟨_, rfl⟩
  rw [← hres]
  show W p l e r_X9_weightsOf s m ([.ref (gA G 213), .int a1, .int a2] : List Value).toArray below meth c s.heap [] 0 0 (MQ below (gQR G res V) ([.ref (gA G 213), .int a1, .int a2] : List Value).toArray s 0 0 (gF G)) (F0 m 0 ls [])
  have hs : (PX9_weightsOf_5 1000 a1 a2 (0 : Int32) (0 : Int32) V) := hs
  have hres : res = (BX9_weightsOf_5 1000 a1 a2 (0 : Int32) (0 : Int32) V) := hres
  have b_5 : ∀ (n : Nat) (x1 : Int32) (x2 : Int32) (x3 : Int32) (x4 : Int32) (H : Heap) (locs : List Loc) (ls : Array Slot), lv_has ls 6 [(0, .ref (gA G 213)), (1, .int x1), (2, .int x2), (3, .int x3), (4, .int x4)] → va_P (gD G) vwCl (gL G V) H → va_S (gF G) s.heap H locs → PX9_weightsOf_5  n x1 x2 x3 x4 V → res = BX9_weightsOf_5  n x1 x2 x3 x4 V → W p l e r_X9_weightsOf s m ([.ref (gA G 213), .int a1, .int a2] : List Value).toArray below meth c H locs 0 0 (MQ below (gQR G res V) ([.ref (gA G 213), .int a1, .int a2] : List Value).toArray s 0 0 (gF G)) (F0 m 5 ls []) := by
    intro n
    induction n with
    | zero =>
      intro x1 x2 x3 x4 H locs ls hl hP hS hs hres
      exact (show False from hs).elim
    | succ n5 ih5 =>
      have b_66 : ∀ (x1 : Int32) (x2 : Int32) (x4 : Int32) (s0 : Int32) (s1 : Int32) (H : Heap) (locs : List Loc) (ls : Array Slot), lv_has ls 6 [(0, .ref (gA G 213)), (1, .int x1), (2, .int x2), (4, .int x4)] → va_P (gD G) vwCl (gL G V) H → va_S (gF G) s.heap H locs → PX9_weightsOf_66 (PX9_weightsOf_5 n5) x1 x2 x4 s0 s1 V → res = BX9_weightsOf_66 (BX9_weightsOf_5 n5) x1 x2 x4 s0 s1 V → W p l e r_X9_weightsOf s m ([.ref (gA G 213), .int a1, .int a2] : List Value).toArray below meth c H locs 0 0 (MQ below (gQR G res V) ([.ref (gA G 213), .int a1, .int a2] : List Value).toArray s 0 0 (gF G)) (F0 m 66 ls [.int s0, .int s1]) := by
        intro x1 x2 x4 s0 s1 H locs ls hl hP hS hs hres
        have hs : ((PX9_weightsOf_5 n5) x1 x2 (s1 + s0) (x4 + (1 : Int32)) V) := hs
        have hres : res = ((BX9_weightsOf_5 n5) x1 x2 (s1 + s0) (x4 + (1 : Int32)) V) := hres
        refine lv_iadd hx hb dX9_weightsOf_66 ?_
        refine lv_istore_n (lv' := [(3, .int (s1 + s0)), (0, .ref (gA G 213)), (1, .int x1), (2, .int x2), (4, .int x4)]) hx hb dX9_weightsOf_67 rfl hl (by decide) rfl (fun ls hl => ?_)
        refine lv_iinc (v := (x4 + (1 : Int32))) (lv' := [(4, .int (x4 + (1 : Int32))), (3, .int (s1 + s0)), (0, .ref (gA G 213)), (1, .int x1), (2, .int x2)]) hx hb dX9_weightsOf_68 hl (k := 4) rfl rfl (by decide) rfl (fun ls hl => ?_)
        refine lv_goto (tgt := 5) hx hb dX9_weightsOf_71 (by decide) ?_
        exact ih5 x1 x2 (s1 + s0) (x4 + (1 : Int32)) _ _ _ (lv_sub hl [2, 3, 4, 1, 0] rfl) hP hS hs hres
      have b_65 : ∀ (x1 : Int32) (x2 : Int32) (x4 : Int32) (s0 : Int32) (H : Heap) (locs : List Loc) (ls : Array Slot), lv_has ls 6 [(0, .ref (gA G 213)), (1, .int x1), (2, .int x2), (4, .int x4)] → va_P (gD G) vwCl (gL G V) H → va_S (gF G) s.heap H locs → PX9_weightsOf_65 (PX9_weightsOf_5 n5) x1 x2 x4 s0 V → res = BX9_weightsOf_65 (BX9_weightsOf_5 n5) x1 x2 x4 s0 V → W p l e r_X9_weightsOf s m ([.ref (gA G 213), .int a1, .int a2] : List Value).toArray below meth c H locs 0 0 (MQ below (gQR G res V) ([.ref (gA G 213), .int a1, .int a2] : List Value).toArray s 0 0 (gF G)) (F0 m 65 ls [.int s0]) := by
        intro x1 x2 x4 s0 H locs ls hl hP hS hs hres
        have hs : (PX9_weightsOf_66 (PX9_weightsOf_5 n5) x1 x2 x4 (0 : Int32) s0 V) := hs
        have hres : res = (BX9_weightsOf_66 (BX9_weightsOf_5 n5) x1 x2 x4 (0 : Int32) s0 V) := hres
        refine lv_iconst (v := 0) hx hb dX9_weightsOf_65 (by decide) ?_
        exact b_66 x1 x2 x4 (0 : Int32) s0 _ _ _ (lv_sub hl [0, 1, 2, 3] rfl) hP hS hs hres
      have b_37 : ∀ (x1 : Int32) (x2 : Int32) (x3 : Int32) (x4 : Int32) (s0 : Int32) (H : Heap) (locs : List Loc) (ls : Array Slot), lv_has ls 6 [(0, .ref (gA G 213)), (1, .int x1), (2, .int x2), (3, .int x3), (4, .int x4)] → va_P (gD G) vwCl (gL G V) H → va_S (gF G) s.heap H locs → PX9_weightsOf_37 (PX9_weightsOf_5 n5) x1 x2 x3 x4 s0 V → res = BX9_weightsOf_37 (BX9_weightsOf_5 n5) x1 x2 x3 x4 s0 V → W p l e r_X9_weightsOf s m ([.ref (gA G 213), .int a1, .int a2] : List Value).toArray below meth c H locs 0 0 (MQ below (gQR G res V) ([.ref (gA G 213), .int a1, .int a2] : List Value).toArray s 0 0 (gF G)) (F0 m 37 ls [.int s0]) := by
        intro x1 x2 x3 x4 s0 H locs ls hl hP hS hs hres
        have hs : ((((x1 >>> (x4 &&& 31)) &&& (1 : Int32)) = (1 : Int32) → ((s0 = 0 → (PX9_weightsOf_65 (PX9_weightsOf_5 n5) x1 x2 x4 x3 V)) ∧ (¬ s0 = 0 → (PX9_of x4 (1 : Int32) V) ∧ (PX9_weightsOf_66 (PX9_weightsOf_5 n5) x1 x2 x4 (MX9_of x4 (1 : Int32) V) x3 V)))) ∧ (¬ ((x1 >>> (x4 &&& 31)) &&& (1 : Int32)) = (1 : Int32) → (PX9_weightsOf_65 (PX9_weightsOf_5 n5) x1 x2 x4 x3 V))) := hs
        have hres : res = (if ((x1 >>> (x4 &&& 31)) &&& (1 : Int32)) = (1 : Int32) then (if s0 = 0 then (BX9_weightsOf_65 (BX9_weightsOf_5 n5) x1 x2 x4 x3 V) else (BX9_weightsOf_66 (BX9_weightsOf_5 n5) x1 x2 x4 (MX9_of x4 (1 : Int32) V) x3 V)) else (BX9_weightsOf_65 (BX9_weightsOf_5 n5) x1 x2 x4 x3 V)) := hres
        refine lv_istore (lv' := [(5, .int s0), (0, .ref (gA G 213)), (1, .int x1), (2, .int x2), (3, .int x3), (4, .int x4)]) hx hb dX9_weightsOf_37 hl (by decide) rfl (fun ls hl => ?_)
        refine lv_iload_n hx hb dX9_weightsOf_39 rfl (lv_at hl 4 rfl) ?_
        refine lv_iload_n hx hb dX9_weightsOf_40 rfl (lv_at hl 2 rfl) ?_
        refine lv_iload hx hb dX9_weightsOf_41 (lv_at hl 5 rfl) ?_
        refine lv_ishr hx hb dX9_weightsOf_43 ?_
        refine lv_iconst (v := 1) hx hb dX9_weightsOf_44 (by decide) ?_
        refine lv_iand hx hb dX9_weightsOf_45 ?_
        refine lv_iconst (v := 1) hx hb dX9_weightsOf_46 (by decide) ?_
        refine lv_icmp_ne (tgt := 65) hx hb dX9_weightsOf_47 (by decide) (fun c_3 => ?_) (fun c_3 => ?_)
        · have hres := hres.trans (if_neg c_3)
          have hs := hs.2 c_3
          exact b_65 x1 x2 x4 x3 _ _ _ (lv_sub hl [1, 2, 3, 5] rfl) hP hS hs hres
        have hres := hres.trans (if_pos c_3)
        have hs := hs.1 c_3
        refine lv_iload hx hb dX9_weightsOf_50 (lv_at hl 0 rfl) ?_
        refine lv_if_eq (tgt := 65) hx hb dX9_weightsOf_52 (by decide) (fun c_4 => ?_) (fun c_4 => ?_)
        · have hres := hres.trans (if_pos c_4)
          have hs := hs.1 c_4
          exact b_65 x1 x2 x4 x3 _ _ _ (lv_sub hl [1, 2, 3, 5] rfl) hP hS hs hres
        have hres := hres.trans (if_neg c_4)
        have hs := hs.2 c_4
        refine lv_aload_n hx hb dX9_weightsOf_55 rfl (lv_at hl 1 rfl) ?_
        refine lv_iload hx hb dX9_weightsOf_56 (lv_at hl 5 rfl) ?_
        refine lv_iconst (v := 1) hx hb dX9_weightsOf_58 (by decide) ?_
        obtain ⟨ho_5, hs⟩ := hs
        refine gh_kr (va_runV (As := [.int x4, .int (1 : Int32)]) (rest := [.int x3]) ⟨hx, hb, hml, hown, hw⟩ (cc_X9_of l G V x4 (1 : Int32) ho_5) (cwV 2 hw gv_RX9_29 rfl rfl rfl dd_X9_of ⟨Nat.le_of_ble_eq_true rfl, Nat.le_of_ble_eq_true rfl⟩) (gh_preV hT hP (Nat.le_of_ble_eq_true rfl) kd213 rfl rfl) rfl rfl hl.1 rfl (lv_room (Nat.le_of_ble_eq_true rfl)) dX9_weightsOf_59 ⟨Nat.zero_le _, Nat.zero_le _⟩) hS (fun H locs hP hS => ?_)
        refine lv_goto (tgt := 66) hx hb dX9_weightsOf_62 (by decide) ?_
        exact b_66 x1 x2 x4 (MX9_of x4 (1 : Int32) V) x3 _ _ _ (lv_sub hl [1, 2, 3, 5] rfl) hP hS hs hres
      have b_32 : ∀ (x1 : Int32) (x2 : Int32) (x3 : Int32) (x4 : Int32) (H : Heap) (locs : List Loc) (ls : Array Slot), lv_has ls 6 [(0, .ref (gA G 213)), (1, .int x1), (2, .int x2), (3, .int x3), (4, .int x4)] → va_P (gD G) vwCl (gL G V) H → va_S (gF G) s.heap H locs → PX9_weightsOf_32 (PX9_weightsOf_5 n5) x1 x2 x3 x4 V → res = BX9_weightsOf_32 (BX9_weightsOf_5 n5) x1 x2 x3 x4 V → W p l e r_X9_weightsOf s m ([.ref (gA G 213), .int a1, .int a2] : List Value).toArray below meth c H locs 0 0 (MQ below (gQR G res V) ([.ref (gA G 213), .int a1, .int a2] : List Value).toArray s 0 0 (gF G)) (F0 m 32 ls []) := by
        intro x1 x2 x3 x4 H locs ls hl hP hS hs hres
        have hs : (PX9_weightsOf_37 (PX9_weightsOf_5 n5) x1 x2 x3 x4 (1 : Int32) V) := hs
        have hres : res = (BX9_weightsOf_37 (BX9_weightsOf_5 n5) x1 x2 x3 x4 (1 : Int32) V) := hres
        refine lv_iconst (v := 1) hx hb dX9_weightsOf_32 (by decide) ?_
        refine lv_goto (tgt := 37) hx hb dX9_weightsOf_33 (by decide) ?_
        exact b_37 x1 x2 x3 x4 (1 : Int32) _ _ _ (lv_sub hl [0, 1, 2, 3, 4] rfl) hP hS hs hres
      intro x1 x2 x3 x4 H locs ls hl hP hS hs hres
      have hs : ((¬ (V 214 ((0 : Int32)).toNatClampNeg) ≤ x4 → ((x2 = (26 : Int32) → (PX9_weightsOf_32 (PX9_weightsOf_5 n5) x1 x2 x3 x4 V)) ∧ (¬ x2 = (26 : Int32) → (PX9_places x4 x2 V) ∧ (((MX9_places x4 x2 V) = 0 → (PX9_weightsOf_37 (PX9_weightsOf_5 n5) x1 x2 x3 x4 (0 : Int32) V)) ∧ (¬ (MX9_places x4 x2 V) = 0 → (PX9_weightsOf_32 (PX9_weightsOf_5 n5) x1 x2 x3 x4 V))))))) := hs
      have hres : res = (if (V 214 ((0 : Int32)).toNatClampNeg) ≤ x4 then (x3) else (if x2 = (26 : Int32) then (BX9_weightsOf_32 (BX9_weightsOf_5 n5) x1 x2 x3 x4 V) else (if (MX9_places x4 x2 V) = 0 then (BX9_weightsOf_37 (BX9_weightsOf_5 n5) x1 x2 x3 x4 (0 : Int32) V) else (BX9_weightsOf_32 (BX9_weightsOf_5 n5) x1 x2 x3 x4 V)))) := hres
      refine lv_iload hx hb dX9_weightsOf_5 (lv_at hl 4 rfl) ?_
      refine lv_aload_n hx hb dX9_weightsOf_7 rfl (lv_at hl 0 rfl) ?_
      refine gh_get (v := .ref (gA G 214)) (C := RX9) (T := TX9) (N := 11) hx hb hw inlX9 hown hT hP 213 (Nat.le_of_ble_eq_true rfl) kd213 rfl rfl 0 (by decide) (hw _ uw117) rfl dX9_weightsOf_8 ?_
      refine lv_iconst (v := 0) hx hb dX9_weightsOf_11 (by decide) ?_
      refine gh_iald hx hb hT hP 214 (Nat.le_of_ble_eq_true rfl) kd214 (gh_ci (by decide)) dX9_weightsOf_12 ?_
      refine lv_icmp_ge (tgt := 74) hx hb dX9_weightsOf_13 (by decide) (fun c_1 => ?_) (fun c_1 => ?_)
      · have hres := hres.trans (if_pos c_1)
        refine lv_iload_n hx hb dX9_weightsOf_74 rfl (lv_at hl 3 rfl) ?_
        exact gh_iretR hx hb hr hlocks hP hS hT hres dX9_weightsOf_75
      have hres := hres.trans (if_neg c_1)
      have hs := hs c_1
      refine lv_iload_n hx hb dX9_weightsOf_16 rfl (lv_at hl 2 rfl) ?_
      refine lv_bipush (v := 26) hx hb dX9_weightsOf_17 (by decide) ?_
      refine lv_icmp_eq (tgt := 32) hx hb dX9_weightsOf_19 (by decide) (fun c_2 => ?_) (fun c_2 => ?_)
      · have hres := hres.trans (if_pos c_2)
        have hs := hs.1 c_2
        exact b_32 x1 x2 x3 x4 _ _ _ (lv_sub hl [0, 1, 2, 3, 4] rfl) hP hS hs hres
      have hres := hres.trans (if_neg c_2)
      have hs := hs.2 c_2
      refine lv_aload_n hx hb dX9_weightsOf_22 rfl (lv_at hl 0 rfl) ?_
      refine lv_iload hx hb dX9_weightsOf_23 (lv_at hl 4 rfl) ?_
      refine lv_iload_n hx hb dX9_weightsOf_25 rfl (lv_at hl 2 rfl) ?_
      obtain ⟨ho_6, hs⟩ := hs
      refine gh_kr (va_runV (As := [.int x4, .int x2]) (rest := []) ⟨hx, hb, hml, hown, hw⟩ (cc_X9_places l G V x4 x2 ho_6) (cwV 2 hw gv_RX9_85 rfl rfl rfl dd_X9_places ⟨Nat.le_of_ble_eq_true rfl, Nat.le_of_ble_eq_true rfl⟩) (gh_preV hT hP (Nat.le_of_ble_eq_true rfl) kd213 rfl rfl) rfl rfl hl.1 rfl (lv_room (Nat.le_of_ble_eq_true rfl)) dX9_weightsOf_26 ⟨Nat.zero_le _, Nat.zero_le _⟩) hS (fun H locs hP hS => ?_)
      refine lv_if_eq (tgt := 36) hx hb dX9_weightsOf_29 (by decide) (fun c_7 => ?_) (fun c_7 => ?_)
      · have hres := hres.trans (if_pos c_7)
        have hs := hs.1 c_7
        refine lv_iconst (v := 0) hx hb dX9_weightsOf_36 (by decide) ?_
        exact b_37 x1 x2 x3 x4 (0 : Int32) _ _ _ (lv_sub hl [0, 1, 2, 3, 4] rfl) hP hS hs hres
      have hres := hres.trans (if_neg c_7)
      have hs := hs.2 c_7
      exact b_32 x1 x2 x3 x4 _ _ _ (lv_sub hl [0, 1, 2, 3, 4] rfl) hP hS hs hres
  refine lv_iconst (v := 0) hx hb dX9_weightsOf_0 (by decide) ?_
  refine lv_istore_n (lv' := [(3, .int (0 : Int32)), (0, .ref (gA G 213)), (1, .int a1), (2, .int a2)]) hx hb dX9_weightsOf_1 rfl hl (by decide) rfl (fun ls hl => ?_)
  refine lv_iconst (v := 0) hx hb dX9_weightsOf_2 (by decide) ?_
  refine lv_istore (lv' := [(4, .int (0 : Int32)), (3, .int (0 : Int32)), (0, .ref (gA G 213)), (1, .int a1), (2, .int a2)]) hx hb dX9_weightsOf_3 hl (by decide) rfl (fun ls hl => ?_)
  exact b_5 1000 a1 a2 (0 : Int32) (0 : Int32) _ _ _ (lv_sub hl [2, 3, 4, 1, 0] rfl) hP hS hs hres
theorem gv_RX9_98 : GoodIn wsL_law (wsV RX9 98 RX9 yX9_weightsOf wc_X9_weightsOf) := gh_gV uw633 uw634 uw635 uw5 uw636
def BX9_bestLetter_69  (K8 : Int32 → Int32 → Int32 → Int32 → gV → Int32) (x1 : Int32) (x2 : Int32) (x4 : Int32) (s0 : Int32) (V : gV) : Int32 := K8 x1 x2 s0 (x4 + (1 : Int32)) V
def PX9_bestLetter_69  (KP8 : Int32 → Int32 → Int32 → Int32 → gV → Prop) (x1 : Int32) (x2 : Int32) (x4 : Int32) (s0 : Int32) (V : gV) : Prop := (KP8 x1 x2 s0 (x4 + (1 : Int32)) V)
def BX9_bestLetter_56  (K8 : Int32 → Int32 → Int32 → Int32 → gV → Int32) (x1 : Int32) (x3 : Int32) (x4 : Int32) (x5 : Int32) (s0 : Int32) (V : gV) : Int32 := if x5 ≤ x3 then (BX9_bestLetter_69 K8 x1 s0 x4 x3 V) else (BX9_bestLetter_69 K8 x1 s0 x4 x5 V)
def PX9_bestLetter_56  (KP8 : Int32 → Int32 → Int32 → Int32 → gV → Prop) (x1 : Int32) (x3 : Int32) (x4 : Int32) (x5 : Int32) (s0 : Int32) (V : gV) : Prop := ((x5 ≤ x3 → (PX9_bestLetter_69 KP8 x1 s0 x4 x3 V)) ∧ (¬ x5 ≤ x3 → (PX9_bestLetter_69 KP8 x1 s0 x4 x5 V)))
def BX9_bestLetter_42  (K8 : Int32 → Int32 → Int32 → Int32 → gV → Int32) (x1 : Int32) (x2 : Int32) (x3 : Int32) (x4 : Int32) (s0 : Int32) (V : gV) : Int32 := if s0 ≤ x3 then (BX9_bestLetter_56 K8 x1 x3 x4 s0 x2 V) else (BX9_bestLetter_56 K8 x1 x3 x4 s0 x4 V)
def PX9_bestLetter_42  (KP8 : Int32 → Int32 → Int32 → Int32 → gV → Prop) (x1 : Int32) (x2 : Int32) (x3 : Int32) (x4 : Int32) (s0 : Int32) (V : gV) : Prop := ((s0 ≤ x3 → (PX9_bestLetter_56 KP8 x1 x3 x4 s0 x2 V)) ∧ (¬ s0 ≤ x3 → (PX9_bestLetter_56 KP8 x1 x3 x4 s0 x4 V)))
def BX9_bestLetter_8   : Nat → Int32 → Int32 → Int32 → Int32 → gV → Int32
  | 0, _, _, _, _, _ => 0
  | n + 1, x1, x2, x3, x4, V => if (26 : Int32) ≤ x4 then (x2) else (if (((V 214 ((6 : Int32)).toNatClampNeg) >>> (x4 &&& 31)) &&& (1 : Int32)) = (1 : Int32) then (BX9_bestLetter_42 (BX9_bestLetter_8 n) x1 x2 x3 x4 (-1 : Int32) V) else (BX9_bestLetter_42 (BX9_bestLetter_8 n) x1 x2 x3 x4 (MX9_weightsOf x1 x4 V) V))
def PX9_bestLetter_8   : Nat → Int32 → Int32 → Int32 → Int32 → gV → Prop
  | 0, _, _, _, _, _ => False
  | n + 1, x1, x2, x3, x4, V => ((¬ (26 : Int32) ≤ x4 → (((((V 214 ((6 : Int32)).toNatClampNeg) >>> (x4 &&& 31)) &&& (1 : Int32)) = (1 : Int32) → (PX9_bestLetter_42 (PX9_bestLetter_8 n) x1 x2 x3 x4 (-1 : Int32) V)) ∧ (¬ (((V 214 ((6 : Int32)).toNatClampNeg) >>> (x4 &&& 31)) &&& (1 : Int32)) = (1 : Int32) → (PX9_weightsOf x1 x4 V) ∧ (PX9_bestLetter_42 (PX9_bestLetter_8 n) x1 x2 x3 x4 (MX9_weightsOf x1 x4 V) V)))))
def MX9_bestLetter  (a1 : Int32) (V : gV) : Int32 := BX9_bestLetter_8 1000 a1 (-4 : Int32) (-1 : Int32) (0 : Int32) V
def PX9_bestLetter  (a1 : Int32) (V : gV) : Prop := (PX9_bestLetter_8 1000 a1 (-4 : Int32) (-1 : Int32) (0 : Int32) V)
abbrev wc_X9_bestLetter : List Cond := Cond.code yX9_bestLetter cX9_bestLetter 6 (some .int) :: wsL_law
abbrev r_X9_bestLetter : Room := { frames := 4, cells := 0, slots := 0, locals := 93 }
theorem dd_X9_bestLetter : yX9_bestLetter.cls = RX9 ∧ yX9_bestLetter.cls ≠ "java/lang/invoke/MethodHandle" ∧ yX9_bestLetter.cls ≠ "java/lang/invoke/VarHandle" ∧ (parseMethodDescriptor yX9_bestLetter.desc).map (fun d => d.parameters.length) = some 1 := by decide +kernel
set_option maxHeartbeats 8000000 in
set_option maxRecDepth 100000 in
theorem cc_X9_bestLetter (l : Launch) (G : gG) (V : gV)   (a1 : Int32) (hs : PX9_bestLetter a1 V) : Met l yX9_bestLetter wc_X9_bestLetter r_X9_bestLetter (va_Pc [.ref (gA G 213), .int a1] (gW G V)) (gQR G (MX9_bestLetter a1 V) V) 0 0 (gF G) := by
  refine Met.ofW (cc := cX9_bestLetter) (maxL := 6) (ret := (some .int)) (by decide) rfl ?_
  intro p e s m args below meth c s₁ B hml hv
  obtain ⟨rfl, hP, hT⟩ := hv
  have hx := B.exec
  have hb := B.bytes
  have hr := B.returns
  have hw := gh_hw (atoms_spec (ws := wc_X9_bestLetter) B.pre)
  have hown : s.vm.findClass RX9 = some m.cls := findClass_of_methodNamed B.named
  have hlocks := B.notSynchronized
  have hS : va_S (gF G) s.heap s.heap [] := va_S.rf
  have hl := lv_entry ([.ref (gA G 213), .int a1]) (n := 6) (Nat.le_of_ble_eq_true rfl)
  rw [lg_entry_eq]
  generalize (lg_sl ([.ref (gA G 213), .int a1]) ++ List.replicate (6 - (lg_sl ([.ref (gA G 213), .int a1])).length) Slot.unset).toArray = ls at hl ⊢
  have hl : lv_has ls 6 [(0, .ref (gA G 213)), (1, .int a1)] := hl
  obtain ⟨res, hres⟩ : ∃ r, r = MX9_bestLetter a1 V := ⟨_, rfl⟩
  rw [← hres]
  show W p l e r_X9_bestLetter s m ([.ref (gA G 213), .int a1] : List Value).toArray below meth c s.heap [] 0 0 (MQ below (gQR G res V) ([.ref (gA G 213), .int a1] : List Value).toArray s 0 0 (gF G)) (F0 m 0 ls [])
  have hs : (PX9_bestLetter_8 1000 a1 (-4 : Int32) (-1 : Int32) (0 : Int32) V) := hs
  have hres : res = (BX9_bestLetter_8 1000 a1 (-4 : Int32) (-1 : Int32) (0 : Int32) V) := hres
  have b_8 : ∀ (n : Nat) (x1 : Int32) (x2 : Int32) (x3 : Int32) (x4 : Int32) (H : Heap) (locs : List Loc) (ls : Array Slot), lv_has ls 6 [(0, .ref (gA G 213)), (1, .int x1), (2, .int x2), (3, .int x3), (4, .int x4)] → va_P (gD G) vwCl (gL G V) H → va_S (gF G) s.heap H locs → PX9_bestLetter_8  n x1 x2 x3 x4 V → res = BX9_bestLetter_8  n x1 x2 x3 x4 V → W p l e r_X9_bestLetter s m ([.ref (gA G 213), .int a1] : List Value).toArray below meth c H locs 0 0 (MQ below (gQR G res V) ([.ref (gA G 213), .int a1] : List Value).toArray s 0 0 (gF G)) (F0 m 8 ls []) := by
    intro n
    induction n with
    | zero =>
      intro x1 x2 x3 x4 H locs ls hl hP hS hs hres
      exact (show False from hs).elim
    | succ n8 ih8 =>
      have b_69 : ∀ (x1 : Int32) (x2 : Int32) (x4 : Int32) (s0 : Int32) (H : Heap) (locs : List Loc) (ls : Array Slot), lv_has ls 6 [(0, .ref (gA G 213)), (1, .int x1), (2, .int x2), (4, .int x4)] → va_P (gD G) vwCl (gL G V) H → va_S (gF G) s.heap H locs → PX9_bestLetter_69 (PX9_bestLetter_8 n8) x1 x2 x4 s0 V → res = BX9_bestLetter_69 (BX9_bestLetter_8 n8) x1 x2 x4 s0 V → W p l e r_X9_bestLetter s m ([.ref (gA G 213), .int a1] : List Value).toArray below meth c H locs 0 0 (MQ below (gQR G res V) ([.ref (gA G 213), .int a1] : List Value).toArray s 0 0 (gF G)) (F0 m 69 ls [.int s0]) := by
        intro x1 x2 x4 s0 H locs ls hl hP hS hs hres
        have hs : ((PX9_bestLetter_8 n8) x1 x2 s0 (x4 + (1 : Int32)) V) := hs
        have hres : res = ((BX9_bestLetter_8 n8) x1 x2 s0 (x4 + (1 : Int32)) V) := hres
        refine lv_istore_n (lv' := [(3, .int s0), (0, .ref (gA G 213)), (1, .int x1), (2, .int x2), (4, .int x4)]) hx hb dX9_bestLetter_69 rfl hl (by decide) rfl (fun ls hl => ?_)
        refine lv_iinc (v := (x4 + (1 : Int32))) (lv' := [(4, .int (x4 + (1 : Int32))), (3, .int s0), (0, .ref (gA G 213)), (1, .int x1), (2, .int x2)]) hx hb dX9_bestLetter_70 hl (k := 4) rfl rfl (by decide) rfl (fun ls hl => ?_)
        refine lv_goto (tgt := 8) hx hb dX9_bestLetter_73 (by decide) ?_
        exact ih8 x1 x2 s0 (x4 + (1 : Int32)) _ _ _ (lv_sub hl [2, 3, 4, 1, 0] rfl) hP hS hs hres
      have b_56 : ∀ (x1 : Int32) (x3 : Int32) (x4 : Int32) (x5 : Int32) (s0 : Int32) (H : Heap) (locs : List Loc) (ls : Array Slot), lv_has ls 6 [(0, .ref (gA G 213)), (1, .int x1), (3, .int x3), (4, .int x4), (5, .int x5)] → va_P (gD G) vwCl (gL G V) H → va_S (gF G) s.heap H locs → PX9_bestLetter_56 (PX9_bestLetter_8 n8) x1 x3 x4 x5 s0 V → res = BX9_bestLetter_56 (BX9_bestLetter_8 n8) x1 x3 x4 x5 s0 V → W p l e r_X9_bestLetter s m ([.ref (gA G 213), .int a1] : List Value).toArray below meth c H locs 0 0 (MQ below (gQR G res V) ([.ref (gA G 213), .int a1] : List Value).toArray s 0 0 (gF G)) (F0 m 56 ls [.int s0]) := by
        intro x1 x3 x4 x5 s0 H locs ls hl hP hS hs hres
        have hs : ((x5 ≤ x3 → (PX9_bestLetter_69 (PX9_bestLetter_8 n8) x1 s0 x4 x3 V)) ∧ (¬ x5 ≤ x3 → (PX9_bestLetter_69 (PX9_bestLetter_8 n8) x1 s0 x4 x5 V))) := hs
        have hres : res = (if x5 ≤ x3 then (BX9_bestLetter_69 (BX9_bestLetter_8 n8) x1 s0 x4 x3 V) else (BX9_bestLetter_69 (BX9_bestLetter_8 n8) x1 s0 x4 x5 V)) := hres
        refine lv_istore_n (lv' := [(2, .int s0), (0, .ref (gA G 213)), (1, .int x1), (3, .int x3), (4, .int x4), (5, .int x5)]) hx hb dX9_bestLetter_56 rfl hl (by decide) rfl (fun ls hl => ?_)
        refine lv_iload hx hb dX9_bestLetter_57 (lv_at hl 5 rfl) ?_
        refine lv_iload_n hx hb dX9_bestLetter_59 rfl (lv_at hl 3 rfl) ?_
        refine lv_icmp_le (tgt := 68) hx hb dX9_bestLetter_60 (by decide) (fun c_5 => ?_) (fun c_5 => ?_)
        · have hres := hres.trans (if_pos c_5)
          have hs := hs.1 c_5
          refine lv_iload_n hx hb dX9_bestLetter_68 rfl (lv_at hl 3 rfl) ?_
          exact b_69 x1 s0 x4 x3 _ _ _ (lv_sub hl [1, 2, 0, 4] rfl) hP hS hs hres
        have hres := hres.trans (if_neg c_5)
        have hs := hs.2 c_5
        refine lv_iload hx hb dX9_bestLetter_63 (lv_at hl 5 rfl) ?_
        refine lv_goto (tgt := 69) hx hb dX9_bestLetter_65 (by decide) ?_
        exact b_69 x1 s0 x4 x5 _ _ _ (lv_sub hl [1, 2, 0, 4] rfl) hP hS hs hres
      have b_42 : ∀ (x1 : Int32) (x2 : Int32) (x3 : Int32) (x4 : Int32) (s0 : Int32) (H : Heap) (locs : List Loc) (ls : Array Slot), lv_has ls 6 [(0, .ref (gA G 213)), (1, .int x1), (2, .int x2), (3, .int x3), (4, .int x4)] → va_P (gD G) vwCl (gL G V) H → va_S (gF G) s.heap H locs → PX9_bestLetter_42 (PX9_bestLetter_8 n8) x1 x2 x3 x4 s0 V → res = BX9_bestLetter_42 (BX9_bestLetter_8 n8) x1 x2 x3 x4 s0 V → W p l e r_X9_bestLetter s m ([.ref (gA G 213), .int a1] : List Value).toArray below meth c H locs 0 0 (MQ below (gQR G res V) ([.ref (gA G 213), .int a1] : List Value).toArray s 0 0 (gF G)) (F0 m 42 ls [.int s0]) := by
        intro x1 x2 x3 x4 s0 H locs ls hl hP hS hs hres
        have hs : ((s0 ≤ x3 → (PX9_bestLetter_56 (PX9_bestLetter_8 n8) x1 x3 x4 s0 x2 V)) ∧ (¬ s0 ≤ x3 → (PX9_bestLetter_56 (PX9_bestLetter_8 n8) x1 x3 x4 s0 x4 V))) := hs
        have hres : res = (if s0 ≤ x3 then (BX9_bestLetter_56 (BX9_bestLetter_8 n8) x1 x3 x4 s0 x2 V) else (BX9_bestLetter_56 (BX9_bestLetter_8 n8) x1 x3 x4 s0 x4 V)) := hres
        refine lv_istore (lv' := [(5, .int s0), (0, .ref (gA G 213)), (1, .int x1), (2, .int x2), (3, .int x3), (4, .int x4)]) hx hb dX9_bestLetter_42 hl (by decide) rfl (fun ls hl => ?_)
        refine lv_iload hx hb dX9_bestLetter_44 (lv_at hl 0 rfl) ?_
        refine lv_iload_n hx hb dX9_bestLetter_46 rfl (lv_at hl 4 rfl) ?_
        refine lv_icmp_le (tgt := 55) hx hb dX9_bestLetter_47 (by decide) (fun c_4 => ?_) (fun c_4 => ?_)
        · have hres := hres.trans (if_pos c_4)
          have hs := hs.1 c_4
          refine lv_iload_n hx hb dX9_bestLetter_55 rfl (lv_at hl 3 rfl) ?_
          exact b_56 x1 x3 x4 s0 x2 _ _ _ (lv_sub hl [1, 2, 4, 5, 0] rfl) hP hS hs hres
        have hres := hres.trans (if_neg c_4)
        have hs := hs.2 c_4
        refine lv_iload hx hb dX9_bestLetter_50 (lv_at hl 5 rfl) ?_
        refine lv_goto (tgt := 56) hx hb dX9_bestLetter_52 (by decide) ?_
        exact b_56 x1 x3 x4 s0 x4 _ _ _ (lv_sub hl [1, 2, 4, 5, 0] rfl) hP hS hs hres
      intro x1 x2 x3 x4 H locs ls hl hP hS hs hres
      have hs : ((¬ (26 : Int32) ≤ x4 → (((((V 214 ((6 : Int32)).toNatClampNeg) >>> (x4 &&& 31)) &&& (1 : Int32)) = (1 : Int32) → (PX9_bestLetter_42 (PX9_bestLetter_8 n8) x1 x2 x3 x4 (-1 : Int32) V)) ∧ (¬ (((V 214 ((6 : Int32)).toNatClampNeg) >>> (x4 &&& 31)) &&& (1 : Int32)) = (1 : Int32) → (PX9_weightsOf x1 x4 V) ∧ (PX9_bestLetter_42 (PX9_bestLetter_8 n8) x1 x2 x3 x4 (MX9_weightsOf x1 x4 V) V))))) := hs
      have hres : res = (if (26 : Int32) ≤ x4 then (x2) else (if (((V 214 ((6 : Int32)).toNatClampNeg) >>> (x4 &&& 31)) &&& (1 : Int32)) = (1 : Int32) then (BX9_bestLetter_42 (BX9_bestLetter_8 n8) x1 x2 x3 x4 (-1 : Int32) V) else (BX9_bestLetter_42 (BX9_bestLetter_8 n8) x1 x2 x3 x4 (MX9_weightsOf x1 x4 V) V))) := hres
      refine lv_iload hx hb dX9_bestLetter_8 (lv_at hl 4 rfl) ?_
      refine lv_bipush (v := 26) hx hb dX9_bestLetter_10 (by decide) ?_
      refine lv_icmp_ge (tgt := 76) hx hb dX9_bestLetter_12 (by decide) (fun c_1 => ?_) (fun c_1 => ?_)
      · have hres := hres.trans (if_pos c_1)
        refine lv_iload_n hx hb dX9_bestLetter_76 rfl (lv_at hl 2 rfl) ?_
        exact gh_iretR hx hb hr hlocks hP hS hT hres dX9_bestLetter_77
      have hres := hres.trans (if_neg c_1)
      have hs := hs c_1
      refine lv_aload_n hx hb dX9_bestLetter_15 rfl (lv_at hl 0 rfl) ?_
      refine gh_get (v := .ref (gA G 214)) (C := RX9) (T := TX9) (N := 11) hx hb hw inlX9 hown hT hP 213 (Nat.le_of_ble_eq_true rfl) kd213 rfl rfl 0 (by decide) (hw _ uw117) rfl dX9_bestLetter_16 ?_
      refine lv_bipush (v := 6) hx hb dX9_bestLetter_19 (by decide) ?_
      refine gh_iald hx hb hT hP 214 (Nat.le_of_ble_eq_true rfl) kd214 (gh_ci (by decide)) dX9_bestLetter_21 ?_
      refine lv_iload hx hb dX9_bestLetter_22 (lv_at hl 4 rfl) ?_
      refine lv_ishr hx hb dX9_bestLetter_24 ?_
      refine lv_iconst (v := 1) hx hb dX9_bestLetter_25 (by decide) ?_
      refine lv_iand hx hb dX9_bestLetter_26 ?_
      refine lv_iconst (v := 1) hx hb dX9_bestLetter_27 (by decide) ?_
      refine lv_icmp_ne (tgt := 35) hx hb dX9_bestLetter_28 (by decide) (fun c_2 => ?_) (fun c_2 => ?_)
      · have hres := hres.trans (if_neg c_2)
        have hs := hs.2 c_2
        refine lv_aload_n hx hb dX9_bestLetter_35 rfl (lv_at hl 0 rfl) ?_
        refine lv_iload_n hx hb dX9_bestLetter_36 rfl (lv_at hl 1 rfl) ?_
        refine lv_iload hx hb dX9_bestLetter_37 (lv_at hl 4 rfl) ?_
        obtain ⟨ho_3, hs⟩ := hs
        refine gh_kr (va_runV (As := [.int x1, .int x4]) (rest := []) ⟨hx, hb, hml, hown, hw⟩ (cc_X9_weightsOf l G V x1 x4 ho_3) (cwV 2 hw gv_RX9_98 rfl rfl rfl dd_X9_weightsOf ⟨Nat.le_of_ble_eq_true rfl, Nat.le_of_ble_eq_true rfl⟩) (gh_preV hT hP (Nat.le_of_ble_eq_true rfl) kd213 rfl rfl) rfl rfl hl.1 rfl (lv_room (Nat.le_of_ble_eq_true rfl)) dX9_bestLetter_39 ⟨Nat.zero_le _, Nat.zero_le _⟩) hS (fun H locs hP hS => ?_)
        exact b_42 x1 x2 x3 x4 (MX9_weightsOf x1 x4 V) _ _ _ (lv_sub hl [0, 1, 2, 3, 4] rfl) hP hS hs hres
      have hres := hres.trans (if_pos c_2)
      have hs := hs.1 c_2
      refine lv_iconst (v := -1) hx hb dX9_bestLetter_31 (by decide) ?_
      refine lv_goto (tgt := 42) hx hb dX9_bestLetter_32 (by decide) ?_
      exact b_42 x1 x2 x3 x4 (-1 : Int32) _ _ _ (lv_sub hl [0, 1, 2, 3, 4] rfl) hP hS hs hres
  refine lv_bipush (v := -4) hx hb dX9_bestLetter_0 (by decide) ?_
  refine lv_istore_n (lv' := [(2, .int (-4 : Int32)), (0, .ref (gA G 213)), (1, .int a1)]) hx hb dX9_bestLetter_2 rfl hl (by decide) rfl (fun ls hl => ?_)
  refine lv_iconst (v := -1) hx hb dX9_bestLetter_3 (by decide) ?_
  refine lv_istore_n (lv' := [(3, .int (-1 : Int32)), (2, .int (-4 : Int32)), (0, .ref (gA G 213)), (1, .int a1)]) hx hb dX9_bestLetter_4 rfl hl (by decide) rfl (fun ls hl => ?_)
  refine lv_iconst (v := 0) hx hb dX9_bestLetter_5 (by decide) ?_
  refine lv_istore (lv' := [(4, .int (0 : Int32)), (3, .int (-1 : Int32)), (2, .int (-4 : Int32)), (0, .ref (gA G 213)), (1, .int a1)]) hx hb dX9_bestLetter_6 hl (by decide) rfl (fun ls hl => ?_)
  exact b_8 1000 a1 (-4 : Int32) (-1 : Int32) (0 : Int32) _ _ _ (lv_sub hl [3, 4, 2, 1, 0] rfl) hP hS hs hres
def BX9_greatest_98  (K5 : Int32 → Int32 → Int32 → Int32 → gV → Int32) (x1 : Int32) (x2 : Int32) (x4 : Int32) (s0 : Int32) (V : gV) : Int32 := K5 x1 x2 s0 (x4 + (1 : Int32)) V
def PX9_greatest_98  (KP5 : Int32 → Int32 → Int32 → Int32 → gV → Prop) (x1 : Int32) (x2 : Int32) (x4 : Int32) (s0 : Int32) (V : gV) : Prop := (KP5 x1 x2 s0 (x4 + (1 : Int32)) V)
def BX9_greatest_86  (K5 : Int32 → Int32 → Int32 → Int32 → gV → Int32) (x1 : Int32) (x2 : Int32) (x3 : Int32) (x4 : Int32) (x5 : Int32) (V : gV) : Int32 := if x5 ≤ x3 then (BX9_greatest_98 K5 x1 x2 x4 x3 V) else (BX9_greatest_98 K5 x1 x2 x4 x5 V)
def PX9_greatest_86  (KP5 : Int32 → Int32 → Int32 → Int32 → gV → Prop) (x1 : Int32) (x2 : Int32) (x3 : Int32) (x4 : Int32) (x5 : Int32) (V : gV) : Prop := ((x5 ≤ x3 → (PX9_greatest_98 KP5 x1 x2 x4 x3 V)) ∧ (¬ x5 ≤ x3 → (PX9_greatest_98 KP5 x1 x2 x4 x5 V)))
def BX9_greatest_77  (K5 : Int32 → Int32 → Int32 → Int32 → gV → Int32) (K22 : Int32 → Int32 → Int32 → Int32 → Int32 → Int32 → gV → Int32) (x1 : Int32) (x2 : Int32) (x3 : Int32) (x4 : Int32) (x6 : Int32) (s0 : Int32) (s1 : Int32) (V : gV) : Int32 := K22 x1 x2 x3 x4 (s1 + s0) (x6 + (1 : Int32)) V
def PX9_greatest_77  (KP5 : Int32 → Int32 → Int32 → Int32 → gV → Prop) (KP22 : Int32 → Int32 → Int32 → Int32 → Int32 → Int32 → gV → Prop) (x1 : Int32) (x2 : Int32) (x3 : Int32) (x4 : Int32) (x6 : Int32) (s0 : Int32) (s1 : Int32) (V : gV) : Prop := (KP22 x1 x2 x3 x4 (s1 + s0) (x6 + (1 : Int32)) V)
def BX9_greatest_76  (K5 : Int32 → Int32 → Int32 → Int32 → gV → Int32) (K22 : Int32 → Int32 → Int32 → Int32 → Int32 → Int32 → gV → Int32) (x1 : Int32) (x2 : Int32) (x3 : Int32) (x4 : Int32) (x6 : Int32) (s0 : Int32) (V : gV) : Int32 := BX9_greatest_77 K5 K22 x1 x2 x3 x4 x6 (0 : Int32) s0 V
def PX9_greatest_76  (KP5 : Int32 → Int32 → Int32 → Int32 → gV → Prop) (KP22 : Int32 → Int32 → Int32 → Int32 → Int32 → Int32 → gV → Prop) (x1 : Int32) (x2 : Int32) (x3 : Int32) (x4 : Int32) (x6 : Int32) (s0 : Int32) (V : gV) : Prop := (PX9_greatest_77 KP5 KP22 x1 x2 x3 x4 x6 (0 : Int32) s0 V)
def BX9_greatest_22  (K5 : Int32 → Int32 → Int32 → Int32 → gV → Int32) : Nat → Int32 → Int32 → Int32 → Int32 → Int32 → Int32 → gV → Int32
  | 0, _, _, _, _, _, _, _ => 0
  | n + 1, x1, x2, x3, x4, x5, x6, V => if (V 214 ((0 : Int32)).toNatClampNeg) ≤ x6 then (BX9_greatest_86 K5 x1 x2 x3 x4 x5 V) else (if ((x1 >>> (x4 &&& 31)) &&& (1 : Int32)) = (1 : Int32) then (if ((x1 >>> (x6 &&& 31)) &&& (1 : Int32)) = (1 : Int32) then (if (MX9_places x6 x2 V) = (MX9_places x4 x2 V) then (BX9_greatest_77 K5 (BX9_greatest_22 K5 n) x1 x2 x3 x4 x6 (1 : Int32) x5 V) else (BX9_greatest_76 K5 (BX9_greatest_22 K5 n) x1 x2 x3 x4 x6 x5 V)) else (BX9_greatest_76 K5 (BX9_greatest_22 K5 n) x1 x2 x3 x4 x6 x5 V)) else (BX9_greatest_86 K5 x1 x2 x3 x4 x5 V))
def PX9_greatest_22  (KP5 : Int32 → Int32 → Int32 → Int32 → gV → Prop) : Nat → Int32 → Int32 → Int32 → Int32 → Int32 → Int32 → gV → Prop
  | 0, _, _, _, _, _, _, _ => False
  | n + 1, x1, x2, x3, x4, x5, x6, V => (((V 214 ((0 : Int32)).toNatClampNeg) ≤ x6 → (PX9_greatest_86 KP5 x1 x2 x3 x4 x5 V)) ∧ (¬ (V 214 ((0 : Int32)).toNatClampNeg) ≤ x6 → ((((x1 >>> (x4 &&& 31)) &&& (1 : Int32)) = (1 : Int32) → ((((x1 >>> (x6 &&& 31)) &&& (1 : Int32)) = (1 : Int32) → (PX9_places x6 x2 V) ∧ (PX9_places x4 x2 V) ∧ (((MX9_places x6 x2 V) = (MX9_places x4 x2 V) → (PX9_greatest_77 KP5 (PX9_greatest_22 KP5 n) x1 x2 x3 x4 x6 (1 : Int32) x5 V)) ∧ (¬ (MX9_places x6 x2 V) = (MX9_places x4 x2 V) → (PX9_greatest_76 KP5 (PX9_greatest_22 KP5 n) x1 x2 x3 x4 x6 x5 V)))) ∧ (¬ ((x1 >>> (x6 &&& 31)) &&& (1 : Int32)) = (1 : Int32) → (PX9_greatest_76 KP5 (PX9_greatest_22 KP5 n) x1 x2 x3 x4 x6 x5 V)))) ∧ (¬ ((x1 >>> (x4 &&& 31)) &&& (1 : Int32)) = (1 : Int32) → (PX9_greatest_86 KP5 x1 x2 x3 x4 x5 V)))))
def BX9_greatest_5   : Nat → Int32 → Int32 → Int32 → Int32 → gV → Int32
  | 0, _, _, _, _, _ => 0
  | n + 1, x1, x2, x3, x4, V => if (V 214 ((0 : Int32)).toNatClampNeg) ≤ x4 then (x3) else (BX9_greatest_22 (BX9_greatest_5 n) 1000 x1 x2 x3 x4 (0 : Int32) (0 : Int32) V)
def PX9_greatest_5   : Nat → Int32 → Int32 → Int32 → Int32 → gV → Prop
  | 0, _, _, _, _, _ => False
  | n + 1, x1, x2, x3, x4, V => ((¬ (V 214 ((0 : Int32)).toNatClampNeg) ≤ x4 → (PX9_greatest_22 (PX9_greatest_5 n) 1000 x1 x2 x3 x4 (0 : Int32) (0 : Int32) V)))
def MX9_greatest  (a1 : Int32) (a2 : Int32) (V : gV) : Int32 := BX9_greatest_5 1000 a1 a2 (0 : Int32) (0 : Int32) V
def PX9_greatest  (a1 : Int32) (a2 : Int32) (V : gV) : Prop := (PX9_greatest_5 1000 a1 a2 (0 : Int32) (0 : Int32) V)
abbrev wc_X9_greatest : List Cond := Cond.code yX9_greatest cX9_greatest 7 (some .int) :: wsL_law
abbrev r_X9_greatest : Room := { frames := 3, cells := 0, slots := 0, locals := 68 }
theorem dd_X9_greatest : yX9_greatest.cls = RX9 ∧ yX9_greatest.cls ≠ "java/lang/invoke/MethodHandle" ∧ yX9_greatest.cls ≠ "java/lang/invoke/VarHandle" ∧ (parseMethodDescriptor yX9_greatest.desc).map (fun d => d.parameters.length) = some 2 := by decide +kernel
set_option maxHeartbeats 8000000 in
set_option maxRecDepth 100000 in
theorem cc_X9_greatest (l : Launch) (G : gG) (V : gV)   (a1 : Int32) (a2 : Int32) (hs : PX9_greatest a1 a2 V) : Met l yX9_greatest wc_X9_greatest r_X9_greatest (va_Pc [.ref (gA G 213), .int a1, .int a2] (gW G V)) (gQR G (MX9_greatest a1 a2 V) V) 0 0 (gF G) := by
  refine Met.ofW (cc := cX9_greatest) (maxL := 7) (ret := (some .int)) (by decide) rfl ?_
  intro p e s m args below meth c s₁ B hml hv
  obtain ⟨rfl, hP, hT⟩ := hv
  have hx := B.exec
  have hb := B.bytes
  have hr := B.returns
  have hw := gh_hw (atoms_spec (ws := wc_X9_greatest) B.pre)
  have hown : s.vm.findClass RX9 = some m.cls := findClass_of_methodNamed B.named
  have hlocks := B.notSynchronized
  have hS : va_S (gF G) s.heap s.heap [] := va_S.rf
  have hl := lv_entry ([.ref (gA G 213), .int a1, .int a2]) (n := 7) (Nat.le_of_ble_eq_true rfl)
  rw [lg_entry_eq]
  generalize (lg_sl ([.ref (gA G 213), .int a1, .int a2]) ++ List.replicate (7 - (lg_sl ([.ref (gA G 213), .int a1, .int a2])).length) Slot.unset).toArray = ls at hl ⊢
  have hl : lv_has ls 7 [(0, .ref (gA G 213)), (1, .int a1), (2, .int a2)] := hl
  obtain ⟨res, hres⟩ : ∃ r, r = MX9_greatest a1 a2 V := ⟨_, rfl⟩
  rw [← hres]
  show W p l e r_X9_greatest s m ([.ref (gA G 213), .int a1, .int a2] : List Value).toArray below meth c s.heap [] 0 0 (MQ below (gQR G res V) ([.ref (gA G 213), .int a1, .int a2] : List Value).toArray s 0 0 (gF G)) (F0 m 0 ls [])
  have hs : (PX9_greatest_5 1000 a1 a2 (0 : Int32) (0 : Int32) V) := hs
  have hres : res = (BX9_greatest_5 1000 a1 a2 (0 : Int32) (0 : Int32) V) := hres
  have b_5 : ∀ (n : Nat) (x1 : Int32) (x2 : Int32) (x3 : Int32) (x4 : Int32) (H : Heap) (locs : List Loc) (ls : Array Slot), lv_has ls 7 [(0, .ref (gA G 213)), (1, .int x1), (2, .int x2), (3, .int x3), (4, .int x4)] → va_P (gD G) vwCl (gL G V) H → va_S (gF G) s.heap H locs → PX9_greatest_5  n x1 x2 x3 x4 V → res = BX9_greatest_5  n x1 x2 x3 x4 V → W p l e r_X9_greatest s m ([.ref (gA G 213), .int a1, .int a2] : List Value).toArray below meth c H locs 0 0 (MQ below (gQR G res V) ([.ref (gA G 213), .int a1, .int a2] : List Value).toArray s 0 0 (gF G)) (F0 m 5 ls []) := by
    intro n
    induction n with
    | zero =>
      intro x1 x2 x3 x4 H locs ls hl hP hS hs hres
      exact (show False from hs).elim
    | succ n5 ih5 =>
      have b_98 : ∀ (x1 : Int32) (x2 : Int32) (x4 : Int32) (s0 : Int32) (H : Heap) (locs : List Loc) (ls : Array Slot), lv_has ls 7 [(0, .ref (gA G 213)), (1, .int x1), (2, .int x2), (4, .int x4)] → va_P (gD G) vwCl (gL G V) H → va_S (gF G) s.heap H locs → PX9_greatest_98 (PX9_greatest_5 n5) x1 x2 x4 s0 V → res = BX9_greatest_98 (BX9_greatest_5 n5) x1 x2 x4 s0 V → W p l e r_X9_greatest s m ([.ref (gA G 213), .int a1, .int a2] : List Value).toArray below meth c H locs 0 0 (MQ below (gQR G res V) ([.ref (gA G 213), .int a1, .int a2] : List Value).toArray s 0 0 (gF G)) (F0 m 98 ls [.int s0]) := by
        intro x1 x2 x4 s0 H locs ls hl hP hS hs hres
        have hs : ((PX9_greatest_5 n5) x1 x2 s0 (x4 + (1 : Int32)) V) := hs
        have hres : res = ((BX9_greatest_5 n5) x1 x2 s0 (x4 + (1 : Int32)) V) := hres
        refine lv_istore_n (lv' := [(3, .int s0), (0, .ref (gA G 213)), (1, .int x1), (2, .int x2), (4, .int x4)]) hx hb dX9_greatest_98 rfl hl (by decide) rfl (fun ls hl => ?_)
        refine lv_iinc (v := (x4 + (1 : Int32))) (lv' := [(4, .int (x4 + (1 : Int32))), (3, .int s0), (0, .ref (gA G 213)), (1, .int x1), (2, .int x2)]) hx hb dX9_greatest_99 hl (k := 4) rfl rfl (by decide) rfl (fun ls hl => ?_)
        refine lv_goto (tgt := 5) hx hb dX9_greatest_102 (by decide) ?_
        exact ih5 x1 x2 s0 (x4 + (1 : Int32)) _ _ _ (lv_sub hl [2, 3, 4, 1, 0] rfl) hP hS hs hres
      have b_86 : ∀ (x1 : Int32) (x2 : Int32) (x3 : Int32) (x4 : Int32) (x5 : Int32) (H : Heap) (locs : List Loc) (ls : Array Slot), lv_has ls 7 [(0, .ref (gA G 213)), (1, .int x1), (2, .int x2), (3, .int x3), (4, .int x4), (5, .int x5)] → va_P (gD G) vwCl (gL G V) H → va_S (gF G) s.heap H locs → PX9_greatest_86 (PX9_greatest_5 n5) x1 x2 x3 x4 x5 V → res = BX9_greatest_86 (BX9_greatest_5 n5) x1 x2 x3 x4 x5 V → W p l e r_X9_greatest s m ([.ref (gA G 213), .int a1, .int a2] : List Value).toArray below meth c H locs 0 0 (MQ below (gQR G res V) ([.ref (gA G 213), .int a1, .int a2] : List Value).toArray s 0 0 (gF G)) (F0 m 86 ls []) := by
        intro x1 x2 x3 x4 x5 H locs ls hl hP hS hs hres
        have hs : ((x5 ≤ x3 → (PX9_greatest_98 (PX9_greatest_5 n5) x1 x2 x4 x3 V)) ∧ (¬ x5 ≤ x3 → (PX9_greatest_98 (PX9_greatest_5 n5) x1 x2 x4 x5 V))) := hs
        have hres : res = (if x5 ≤ x3 then (BX9_greatest_98 (BX9_greatest_5 n5) x1 x2 x4 x3 V) else (BX9_greatest_98 (BX9_greatest_5 n5) x1 x2 x4 x5 V)) := hres
        refine lv_iload hx hb dX9_greatest_86 (lv_at hl 5 rfl) ?_
        refine lv_iload_n hx hb dX9_greatest_88 rfl (lv_at hl 3 rfl) ?_
        refine lv_icmp_le (tgt := 97) hx hb dX9_greatest_89 (by decide) (fun c_3 => ?_) (fun c_3 => ?_)
        · have hres := hres.trans (if_pos c_3)
          have hs := hs.1 c_3
          refine lv_iload_n hx hb dX9_greatest_97 rfl (lv_at hl 3 rfl) ?_
          exact b_98 x1 x2 x4 x3 _ _ _ (lv_sub hl [0, 1, 2, 4] rfl) hP hS hs hres
        have hres := hres.trans (if_neg c_3)
        have hs := hs.2 c_3
        refine lv_iload hx hb dX9_greatest_92 (lv_at hl 5 rfl) ?_
        refine lv_goto (tgt := 98) hx hb dX9_greatest_94 (by decide) ?_
        exact b_98 x1 x2 x4 x5 _ _ _ (lv_sub hl [0, 1, 2, 4] rfl) hP hS hs hres
      have b_22 : ∀ (n : Nat) (x1 : Int32) (x2 : Int32) (x3 : Int32) (x4 : Int32) (x5 : Int32) (x6 : Int32) (H : Heap) (locs : List Loc) (ls : Array Slot), lv_has ls 7 [(0, .ref (gA G 213)), (1, .int x1), (2, .int x2), (3, .int x3), (4, .int x4), (5, .int x5), (6, .int x6)] → va_P (gD G) vwCl (gL G V) H → va_S (gF G) s.heap H locs → PX9_greatest_22 (PX9_greatest_5 n5) n x1 x2 x3 x4 x5 x6 V → res = BX9_greatest_22 (BX9_greatest_5 n5) n x1 x2 x3 x4 x5 x6 V → W p l e r_X9_greatest s m ([.ref (gA G 213), .int a1, .int a2] : List Value).toArray below meth c H locs 0 0 (MQ below (gQR G res V) ([.ref (gA G 213), .int a1, .int a2] : List Value).toArray s 0 0 (gF G)) (F0 m 22 ls []) := by
        intro n
        induction n with
        | zero =>
          intro x1 x2 x3 x4 x5 x6 H locs ls hl hP hS hs hres
          exact (show False from hs).elim
        | succ n22 ih22 =>
          have b_77 : ∀ (x1 : Int32) (x2 : Int32) (x3 : Int32) (x4 : Int32) (x6 : Int32) (s0 : Int32) (s1 : Int32) (H : Heap) (locs : List Loc) (ls : Array Slot), lv_has ls 7 [(0, .ref (gA G 213)), (1, .int x1), (2, .int x2), (3, .int x3), (4, .int x4), (6, .int x6)] → va_P (gD G) vwCl (gL G V) H → va_S (gF G) s.heap H locs → PX9_greatest_77 (PX9_greatest_5 n5) (PX9_greatest_22 (PX9_greatest_5 n5) n22) x1 x2 x3 x4 x6 s0 s1 V → res = BX9_greatest_77 (BX9_greatest_5 n5) (BX9_greatest_22 (BX9_greatest_5 n5) n22) x1 x2 x3 x4 x6 s0 s1 V → W p l e r_X9_greatest s m ([.ref (gA G 213), .int a1, .int a2] : List Value).toArray below meth c H locs 0 0 (MQ below (gQR G res V) ([.ref (gA G 213), .int a1, .int a2] : List Value).toArray s 0 0 (gF G)) (F0 m 77 ls [.int s0, .int s1]) := by
            intro x1 x2 x3 x4 x6 s0 s1 H locs ls hl hP hS hs hres
            have hs : ((PX9_greatest_22 (PX9_greatest_5 n5) n22) x1 x2 x3 x4 (s1 + s0) (x6 + (1 : Int32)) V) := hs
            have hres : res = ((BX9_greatest_22 (BX9_greatest_5 n5) n22) x1 x2 x3 x4 (s1 + s0) (x6 + (1 : Int32)) V) := hres
            refine lv_iadd hx hb dX9_greatest_77 ?_
            refine lv_istore (lv' := [(5, .int (s1 + s0)), (0, .ref (gA G 213)), (1, .int x1), (2, .int x2), (3, .int x3), (4, .int x4), (6, .int x6)]) hx hb dX9_greatest_78 hl (by decide) rfl (fun ls hl => ?_)
            refine lv_iinc (v := (x6 + (1 : Int32))) (lv' := [(6, .int (x6 + (1 : Int32))), (5, .int (s1 + s0)), (0, .ref (gA G 213)), (1, .int x1), (2, .int x2), (3, .int x3), (4, .int x4)]) hx hb dX9_greatest_80 hl (k := 6) rfl rfl (by decide) rfl (fun ls hl => ?_)
            refine lv_goto (tgt := 22) hx hb dX9_greatest_83 (by decide) ?_
            exact ih22 x1 x2 x3 x4 (s1 + s0) (x6 + (1 : Int32)) _ _ _ (lv_sub hl [2, 3, 4, 5, 6, 1, 0] rfl) hP hS hs hres
          have b_76 : ∀ (x1 : Int32) (x2 : Int32) (x3 : Int32) (x4 : Int32) (x6 : Int32) (s0 : Int32) (H : Heap) (locs : List Loc) (ls : Array Slot), lv_has ls 7 [(0, .ref (gA G 213)), (1, .int x1), (2, .int x2), (3, .int x3), (4, .int x4), (6, .int x6)] → va_P (gD G) vwCl (gL G V) H → va_S (gF G) s.heap H locs → PX9_greatest_76 (PX9_greatest_5 n5) (PX9_greatest_22 (PX9_greatest_5 n5) n22) x1 x2 x3 x4 x6 s0 V → res = BX9_greatest_76 (BX9_greatest_5 n5) (BX9_greatest_22 (BX9_greatest_5 n5) n22) x1 x2 x3 x4 x6 s0 V → W p l e r_X9_greatest s m ([.ref (gA G 213), .int a1, .int a2] : List Value).toArray below meth c H locs 0 0 (MQ below (gQR G res V) ([.ref (gA G 213), .int a1, .int a2] : List Value).toArray s 0 0 (gF G)) (F0 m 76 ls [.int s0]) := by
            intro x1 x2 x3 x4 x6 s0 H locs ls hl hP hS hs hres
            have hs : (PX9_greatest_77 (PX9_greatest_5 n5) (PX9_greatest_22 (PX9_greatest_5 n5) n22) x1 x2 x3 x4 x6 (0 : Int32) s0 V) := hs
            have hres : res = (BX9_greatest_77 (BX9_greatest_5 n5) (BX9_greatest_22 (BX9_greatest_5 n5) n22) x1 x2 x3 x4 x6 (0 : Int32) s0 V) := hres
            refine lv_iconst (v := 0) hx hb dX9_greatest_76 (by decide) ?_
            exact b_77 x1 x2 x3 x4 x6 (0 : Int32) s0 _ _ _ (lv_sub hl [0, 1, 2, 3, 4, 5] rfl) hP hS hs hres
          intro x1 x2 x3 x4 x5 x6 H locs ls hl hP hS hs hres
          have hs : (((V 214 ((0 : Int32)).toNatClampNeg) ≤ x6 → (PX9_greatest_86 (PX9_greatest_5 n5) x1 x2 x3 x4 x5 V)) ∧ (¬ (V 214 ((0 : Int32)).toNatClampNeg) ≤ x6 → ((((x1 >>> (x4 &&& 31)) &&& (1 : Int32)) = (1 : Int32) → ((((x1 >>> (x6 &&& 31)) &&& (1 : Int32)) = (1 : Int32) → (PX9_places x6 x2 V) ∧ (PX9_places x4 x2 V) ∧ (((MX9_places x6 x2 V) = (MX9_places x4 x2 V) → (PX9_greatest_77 (PX9_greatest_5 n5) (PX9_greatest_22 (PX9_greatest_5 n5) n22) x1 x2 x3 x4 x6 (1 : Int32) x5 V)) ∧ (¬ (MX9_places x6 x2 V) = (MX9_places x4 x2 V) → (PX9_greatest_76 (PX9_greatest_5 n5) (PX9_greatest_22 (PX9_greatest_5 n5) n22) x1 x2 x3 x4 x6 x5 V)))) ∧ (¬ ((x1 >>> (x6 &&& 31)) &&& (1 : Int32)) = (1 : Int32) → (PX9_greatest_76 (PX9_greatest_5 n5) (PX9_greatest_22 (PX9_greatest_5 n5) n22) x1 x2 x3 x4 x6 x5 V)))) ∧ (¬ ((x1 >>> (x4 &&& 31)) &&& (1 : Int32)) = (1 : Int32) → (PX9_greatest_86 (PX9_greatest_5 n5) x1 x2 x3 x4 x5 V))))) := hs
          have hres : res = (if (V 214 ((0 : Int32)).toNatClampNeg) ≤ x6 then (BX9_greatest_86 (BX9_greatest_5 n5) x1 x2 x3 x4 x5 V) else (if ((x1 >>> (x4 &&& 31)) &&& (1 : Int32)) = (1 : Int32) then (if ((x1 >>> (x6 &&& 31)) &&& (1 : Int32)) = (1 : Int32) then (if (MX9_places x6 x2 V) = (MX9_places x4 x2 V) then (BX9_greatest_77 (BX9_greatest_5 n5) (BX9_greatest_22 (BX9_greatest_5 n5) n22) x1 x2 x3 x4 x6 (1 : Int32) x5 V) else (BX9_greatest_76 (BX9_greatest_5 n5) (BX9_greatest_22 (BX9_greatest_5 n5) n22) x1 x2 x3 x4 x6 x5 V)) else (BX9_greatest_76 (BX9_greatest_5 n5) (BX9_greatest_22 (BX9_greatest_5 n5) n22) x1 x2 x3 x4 x6 x5 V)) else (BX9_greatest_86 (BX9_greatest_5 n5) x1 x2 x3 x4 x5 V))) := hres
          refine lv_iload hx hb dX9_greatest_22 (lv_at hl 6 rfl) ?_
          refine lv_aload_n hx hb dX9_greatest_24 rfl (lv_at hl 0 rfl) ?_
          refine gh_get (v := .ref (gA G 214)) (C := RX9) (T := TX9) (N := 11) hx hb hw inlX9 hown hT hP 213 (Nat.le_of_ble_eq_true rfl) kd213 rfl rfl 0 (by decide) (hw _ uw117) rfl dX9_greatest_25 ?_
          refine lv_iconst (v := 0) hx hb dX9_greatest_28 (by decide) ?_
          refine gh_iald hx hb hT hP 214 (Nat.le_of_ble_eq_true rfl) kd214 (gh_ci (by decide)) dX9_greatest_29 ?_
          refine lv_icmp_ge (tgt := 86) hx hb dX9_greatest_30 (by decide) (fun c_2 => ?_) (fun c_2 => ?_)
          · have hres := hres.trans (if_pos c_2)
            have hs := hs.1 c_2
            exact b_86 x1 x2 x3 x4 x5 _ _ _ (lv_sub hl [0, 1, 2, 3, 4, 5] rfl) hP hS hs hres
          have hres := hres.trans (if_neg c_2)
          have hs := hs.2 c_2
          refine lv_iload_n hx hb dX9_greatest_33 rfl (lv_at hl 1 rfl) ?_
          refine lv_iload hx hb dX9_greatest_34 (lv_at hl 4 rfl) ?_
          refine lv_ishr hx hb dX9_greatest_36 ?_
          refine lv_iconst (v := 1) hx hb dX9_greatest_37 (by decide) ?_
          refine lv_iand hx hb dX9_greatest_38 ?_
          refine lv_iconst (v := 1) hx hb dX9_greatest_39 (by decide) ?_
          refine lv_icmp_ne (tgt := 86) hx hb dX9_greatest_40 (by decide) (fun c_4 => ?_) (fun c_4 => ?_)
          · have hres := hres.trans (if_neg c_4)
            have hs := hs.2 c_4
            exact b_86 x1 x2 x3 x4 x5 _ _ _ (lv_sub hl [0, 1, 2, 3, 4, 5] rfl) hP hS hs hres
          have hres := hres.trans (if_pos c_4)
          have hs := hs.1 c_4
          refine lv_iload hx hb dX9_greatest_43 (lv_at hl 5 rfl) ?_
          refine lv_iload_n hx hb dX9_greatest_45 rfl (lv_at hl 1 rfl) ?_
          refine lv_iload hx hb dX9_greatest_46 (lv_at hl 6 rfl) ?_
          refine lv_ishr hx hb dX9_greatest_48 ?_
          refine lv_iconst (v := 1) hx hb dX9_greatest_49 (by decide) ?_
          refine lv_iand hx hb dX9_greatest_50 ?_
          refine lv_iconst (v := 1) hx hb dX9_greatest_51 (by decide) ?_
          refine lv_icmp_ne (tgt := 76) hx hb dX9_greatest_52 (by decide) (fun c_5 => ?_) (fun c_5 => ?_)
          · have hres := hres.trans (if_neg c_5)
            have hs := hs.2 c_5
            exact b_76 x1 x2 x3 x4 x6 x5 _ _ _ (lv_sub hl [0, 1, 2, 3, 4, 6] rfl) hP hS hs hres
          have hres := hres.trans (if_pos c_5)
          have hs := hs.1 c_5
          refine lv_aload_n hx hb dX9_greatest_55 rfl (lv_at hl 0 rfl) ?_
          refine lv_iload hx hb dX9_greatest_56 (lv_at hl 6 rfl) ?_
          refine lv_iload_n hx hb dX9_greatest_58 rfl (lv_at hl 2 rfl) ?_
          obtain ⟨ho_6, hs⟩ := hs
          refine gh_kr (va_runV (As := [.int x6, .int x2]) (rest := [.int x5]) ⟨hx, hb, hml, hown, hw⟩ (cc_X9_places l G V x6 x2 ho_6) (cwV 2 hw gv_RX9_85 rfl rfl rfl dd_X9_places ⟨Nat.le_of_ble_eq_true rfl, Nat.le_of_ble_eq_true rfl⟩) (gh_preV hT hP (Nat.le_of_ble_eq_true rfl) kd213 rfl rfl) rfl rfl hl.1 rfl (lv_room (Nat.le_of_ble_eq_true rfl)) dX9_greatest_59 ⟨Nat.zero_le _, Nat.zero_le _⟩) hS (fun H locs hP hS => ?_)
          refine lv_aload_n hx hb dX9_greatest_62 rfl (lv_at hl 0 rfl) ?_
          refine lv_iload hx hb dX9_greatest_63 (lv_at hl 4 rfl) ?_
          refine lv_iload_n hx hb dX9_greatest_65 rfl (lv_at hl 2 rfl) ?_
          obtain ⟨ho_7, hs⟩ := hs
          refine gh_kr (va_runV (As := [.int x4, .int x2]) (rest := [.int (MX9_places x6 x2 V), .int x5]) ⟨hx, hb, hml, hown, hw⟩ (cc_X9_places l G V x4 x2 ho_7) (cwV 2 hw gv_RX9_85 rfl rfl rfl dd_X9_places ⟨Nat.le_of_ble_eq_true rfl, Nat.le_of_ble_eq_true rfl⟩) (gh_preV hT hP (Nat.le_of_ble_eq_true rfl) kd213 rfl rfl) rfl rfl hl.1 rfl (lv_room (Nat.le_of_ble_eq_true rfl)) dX9_greatest_66 ⟨Nat.zero_le _, Nat.zero_le _⟩) hS (fun H locs hP hS => ?_)
          refine lv_icmp_ne (tgt := 76) hx hb dX9_greatest_69 (by decide) (fun c_8 => ?_) (fun c_8 => ?_)
          · have hres := hres.trans (if_neg c_8)
            have hs := hs.2 c_8
            exact b_76 x1 x2 x3 x4 x6 x5 _ _ _ (lv_sub hl [0, 1, 2, 3, 4, 6] rfl) hP hS hs hres
          have hres := hres.trans (if_pos c_8)
          have hs := hs.1 c_8
          refine lv_iconst (v := 1) hx hb dX9_greatest_72 (by decide) ?_
          refine lv_goto (tgt := 77) hx hb dX9_greatest_73 (by decide) ?_
          exact b_77 x1 x2 x3 x4 x6 (1 : Int32) x5 _ _ _ (lv_sub hl [0, 1, 2, 3, 4, 6] rfl) hP hS hs hres
      intro x1 x2 x3 x4 H locs ls hl hP hS hs hres
      have hs : ((¬ (V 214 ((0 : Int32)).toNatClampNeg) ≤ x4 → (PX9_greatest_22 (PX9_greatest_5 n5) 1000 x1 x2 x3 x4 (0 : Int32) (0 : Int32) V))) := hs
      have hres : res = (if (V 214 ((0 : Int32)).toNatClampNeg) ≤ x4 then (x3) else (BX9_greatest_22 (BX9_greatest_5 n5) 1000 x1 x2 x3 x4 (0 : Int32) (0 : Int32) V)) := hres
      refine lv_iload hx hb dX9_greatest_5 (lv_at hl 4 rfl) ?_
      refine lv_aload_n hx hb dX9_greatest_7 rfl (lv_at hl 0 rfl) ?_
      refine gh_get (v := .ref (gA G 214)) (C := RX9) (T := TX9) (N := 11) hx hb hw inlX9 hown hT hP 213 (Nat.le_of_ble_eq_true rfl) kd213 rfl rfl 0 (by decide) (hw _ uw117) rfl dX9_greatest_8 ?_
      refine lv_iconst (v := 0) hx hb dX9_greatest_11 (by decide) ?_
      refine gh_iald hx hb hT hP 214 (Nat.le_of_ble_eq_true rfl) kd214 (gh_ci (by decide)) dX9_greatest_12 ?_
      refine lv_icmp_ge (tgt := 105) hx hb dX9_greatest_13 (by decide) (fun c_1 => ?_) (fun c_1 => ?_)
      · have hres := hres.trans (if_pos c_1)
        refine lv_iload_n hx hb dX9_greatest_105 rfl (lv_at hl 3 rfl) ?_
        exact gh_iretR hx hb hr hlocks hP hS hT hres dX9_greatest_106
      have hres := hres.trans (if_neg c_1)
      have hs := hs c_1
      refine lv_iconst (v := 0) hx hb dX9_greatest_16 (by decide) ?_
      refine lv_istore (lv' := [(5, .int (0 : Int32)), (0, .ref (gA G 213)), (1, .int x1), (2, .int x2), (3, .int x3), (4, .int x4)]) hx hb dX9_greatest_17 hl (by decide) rfl (fun ls hl => ?_)
      refine lv_iconst (v := 0) hx hb dX9_greatest_19 (by decide) ?_
      refine lv_istore (lv' := [(6, .int (0 : Int32)), (5, .int (0 : Int32)), (0, .ref (gA G 213)), (1, .int x1), (2, .int x2), (3, .int x3), (4, .int x4)]) hx hb dX9_greatest_20 hl (by decide) rfl (fun ls hl => ?_)
      exact b_22 1000 x1 x2 x3 x4 (0 : Int32) (0 : Int32) _ _ _ (lv_sub hl [2, 3, 4, 5, 6, 1, 0] rfl) hP hS hs hres
  refine lv_iconst (v := 0) hx hb dX9_greatest_0 (by decide) ?_
  refine lv_istore_n (lv' := [(3, .int (0 : Int32)), (0, .ref (gA G 213)), (1, .int a1), (2, .int a2)]) hx hb dX9_greatest_1 rfl hl (by decide) rfl (fun ls hl => ?_)
  refine lv_iconst (v := 0) hx hb dX9_greatest_2 (by decide) ?_
  refine lv_istore (lv' := [(4, .int (0 : Int32)), (3, .int (0 : Int32)), (0, .ref (gA G 213)), (1, .int a1), (2, .int a2)]) hx hb dX9_greatest_3 hl (by decide) rfl (fun ls hl => ?_)
  exact b_5 1000 a1 a2 (0 : Int32) (0 : Int32) _ _ _ (lv_sub hl [2, 3, 4, 1, 0] rfl) hP hS hs hres
def BX9_lettersOf_4   : Nat → Int32 → Int32 → Int32 → gV → Int32
  | 0, _, _, _, _ => 0
  | n + 1, x1, x2, x3, V => if (MX9_of x1 (0 : Int32) V) ≤ x3 then (x2) else ((BX9_lettersOf_4 n) x1 (x2 ||| ((1 : Int32) <<< ((MX9_letterAt x1 x3 V) &&& 31))) (x3 + (1 : Int32)) V)
def PX9_lettersOf_4   : Nat → Int32 → Int32 → Int32 → gV → Prop
  | 0, _, _, _, _ => False
  | n + 1, x1, x2, x3, V => (PX9_of x1 (0 : Int32) V) ∧ ((¬ (MX9_of x1 (0 : Int32) V) ≤ x3 → (PX9_letterAt x1 x3 V) ∧ ((PX9_lettersOf_4 n) x1 (x2 ||| ((1 : Int32) <<< ((MX9_letterAt x1 x3 V) &&& 31))) (x3 + (1 : Int32)) V)))
def MX9_lettersOf  (a1 : Int32) (V : gV) : Int32 := BX9_lettersOf_4 1000 a1 (0 : Int32) (0 : Int32) V
def PX9_lettersOf  (a1 : Int32) (V : gV) : Prop := (PX9_lettersOf_4 1000 a1 (0 : Int32) (0 : Int32) V)
abbrev wc_X9_lettersOf : List Cond := Cond.code yX9_lettersOf cX9_lettersOf 4 (some .int) :: wsL_law
abbrev r_X9_lettersOf : Room := { frames := 2, cells := 0, slots := 0, locals := 44 }
theorem dd_X9_lettersOf : yX9_lettersOf.cls = RX9 ∧ yX9_lettersOf.cls ≠ "java/lang/invoke/MethodHandle" ∧ yX9_lettersOf.cls ≠ "java/lang/invoke/VarHandle" ∧ (parseMethodDescriptor yX9_lettersOf.desc).map (fun d => d.parameters.length) = some 1 := by decide +kernel
set_option maxHeartbeats 8000000 in
set_option maxRecDepth 100000 in
theorem cc_X9_lettersOf (l : Launch) (G : gG) (V : gV)   (a1 : Int32) (hs : PX9_lettersOf a1 V) : Met l yX9_lettersOf wc_X9_lettersOf r_X9_lettersOf (va_Pc [.ref (gA G 213), .int a1] (gW G V)) (gQR G (MX9_lettersOf a1 V) V) 0 0 (gF G) := by
  refine Met.ofW (cc := cX9_lettersOf) (maxL := 4) (ret := (some .int)) (by decide) rfl ?_
  intro p e s m args below meth c s₁ B hml hv
  obtain ⟨rfl, hP, hT⟩ := hv
  have hx := B.exec
  have hb := B.bytes
  have hr := B.returns
  have hw := gh_hw (atoms_spec (ws := wc_X9_lettersOf) B.pre)
  have hown : s.vm.findClass RX9 = some m.cls := findClass_of_methodNamed B.named
  have hlocks := B.notSynchronized
  have hS : va_S (gF G) s.heap s.heap [] := va_S.rf
  have hl := lv_entry ([.ref (gA G 213), .int a1]) (n := 4) (Nat.le_of_ble_eq_true rfl)
  rw [lg_entry_eq]
  generalize (lg_sl ([.ref (gA G 213), .int a1]) ++ List.replicate (4 - (lg_sl ([.ref (gA G 213), .int a1])).length) Slot.unset).toArray = ls at hl ⊢
  have hl : lv_has ls 4 [(0, .ref (gA G 213)), (1, .int a1)] := hl
  obtain ⟨res, hres⟩ : ∃ r, r = MX9_lettersOf a1 V := ⟨_, rfl⟩
  rw [← hres]
  show W p l e r_X9_lettersOf s m ([.ref (gA G 213), .int a1] : List Value).toArray below meth c s.heap [] 0 0 (MQ below (gQR G res V) ([.ref (gA G 213), .int a1] : List Value).toArray s 0 0 (gF G)) (F0 m 0 ls [])
  have hs : (PX9_lettersOf_4 1000 a1 (0 : Int32) (0 : Int32) V) := hs
  have hres : res = (BX9_lettersOf_4 1000 a1 (0 : Int32) (0 : Int32) V) := hres
  have b_4 : ∀ (n : Nat) (x1 : Int32) (x2 : Int32) (x3 : Int32) (H : Heap) (locs : List Loc) (ls : Array Slot), lv_has ls 4 [(0, .ref (gA G 213)), (1, .int x1), (2, .int x2), (3, .int x3)] → va_P (gD G) vwCl (gL G V) H → va_S (gF G) s.heap H locs → PX9_lettersOf_4  n x1 x2 x3 V → res = BX9_lettersOf_4  n x1 x2 x3 V → W p l e r_X9_lettersOf s m ([.ref (gA G 213), .int a1] : List Value).toArray below meth c H locs 0 0 (MQ below (gQR G res V) ([.ref (gA G 213), .int a1] : List Value).toArray s 0 0 (gF G)) (F0 m 4 ls []) := by
    intro n
    induction n with
    | zero =>
      intro x1 x2 x3 H locs ls hl hP hS hs hres
      exact (show False from hs).elim
    | succ n4 ih4 =>
      intro x1 x2 x3 H locs ls hl hP hS hs hres
      have hs : (PX9_of x1 (0 : Int32) V) ∧ ((¬ (MX9_of x1 (0 : Int32) V) ≤ x3 → (PX9_letterAt x1 x3 V) ∧ ((PX9_lettersOf_4 n4) x1 (x2 ||| ((1 : Int32) <<< ((MX9_letterAt x1 x3 V) &&& 31))) (x3 + (1 : Int32)) V))) := hs
      have hres : res = (if (MX9_of x1 (0 : Int32) V) ≤ x3 then (x2) else ((BX9_lettersOf_4 n4) x1 (x2 ||| ((1 : Int32) <<< ((MX9_letterAt x1 x3 V) &&& 31))) (x3 + (1 : Int32)) V)) := hres
      refine lv_iload_n hx hb dX9_lettersOf_4 rfl (lv_at hl 3 rfl) ?_
      refine lv_aload_n hx hb dX9_lettersOf_5 rfl (lv_at hl 0 rfl) ?_
      refine lv_iload_n hx hb dX9_lettersOf_6 rfl (lv_at hl 1 rfl) ?_
      refine lv_iconst (v := 0) hx hb dX9_lettersOf_7 (by decide) ?_
      obtain ⟨ho_1, hs⟩ := hs
      refine gh_kr (va_runV (As := [.int x1, .int (0 : Int32)]) (rest := [.int x3]) ⟨hx, hb, hml, hown, hw⟩ (cc_X9_of l G V x1 (0 : Int32) ho_1) (cwV 2 hw gv_RX9_29 rfl rfl rfl dd_X9_of ⟨Nat.le_of_ble_eq_true rfl, Nat.le_of_ble_eq_true rfl⟩) (gh_preV hT hP (Nat.le_of_ble_eq_true rfl) kd213 rfl rfl) rfl rfl hl.1 rfl (lv_room (Nat.le_of_ble_eq_true rfl)) dX9_lettersOf_8 ⟨Nat.zero_le _, Nat.zero_le _⟩) hS (fun H locs hP hS => ?_)
      refine lv_icmp_ge (tgt := 31) hx hb dX9_lettersOf_11 (by decide) (fun c_2 => ?_) (fun c_2 => ?_)
      · have hres := hres.trans (if_pos c_2)
        refine lv_iload_n hx hb dX9_lettersOf_31 rfl (lv_at hl 2 rfl) ?_
        exact gh_iretR hx hb hr hlocks hP hS hT hres dX9_lettersOf_32
      have hres := hres.trans (if_neg c_2)
      have hs := hs c_2
      refine lv_iload_n hx hb dX9_lettersOf_14 rfl (lv_at hl 2 rfl) ?_
      refine lv_iconst (v := 1) hx hb dX9_lettersOf_15 (by decide) ?_
      refine lv_aload_n hx hb dX9_lettersOf_16 rfl (lv_at hl 0 rfl) ?_
      refine lv_iload_n hx hb dX9_lettersOf_17 rfl (lv_at hl 1 rfl) ?_
      refine lv_iload_n hx hb dX9_lettersOf_18 rfl (lv_at hl 3 rfl) ?_
      obtain ⟨ho_3, hs⟩ := hs
      refine gh_kr (va_runV (As := [.int x1, .int x3]) (rest := [.int (1 : Int32), .int x2]) ⟨hx, hb, hml, hown, hw⟩ (cc_X9_letterAt l G V x1 x3 ho_3) (cwV 2 hw gv_RX9_33 rfl rfl rfl dd_X9_letterAt ⟨Nat.le_of_ble_eq_true rfl, Nat.le_of_ble_eq_true rfl⟩) (gh_preV hT hP (Nat.le_of_ble_eq_true rfl) kd213 rfl rfl) rfl rfl hl.1 rfl (lv_room (Nat.le_of_ble_eq_true rfl)) dX9_lettersOf_19 ⟨Nat.zero_le _, Nat.zero_le _⟩) hS (fun H locs hP hS => ?_)
      refine lv_ishl hx hb dX9_lettersOf_22 ?_
      refine lv_ior hx hb dX9_lettersOf_23 ?_
      refine lv_istore_n (lv' := [(2, .int (x2 ||| ((1 : Int32) <<< ((MX9_letterAt x1 x3 V) &&& 31)))), (0, .ref (gA G 213)), (1, .int x1), (3, .int x3)]) hx hb dX9_lettersOf_24 rfl hl (by decide) rfl (fun ls hl => ?_)
      refine lv_iinc (v := (x3 + (1 : Int32))) (lv' := [(3, .int (x3 + (1 : Int32))), (2, .int (x2 ||| ((1 : Int32) <<< ((MX9_letterAt x1 x3 V) &&& 31)))), (0, .ref (gA G 213)), (1, .int x1)]) hx hb dX9_lettersOf_25 hl (k := 3) rfl rfl (by decide) rfl (fun ls hl => ?_)
      refine lv_goto (tgt := 4) hx hb dX9_lettersOf_28 (by decide) ?_
      exact ih4 x1 (x2 ||| ((1 : Int32) <<< ((MX9_letterAt x1 x3 V) &&& 31))) (x3 + (1 : Int32)) _ _ _ (lv_sub hl [2, 3, 1, 0] rfl) hP hS hs hres
  refine lv_iconst (v := 0) hx hb dX9_lettersOf_0 (by decide) ?_
  refine lv_istore_n (lv' := [(2, .int (0 : Int32)), (0, .ref (gA G 213)), (1, .int a1)]) hx hb dX9_lettersOf_1 rfl hl (by decide) rfl (fun ls hl => ?_)
  refine lv_iconst (v := 0) hx hb dX9_lettersOf_2 (by decide) ?_
  refine lv_istore_n (lv' := [(3, .int (0 : Int32)), (2, .int (0 : Int32)), (0, .ref (gA G 213)), (1, .int a1)]) hx hb dX9_lettersOf_3 rfl hl (by decide) rfl (fun ls hl => ?_)
  exact b_4 1000 a1 (0 : Int32) (0 : Int32) _ _ _ (lv_sub hl [2, 3, 1, 0] rfl) hP hS hs hres
