/-! THE WORLD: 219 cells at fixed addresses (class and reference together); all that a call changes is V: the numbers of each cell. -/
abbrev gV : Type := Nat → Nat → Int32
abbrev gG : Type := (Nat → ClassId) × (Nat → Nat → Nat) × (Nat → Nat) × ClassId × ClassId
def gA (G : gG) (k : Nat) : Nat := G.2.2.1 k
def gD (G : gG) : va_G := (G.1, G.2.1)
def gcI (G : gG) : ClassId := G.2.2.2.1
def gcS (G : gG) : ClassId := G.2.2.2.2
abbrev gty (G : gG) : List (ClassId × FieldType) := [(gcI G, .int), (gcS G, .object "GuessingHall$State")]
def gh_st : List Nat := [5, 7, 4, 27, 4, 27, 4, 27, 4, 139, 0, 4, 16, 4, 16, 4, 16, 4, 16, 4, 16, 4, 16, 3, 2, 4, 17, 4, 17, 4, 17, 4, 17]
def gh_kdL : List Nat := 8 :: (gh_st ++ (gh_st ++ (1 :: 10 :: (gh_st ++ (gh_st ++ (gh_st ++ (gh_st ++ [6, 7, 4, 27, 4, 27, 4, 27, 4, 139, 4, 131, 9, 257, 995, 257, 131, 171])))))))
/-- the kind of each cell: its class's number, 10 the ring, 11 + n a row of n ints -/
def gk (k : Nat) : Nat := gh_kdL.getD k 999
/-- what a cell of kind c at place k holds, its numbers being v -/
def gE (G : gG) (v : Nat → Int32) (c k : Nat) : va_E := match c with
  | 0 => .inr (0, [.int (v 0), .ref (gA G (k + 1)), .ref (gA G (k + 3)), .ref (gA G (k + 5)), .ref (gA G (k + 7)), .ref (gA G (k + 9)), .ref (gA G (k + 11))])
  | 1 => .inr (1, [.int (v 0), .int (v 1), .ref (gA G (k + 1))])
  | 2 => .inr (2, [.int (v 0), .ref (gA G (k + 1)), .ref (gA G (k + 3)), .ref (gA G (k + 5)), .ref (gA G (k + 7))])
  | 3 => .inr (3, [.int (v 0), .int (v 1), .int (v 2), .int (v 3), .int (v 4), .int (v 5), .int (v 6)])
  | 4 => .inr (4, [.ref (gA G (k + 1))])
  | 5 => .inr (5, [.ref (gA G (k + 1)), .ref (gA G (k + 10)), .ref (gA G (k + 23)), .ref (gA G (k + 24)), .int (v 4), .int (v 5), .int (v 6), .int (v 7), .int (v 8)])
  | 6 => .inr (6, [.int (v 0), .int (v 1), .int (v 2), .ref (gA G (k + 1)), .ref (gA G (k + 10)), .int (v 5)])
  | 7 => .inr (7, [.int (v 0), .ref (gA G (k + 1)), .ref (gA G (k + 3)), .ref (gA G (k + 5)), .ref (gA G (k + 7))])
  | 8 => .inr (8, [.ref (gA G (k + 1)), .ref (gA G (k + 34)), .ref (gA G (k + 67)), .ref (gA G (k + 201)), .int (v 4)])
  | 9 => .inr (9, [.ref (gA G (k + 1)), .ref (gA G (k + 2)), .ref (gA G (k + 3)), .int (v 3), .int (v 4), .ref (gA G (k + 4)), .int (v 6), .int (v 7), .int (v 8), .int (v 9), .ref (gA G (k + 5))])
  | 10 => .inl (gcS G, 4, .inr (.inr (.inr (.inr (fun j => some (gA G (k + 1 + 33 * j)))))))
  | n + 11 => .inl (gcI G, n, .inl v)
/-- the whole world as a list of cells -/
def gL (G : gG) (V : gV) : va_W := (List.range 219).map (fun k => (gA G k, gE G (V k) (gk k) k))
theorem gL_at {G : gG} {V : gV} {k c : Nat} (hk : k < 219) (hc : gk k = c) : (gL G V)[k]? = some (gA G k, gE G (V k) c k) := by
  subst hc
  simp [gL, List.getElem?_map, List.getElem?_range hk]
theorem gL_lt {G : gG} {V : gV} {k : Nat} {q : Nat × va_E} (h : (gL G V)[k]? = some q) : k < 219 ∧ q = (gA G k, gE G (V k) (gk k) k) := by
  have h1 : k < (gL G V).length := (List.getElem?_eq_some_iff.mp h).1
  have h2 : k < 219 := by simpa [gL] using h1
  refine ⟨h2, ?_⟩
  rw [gL_at h2 rfl] at h
  exact (Option.some.inj h).symm
/-- one cell's numbers anew -/
def gs (V : gV) (k : Nat) (f : Nat → Int32) : gV := fun q => if q = k then f else V q
theorem gs_at {V : gV} {k : Nat} {f : Nat → Int32} : gs V k f k = f := by simp [gs]
theorem gs_ne {V : gV} {k q : Nat} {f : Nat → Int32} (h : q ≠ k) : gs V k f q = V q := by simp [gs, h]
/-- one number anew -/
def gu (V : gV) (k j : Nat) (x : Int32) : gV := gs V k (upd (V k) j x)
theorem gL_set {G : gG} {V : gV} {k c : Nat} {f : Nat → Int32} {e : va_E} (hk : k < 219) (hc : gk k = c) (he : e = gE G f c k) : (gL G V).set k (gA G k, e) = gL G (gs V k f) := by
  subst hc
  subst he
  refine List.ext_getElem? fun i => ?_
  rw [List.getElem?_set]
  by_cases hi : k = i
  · subst hi
    have hl : k < (gL G V).length := by simpa [gL] using hk
    rw [if_pos rfl, if_pos hl, gL_at hk rfl, gs_at]
  · rw [if_neg hi]
    by_cases h2 : i < 219
    · rw [gL_at h2 rfl, gL_at h2 rfl, gs_ne (fun q => hi q.symm)]
    · have n1 : (gL G V)[i]? = none := List.getElem?_eq_none (by simp [gL]; omega)
      have n2 : (gL G (gs V k f))[i]? = none := List.getElem?_eq_none (by simp [gL]; omega)
      rw [n1, n2]
/-- the addresses are apart -/
def gJ (G : gG) : Prop := ∀ i j : Nat, i < 219 → j < 219 → gA G i = gA G j → i = j
/-- the cells of the world -/
def gF (G : gG) : Nat → Prop := fun q => ∃ k : Nat, k < 219 ∧ q = gA G k
theorem gL_D {G : gG} (hJ : gJ G) (V : gV) : va_D (gF G) (gL G V) := by
  refine ⟨fun i j p q hp hq h => ?_, fun k q h => ?_⟩
  · obtain ⟨h1, rfl⟩ := gL_lt hp
    obtain ⟨h2, rfl⟩ := gL_lt hq
    exact hJ i j h1 h2 h
  · obtain ⟨h1, rfl⟩ := gL_lt h
    exact ⟨k, h1, rfl⟩
/-- what the tables say of calls between nest mates -/
def gN (U : State) : Prop :=
  va_Nw (.methodLinkNest RX5 80 yX8_numberBehind RX8) U ∧ va_Nw (.methodLinkNest RX7 49 yX8_holds RX8) U ∧ va_Nw (.methodLinkNest RX3 32 yX8_holds RX8) U ∧ va_Nw (.methodLinkNest RX5 187 yX8_holds RX8) U ∧ va_Nw (.methodLinkNest RX6 87 yX8_isBetween RX8) U ∧
  va_Nw (.methodLinkNest RX8 9 yX5_init RX8) U ∧ va_Nw (.methodLinkNest RX5 11 yX7_init RX8) U ∧ va_Nw (.methodLinkNest RX5 20 yX0_init RX8) U ∧ va_Nw (.methodLinkNest RX5 27 yX3_init RX8) U ∧ va_Nw (.methodLinkNest RX5 34 yX2_init RX8) U ∧ va_Nw (.methodLinkNest RX1 24 yX5_init RX8) U ∧ va_Nw (.methodLinkNest RX8 28 yX6_init RX8) U ∧ va_Nw (.methodLinkNest RX6 23 yX7_init RX8) U
theorem gN.warm {s U : State} (hW : s.WarmedH U.vm) (h : gN s) : gN U := by
  obtain ⟨h1, h2, h3, h4, h5, h6, h7, h8, h9, h10, h11, h12, h13⟩ := h
  exact ⟨va_Nw.warmM hW h1, va_Nw.warmM hW h2, va_Nw.warmM hW h3, va_Nw.warmM hW h4, va_Nw.warmM hW h5, va_Nw.warmM hW h6, va_Nw.warmM hW h7, va_Nw.warmM hW h8, va_Nw.warmM hW h9, va_Nw.warmM hW h10, va_Nw.warmM hW h11, va_Nw.warmM hW h12, va_Nw.warmM hW h13⟩
theorem gN.same {u U : State} (hU : u.vm = U.vm) (h : gN u) : gN U := by
  obtain ⟨h1, h2, h3, h4, h5, h6, h7, h8, h9, h10, h11, h12, h13⟩ := h
  exact ⟨va_Nw.same rfl hU h1, va_Nw.same rfl hU h2, va_Nw.same rfl hU h3, va_Nw.same rfl hU h4, va_Nw.same rfl hU h5, va_Nw.same rfl hU h6, va_Nw.same rfl hU h7, va_Nw.same rfl hU h8, va_Nw.same rfl hU h9, va_Nw.same rfl hU h10, va_Nw.same rfl hU h11, va_Nw.same rfl hU h12, va_Nw.same rfl hU h13⟩
/-- what a state knows of the tables -/
def gT (G : gG) (s : State) : Prop := va_K (gD G) vwCl (gty G) s ∧ gJ G ∧ gN s
theorem gT.warm {G : gG} {s U : State} (hW : s.WarmedH U.vm) (h : gT G s) : gT G U := ⟨va_K.moved hW.alike h.1, h.2.1, h.2.2.warm hW⟩
/-- a state that holds the world at V -/
def gW (G : gG) (V : gV) (U : State) : Prop := va_P (gD G) vwCl (gL G V) U.heap ∧ gT G U
theorem gB {G : gG} {V : gV} {As : List Value} : FrameBlind (va_Pc As (gW G V)) := fun a U g mk q => by
  obtain ⟨q1, q2, q3, q4, q5⟩ := q
  exact ⟨q1, q2, va_K.moved (u := U) (U := U.calling g mk a) (Vm.Alike.refl U.vm) q3, q4, gN.same rfl q5⟩
/-- the ends: an int and a new world; an int over the same world; a new world; a float over the same world -/
abbrev gQI (G : gG) (res : Int32 × gV) : Array Value → State → Outcome → State → Prop := va_Qi (fun (r : Int32) (V1 : gV) => res = (r, V1)) (gW G) (gF G)
abbrev gQR (G : gG) (res : Int32) (V : gV) : Array Value → State → Outcome → State → Prop := va_Qi (fun (r : Int32) (V1 : gV) => res = r ∧ V1 = V) (gW G) (gF G)
abbrev gQV (G : gG) (res : gV) : Array Value → State → Outcome → State → Prop := va_Qv (fun (V1 : gV) => res = V1) (gW G) (gF G)
abbrev gQF (G : gG) (res : UInt32) (V : gV) : Array Value → State → Outcome → State → Prop := va_Qf (fun (r : UInt32) (V1 : gV) => res = r ∧ V1 = V) (gW G) (gF G)
section GH
variable {p : Program} {l : Launch} {e : Env} {R : Room} {s : State} {m : MethodId} {args : Array Value} {below : List Frame} {meth : Method} {c : Code} {H H0 : Heap} {locs : List Loc} {cells slots : Nat} {Q : State → Prop}
variable {G : gG} {V : gV} {pc : Nat} {ls : Array Slot} {rest : List Value} {cc : ByteArray} {res : Int32 × gV} {rer : Int32} {rev : gV} {ref : UInt32}
theorem gh_iret {v : Int32} (hx : p.tables.exec = Jvm.exec) (hb : c.code = cc) (hr : meth.sig.returnType = some .int) (hlocks : meth.locks = false) (hP : va_P (gD G) vwCl (gL G V) H) (hS : va_S (gF G) s.heap H locs) (hT : gT G s) (hres : res = (v, V)) (hdg : decode cc pc = .ok (.ireturn, 1)) :
    W p l e R s m args below meth c H locs cells slots (MQ below (gQI G res) args s cells slots (gF G)) (F0 m pc ls [.int v]) :=
  W.iret (v := v) hx hb hr (fun t ht hW => ⟨⟨v, V, rfl, hres, by rw [ht]; exact hP, hT.warm hW⟩, hS.F ht⟩) hS.2.2 hdg hlocks
theorem gh_zret {v : Int32} {ty : FieldType} (hx : p.tables.exec = Jvm.exec) (hb : c.code = cc) (hr : meth.sig.returnType = some ty) (hn : narrow ty (.int v) = .int v) (hlocks : meth.locks = false) (hP : va_P (gD G) vwCl (gL G V) H) (hS : va_S (gF G) s.heap H locs) (hT : gT G s) (hres : res = (v, V)) (hdg : decode cc pc = .ok (.ireturn, 1)) :
    W p l e R s m args below meth c H locs cells slots (MQ below (gQI G res) args s cells slots (gF G)) (F0 m pc ls [.int v]) :=
  W.zret (v := v) hx hb hr hn (fun t ht hW => ⟨⟨v, V, rfl, hres, by rw [ht]; exact hP, hT.warm hW⟩, hS.F ht⟩) hS.2.2 hdg hlocks
theorem gh_iretR {v : Int32} (hx : p.tables.exec = Jvm.exec) (hb : c.code = cc) (hr : meth.sig.returnType = some .int) (hlocks : meth.locks = false) (hP : va_P (gD G) vwCl (gL G V) H) (hS : va_S (gF G) s.heap H locs) (hT : gT G s) (hres : rer = v) (hdg : decode cc pc = .ok (.ireturn, 1)) :
    W p l e R s m args below meth c H locs cells slots (MQ below (gQR G rer V) args s cells slots (gF G)) (F0 m pc ls [.int v]) :=
  W.iret (v := v) hx hb hr (fun t ht hW => ⟨⟨v, V, rfl, ⟨hres, rfl⟩, by rw [ht]; exact hP, hT.warm hW⟩, hS.F ht⟩) hS.2.2 hdg hlocks
theorem gh_zretR {v : Int32} {ty : FieldType} (hx : p.tables.exec = Jvm.exec) (hb : c.code = cc) (hr : meth.sig.returnType = some ty) (hn : narrow ty (.int v) = .int v) (hlocks : meth.locks = false) (hP : va_P (gD G) vwCl (gL G V) H) (hS : va_S (gF G) s.heap H locs) (hT : gT G s) (hres : rer = v) (hdg : decode cc pc = .ok (.ireturn, 1)) :
    W p l e R s m args below meth c H locs cells slots (MQ below (gQR G rer V) args s cells slots (gF G)) (F0 m pc ls [.int v]) :=
  W.zret (v := v) hx hb hr hn (fun t ht hW => ⟨⟨v, V, rfl, ⟨hres, rfl⟩, by rw [ht]; exact hP, hT.warm hW⟩, hS.F ht⟩) hS.2.2 hdg hlocks
theorem gh_vret (hx : p.tables.exec = Jvm.exec) (hb : c.code = cc) (hr : meth.sig.returnType = none) (hlocks : meth.locks = false) (hP : va_P (gD G) vwCl (gL G V) H) (hS : va_S (gF G) s.heap H locs) (hT : gT G s) (hres : rev = V) (hdg : decode cc pc = .ok (.return_, 1)) :
    W p l e R s m args below meth c H locs cells slots (MQ below (gQV G rev) args s cells slots (gF G)) (F0 m pc ls []) :=
  W.vret hx hb hr (fun t ht hW => ⟨⟨V, rfl, hres, by rw [ht]; exact hP, hT.warm hW⟩, hS.F ht⟩) hS.2.2 hdg hlocks
theorem gh_fretR {v : UInt32} (hx : p.tables.exec = Jvm.exec) (hb : c.code = cc) (hr : meth.sig.returnType = some .float) (hlocks : meth.locks = false) (hP : va_P (gD G) vwCl (gL G V) H) (hS : va_S (gF G) s.heap H locs) (hT : gT G s) (hres : ref = v) (hdg : decode cc pc = .ok (.freturn, 1)) :
    W p l e R s m args below meth c H locs cells slots (MQ below (gQF G ref V) args s cells slots (gF G)) (F0 m pc ls [.float v]) :=
  W.fret (v := v) hx hb hr (fun t ht hW => ⟨⟨v, V, rfl, ⟨hres, rfl⟩, by rw [ht]; exact hP, hT.warm hW⟩, hS.F ht⟩) hS.2.2 hdg hlocks
/-- reading a field -/
theorem gh_get (hx : p.tables.exec = Jvm.exec) (hb : c.code = cc) {own C : String} {T : u_T} {N ci index : Nat} {Ts : List Cond} (hts : ∀ w ∈ Ts, w.before args s = true) (hin : ∀ w ∈ u_ws C T N, w ∈ Ts) (hown : s.vm.findClass own = some m.cls) (hT : gT G s) (hP : va_P (gD G) vwCl (gL G V) H) (k : Nat) (hk : k < 219) (hkd : gk k = ci) {fs : List Value} (he : gE G (V k) ci k = .inr (ci, fs)) (hc : vwCl[ci]? = some (C, T, N)) (j : Nat) (hj : j < N)
    (hlink : (Cond.fieldLink own index (T j).1 (T j).2.1 (T j).2.2.1).before args s = true) {v : Value} (hv : fs[j]? = some v) (hdg : decode cc pc = .ok (.getfield index, 3))
    (kk : W p l e R s m args below meth c H locs cells slots Q (F0 m (pc + 3) ls (v :: rest))) : W p l e R s m args below meth c H locs cells slots Q (F0 m pc ls (.ref (gA G k) :: rest)) :=
  va_get hx hb hts hin hown hT.1 hP k ((gL_at hk hkd).trans (congrArg (fun z => some (gA G k, z)) he)) hc j hj hlink (fun _ h => h) hv hdg kk
/-- writing a number into a field -/
theorem gh_put (hx : p.tables.exec = Jvm.exec) (hb : c.code = cc) {own C : String} {T : u_T} {N ci index : Nat} {Ts : List Cond} (hts : ∀ w ∈ Ts, w.before args s = true) (hin : ∀ w ∈ u_ws C T N, w ∈ Ts) {ty0 : Nat → FieldType} (hty : ∀ k, k < N → parseFieldDescriptor (T k).2.2.1 = some (ty0 k)) (hnm : ∀ a, a < N → ∀ b, b < N → a ≠ b → (T a).2.1 ≠ (T b).2.1) (hown : s.vm.findClass own = some m.cls) (hT : gT G s) (hP : va_P (gD G) vwCl (gL G V) H) (hS : va_S (gF G) H0 H locs) (k : Nat) (hk : k < 219) (hkd : gk k = ci) {fs : List Value} (he : gE G (V k) ci k = .inr (ci, fs)) (hc : vwCl[ci]? = some (C, T, N)) (j : Nat) (hj : j < N)
    (hlink : (Cond.fieldLink own index (T j).1 (T j).2.1 (T j).2.2.1).before args s = true) (hfin : (T j).2.2.2 = false) {ty : FieldType} {x : Int32} (hd : parseFieldDescriptor (T j).2.2.1 = some ty) (hn : narrow ty (.int x) = .int x) (hfit : fits ty (.int x) = true) (hl : j < fs.length) (hnew : (.inr (ci, fs.set j (.int x)) : va_E) = gE G (upd (V k) j x) ci k)
    (hdg : decode cc pc = .ok (.putfield index, 3))
    (kk : ∀ (H1 : Heap) (locs1 : List Loc), va_P (gD G) vwCl (gL G (gu V k j x)) H1 → va_S (gF G) H0 H1 locs1 → W p l e R s m args below meth c H1 locs1 cells slots Q (F0 m (pc + 3) ls rest)) : W p l e R s m args below meth c H locs cells slots Q (F0 m pc ls (.int x :: .ref (gA G k) :: rest)) :=
  va_put hx hb hts hin ty0 hty hnm hown hT.1 hP (gL_D hT.2.1 V) hS k ((gL_at hk hkd).trans (congrArg (fun z => some (gA G k, z)) he)) hc j hj hlink (fun _ h => h) hfin hd hn hfit hl hdg (fun H1 locs1 hP1 _ hS1 => kk H1 locs1 (by rw [gL_set hk hkd hnew] at hP1; exact hP1) hS1)
/-- the rows of ints -/
theorem gh_iald (hx : p.tables.exec = Jvm.exec) (hb : c.code = cc) (hT : gT G s) (hP : va_P (gD G) vwCl (gL G V) H) (k : Nat) (hk : k < 219) {n : Nat} (hkd : gk k = n + 11) {i : Int32} (hin : vp_in i n) (hdg : decode cc pc = .ok (.iaload, 1))
    (kk : W p l e R s m args below meth c H locs cells slots Q (F0 m (pc + 1) ls (.int (V k i.toNatClampNeg) :: rest))) : W p l e R s m args below meth c H locs cells slots Q (F0 m pc ls (.int i :: .ref (gA G k) :: rest)) :=
  va_iald hx hb hT.1 hP k 0 (gL_at hk hkd) rfl hin hdg kk
theorem gh_iast (hx : p.tables.exec = Jvm.exec) (hb : c.code = cc) (hT : gT G s) (hP : va_P (gD G) vwCl (gL G V) H) (hS : va_S (gF G) H0 H locs) (k : Nat) (hk : k < 219) {n : Nat} (hkd : gk k = n + 11) {i x : Int32} (hin : vp_in i n) (hdg : decode cc pc = .ok (.iastore, 1))
    (kk : ∀ (H1 : Heap) (locs1 : List Loc), va_P (gD G) vwCl (gL G (gu V k i.toNatClampNeg x)) H1 → va_S (gF G) H0 H1 locs1 → W p l e R s m args below meth c H1 locs1 cells slots Q (F0 m (pc + 1) ls rest)) : W p l e R s m args below meth c H locs cells slots Q (F0 m pc ls (.int x :: .int i :: .ref (gA G k) :: rest)) :=
  va_iast hx hb hT.1 hP (gL_D hT.2.1 V) hS k 0 (gL_at hk hkd) rfl hin hdg (fun H1 locs1 hP1 _ hS1 => kk H1 locs1 (by rw [gL_set (e := .inl (gcI G, n, .inl (upd (V k) i.toNatClampNeg x))) (f := upd (V k) i.toNatClampNeg x) hk hkd rfl] at hP1; exact hP1) hS1)
theorem gh_alen (hx : p.tables.exec = Jvm.exec) (hb : c.code = cc) (hT : gT G s) (hP : va_P (gD G) vwCl (gL G V) H) (k : Nat) (hk : k < 219) {n : Nat} (hkd : gk k = n + 11) (hdg : decode cc pc = .ok (.arraylength, 1))
    (kk : W p l e R s m args below meth c H locs cells slots Q (F0 m (pc + 1) ls (.int (nI n) :: rest))) : W p l e R s m args below meth c H locs cells slots Q (F0 m pc ls (.ref (gA G k) :: rest)) :=
  va_alen (x := (n, .inl (V k))) hx hb hT.1 hP k 0 (gL_at hk hkd) rfl rfl hdg kk
/-- arraycopy from the front of one row to the front of another -/
theorem gh_copy (hx : p.tables.exec = Jvm.exec) (hb : c.code = cc) (hml : c.maxLocals = ls.size) {own : String} {index : Nat} (hown : s.vm.findClass own = some m.cls) (hlink : (Cond.methodLink own index arraycopyName).before args s = true) (hnat : (Cond.native arraycopyName).before args s = true) (hstat : (Cond.static arraycopyName).before args s = true) (hini : (Cond.initialized "java/lang/System").before args s = true)
    (hT : gT G s) (hP : va_P (gD G) vwCl (gL G V) H) (hS : va_S (gF G) H0 H locs) (k0 k1 : Nat) (hk0 : k0 < 219) (hk1 : k1 < 219) {n0 n1 : Nat} (hkd0 : gk k0 = n0 + 11) (hkd1 : gk k1 = n1 + 11) {n : Int32} (h3 : ¬ n < 0) (h4 : n.toNatClampNeg ≤ n0) (h5 : n.toNatClampNeg ≤ n1)
    (hframes : 1 ≤ R.frames) (hlocals : (rest.map fun v => v.category).sum + (nativeFrameWords "java/lang/System" "arraycopy" 5 + 11) ≤ R.locals) (hdg : decode cc pc = .ok (.invokestatic index, 3))
    (kk : ∀ (H1 : Heap) (locs1 : List Loc), va_P (gD G) vwCl (gL G (gs V k1 (va_cpy (V k0) (V k1) 0 0 n.toNatClampNeg))) H1 → va_S (gF G) H0 H1 locs1 → W p l e R s m args below meth c H1 locs1 cells slots Q (F0 m (pc + 3) ls rest)) : W p l e R s m args below meth c H locs cells slots Q (F0 m pc ls (.int n :: .int 0 :: .ref (gA G k1) :: .int 0 :: .ref (gA G k0) :: rest)) :=
  va_copyi hx hb hml hown hlink hnat hstat hini hT.1 hP (gL_D hT.2.1 V) hS k0 k1 0 0 (gL_at hk0 hkd0) (gL_at hk1 hkd1) rfl rfl rfl (by decide) (by decide) h3 (by show 0 + _ ≤ _; omega) (by show 0 + _ ≤ _; omega) (fun _ _ => rfl) hframes hlocals hdg (fun H1 locs1 hP1 _ hS1 => kk H1 locs1 (by
    have e0 : (0 : Int32).toNatClampNeg = 0 := by decide
    rw [e0, gL_set (e := .inl (gcI G, n1, .inl (va_cpy (V k0) (V k1) 0 0 n.toNatClampNeg))) (f := va_cpy (V k0) (V k1) 0 0 n.toNatClampNeg) hk1 hkd1 rfl] at hP1; exact hP1) hS1)
/-- how a call's start is met -/
theorem gh_pre {As : List Value} (hT : gT G s) (hP : va_P (gD G) vwCl (gL G V) H) : PreS s H (va_Pc As (gW G V)) As :=
  ⟨gB, fun U hU hW => ⟨rfl, by rw [hU]; exact hP, hT.warm hW⟩⟩
theorem gh_preV {As : List Value} {k ci : Nat} {q : vw_C} {fs : List Value} (hT : gT G s) (hP : va_P (gD G) vwCl (gL G V) H) (hk : k < 219) (hkd : gk k = ci) (he : gE G (V k) ci k = .inr (ci, fs)) (hc : vwCl[ci]? = some q) : PreV s H q.1 (gA G k) (va_Pc (.ref (gA G k) :: As) (gW G V)) As :=
  ⟨gB, va_recv hT.1 hP hc ((gL_at hk hkd).trans (congrArg (fun z => some (gA G k, z)) he)), fun U hU hW => ⟨rfl, by rw [hU]; exact hP, hT.warm hW⟩⟩
variable {A : Array Value} {st0 : List Value} {mc ms : Nat}
/-- behind a call: the four ends -/
theorem gh_ki (hr : va_Run p l e R s m args below meth c H locs cells slots 0 0 (F0 m pc ls st0) rest (gQI G res A) (gF G)) (hS : va_S (gF G) H0 H locs)
    (kk : ∀ (H1 : Heap) (locs1 : List Loc), va_P (gD G) vwCl (gL G res.2) H1 → va_S (gF G) H0 H1 locs1 → W p l e R s m args below meth c H1 locs1 cells slots Q (F0 m (pc + 3) ls (.int res.1 :: rest))) : W p l e R s m args below meth c H locs cells slots Q (F0 m pc ls st0) :=
  va_calli hr hS (fun _ _ h => h) (fun _ h => h) (fun r V1 t H1 locs1 ht hvm hw hB _ _ hS1 => by
    subst hw
    exact kk H1 locs1 (by rw [← ht]; exact hB.1) hS1)
theorem gh_kr (hr : va_Run p l e R s m args below meth c H locs cells slots 0 0 (F0 m pc ls st0) rest (gQR G rer V A) (gF G)) (hS : va_S (gF G) H0 H locs)
    (kk : ∀ (H1 : Heap) (locs1 : List Loc), va_P (gD G) vwCl (gL G V) H1 → va_S (gF G) H0 H1 locs1 → W p l e R s m args below meth c H1 locs1 cells slots Q (F0 m (pc + 3) ls (.int rer :: rest))) : W p l e R s m args below meth c H locs cells slots Q (F0 m pc ls st0) :=
  va_calli hr hS (fun _ _ h => h) (fun _ h => h) (fun r V1 t H1 locs1 ht hvm hw hB _ _ hS1 => by
    obtain ⟨rfl, rfl⟩ := hw
    exact kk H1 locs1 (by rw [← ht]; exact hB.1) hS1)
theorem gh_kv (hr : va_Run p l e R s m args below meth c H locs cells slots 0 0 (F0 m pc ls st0) rest (gQV G rev A) (gF G)) (hS : va_S (gF G) H0 H locs)
    (kk : ∀ (H1 : Heap) (locs1 : List Loc), va_P (gD G) vwCl (gL G rev) H1 → va_S (gF G) H0 H1 locs1 → W p l e R s m args below meth c H1 locs1 cells slots Q (F0 m (pc + 3) ls rest)) : W p l e R s m args below meth c H locs cells slots Q (F0 m pc ls st0) :=
  va_callv hr hS (fun _ _ h => h) (fun _ h => h) (fun V1 t H1 locs1 ht hvm hw hB _ _ hS1 => by
    subst hw
    exact kk H1 locs1 (by rw [← ht]; exact hB.1) hS1)
theorem gh_kf (hr : va_Run p l e R s m args below meth c H locs cells slots 0 0 (F0 m pc ls st0) rest (gQF G ref V A) (gF G)) (hS : va_S (gF G) H0 H locs)
    (kk : ∀ (H1 : Heap) (locs1 : List Loc), va_P (gD G) vwCl (gL G V) H1 → va_S (gF G) H0 H1 locs1 → W p l e R s m args below meth c H1 locs1 cells slots Q (F0 m (pc + 3) ls (.float ref :: rest))) : W p l e R s m args below meth c H locs cells slots Q (F0 m pc ls st0) :=
  va_callf hr hS (fun _ _ h => h) (fun _ h => h) (fun r V1 t H1 locs1 ht hvm hw hB _ _ hS1 => by
    obtain ⟨rfl, rfl⟩ := hw
    exact kk H1 locs1 (by rw [← ht]; exact hB.1) hS1)
end GH
theorem gh_sw {x : Int32} {n : Nat} (hn : n < 2 ^ 31) (h : ∀ j, j ≤ n → ¬ x = nI j) : x.toInt < 0 ∨ (n : Int) < x.toInt := by
  rcases Int.lt_or_le x.toInt 0 with h0 | h0
  · exact Or.inl h0
  · rcases Int.lt_or_le (n : Int) x.toInt with h1 | h1
    · exact Or.inr h1
    · exfalso
      obtain ⟨j, hj⟩ := Int.eq_ofNat_of_zero_le h0
      have hjn : j ≤ n := by omega
      refine h j hjn (Int32.toInt_inj.mp ?_)
      rw [nI_toInt (by omega), hj]
/-- which kinds stand behind a place -/
def gX4 (k : Nat) : Prop := k + 1 < 219 ∧ gk k = 4 ∧ gk (k + 1) = gk (k + 1) - 11 + 11
def gX7 (k : Nat) : Prop := k + 8 < 219 ∧ gk k = 7 ∧ gX4 (k + 1) ∧ gX4 (k + 3) ∧ gX4 (k + 5) ∧ gX4 (k + 7)
def gX0 (k : Nat) : Prop := k + 12 < 219 ∧ gk k = 0 ∧ gX4 (k + 1) ∧ gX4 (k + 3) ∧ gX4 (k + 5) ∧ gX4 (k + 7) ∧ gX4 (k + 9) ∧ gX4 (k + 11)
def gX3 (k : Nat) : Prop := k < 219 ∧ gk k = 3
def gX2 (k : Nat) : Prop := k + 8 < 219 ∧ gk k = 2 ∧ gX4 (k + 1) ∧ gX4 (k + 3) ∧ gX4 (k + 5) ∧ gX4 (k + 7)
def gX5 (k : Nat) : Prop := k + 32 < 219 ∧ gk k = 5 ∧ gX7 (k + 1) ∧ gX0 (k + 10) ∧ gX3 (k + 23) ∧ gX2 (k + 24)
theorem kd0 : gk 0 = 8 := by decide +kernel
theorem kd1 : gk 1 = 5 := by decide +kernel
theorem kd2 : gk 2 = 7 := by decide +kernel
theorem kd3 : gk 3 = 4 := by decide +kernel
theorem kd4 : gk 4 = 16 + 11 := by decide +kernel
theorem kd5 : gk 5 = 4 := by decide +kernel
theorem kd6 : gk 6 = 16 + 11 := by decide +kernel
theorem kd7 : gk 7 = 4 := by decide +kernel
theorem kd8 : gk 8 = 16 + 11 := by decide +kernel
theorem kd9 : gk 9 = 4 := by decide +kernel
theorem kd10 : gk 10 = 128 + 11 := by decide +kernel
theorem kd11 : gk 11 = 0 := by decide +kernel
theorem kd12 : gk 12 = 4 := by decide +kernel
theorem kd13 : gk 13 = 5 + 11 := by decide +kernel
theorem kd14 : gk 14 = 4 := by decide +kernel
theorem kd15 : gk 15 = 5 + 11 := by decide +kernel
theorem kd16 : gk 16 = 4 := by decide +kernel
theorem kd17 : gk 17 = 5 + 11 := by decide +kernel
theorem kd18 : gk 18 = 4 := by decide +kernel
theorem kd19 : gk 19 = 5 + 11 := by decide +kernel
theorem kd20 : gk 20 = 4 := by decide +kernel
theorem kd21 : gk 21 = 5 + 11 := by decide +kernel
theorem kd22 : gk 22 = 4 := by decide +kernel
theorem kd23 : gk 23 = 5 + 11 := by decide +kernel
theorem kd24 : gk 24 = 3 := by decide +kernel
theorem kd25 : gk 25 = 2 := by decide +kernel
theorem kd26 : gk 26 = 4 := by decide +kernel
theorem kd27 : gk 27 = 6 + 11 := by decide +kernel
theorem kd28 : gk 28 = 4 := by decide +kernel
theorem kd29 : gk 29 = 6 + 11 := by decide +kernel
theorem kd30 : gk 30 = 4 := by decide +kernel
theorem kd31 : gk 31 = 6 + 11 := by decide +kernel
theorem kd32 : gk 32 = 4 := by decide +kernel
theorem kd33 : gk 33 = 6 + 11 := by decide +kernel
theorem kd34 : gk 34 = 5 := by decide +kernel
theorem kd35 : gk 35 = 7 := by decide +kernel
theorem kd36 : gk 36 = 4 := by decide +kernel
theorem kd37 : gk 37 = 16 + 11 := by decide +kernel
theorem kd38 : gk 38 = 4 := by decide +kernel
theorem kd39 : gk 39 = 16 + 11 := by decide +kernel
theorem kd40 : gk 40 = 4 := by decide +kernel
theorem kd41 : gk 41 = 16 + 11 := by decide +kernel
theorem kd42 : gk 42 = 4 := by decide +kernel
theorem kd43 : gk 43 = 128 + 11 := by decide +kernel
theorem kd44 : gk 44 = 0 := by decide +kernel
theorem kd45 : gk 45 = 4 := by decide +kernel
theorem kd46 : gk 46 = 5 + 11 := by decide +kernel
theorem kd47 : gk 47 = 4 := by decide +kernel
theorem kd48 : gk 48 = 5 + 11 := by decide +kernel
theorem kd49 : gk 49 = 4 := by decide +kernel
theorem kd50 : gk 50 = 5 + 11 := by decide +kernel
theorem kd51 : gk 51 = 4 := by decide +kernel
theorem kd52 : gk 52 = 5 + 11 := by decide +kernel
theorem kd53 : gk 53 = 4 := by decide +kernel
theorem kd54 : gk 54 = 5 + 11 := by decide +kernel
theorem kd55 : gk 55 = 4 := by decide +kernel
theorem kd56 : gk 56 = 5 + 11 := by decide +kernel
theorem kd57 : gk 57 = 3 := by decide +kernel
theorem kd58 : gk 58 = 2 := by decide +kernel
theorem kd59 : gk 59 = 4 := by decide +kernel
theorem kd60 : gk 60 = 6 + 11 := by decide +kernel
theorem kd61 : gk 61 = 4 := by decide +kernel
theorem kd62 : gk 62 = 6 + 11 := by decide +kernel
theorem kd63 : gk 63 = 4 := by decide +kernel
theorem kd64 : gk 64 = 6 + 11 := by decide +kernel
theorem kd65 : gk 65 = 4 := by decide +kernel
theorem kd66 : gk 66 = 6 + 11 := by decide +kernel
theorem kd67 : gk 67 = 1 := by decide +kernel
theorem kd68 : gk 68 = 10 := by decide +kernel
theorem kd69 : gk 69 = 5 := by decide +kernel
theorem kd70 : gk 70 = 7 := by decide +kernel
theorem kd71 : gk 71 = 4 := by decide +kernel
theorem kd72 : gk 72 = 16 + 11 := by decide +kernel
theorem kd73 : gk 73 = 4 := by decide +kernel
theorem kd74 : gk 74 = 16 + 11 := by decide +kernel
theorem kd75 : gk 75 = 4 := by decide +kernel
theorem kd76 : gk 76 = 16 + 11 := by decide +kernel
theorem kd77 : gk 77 = 4 := by decide +kernel
theorem kd78 : gk 78 = 128 + 11 := by decide +kernel
theorem kd79 : gk 79 = 0 := by decide +kernel
theorem kd80 : gk 80 = 4 := by decide +kernel
theorem kd81 : gk 81 = 5 + 11 := by decide +kernel
theorem kd82 : gk 82 = 4 := by decide +kernel
theorem kd83 : gk 83 = 5 + 11 := by decide +kernel
theorem kd84 : gk 84 = 4 := by decide +kernel
theorem kd85 : gk 85 = 5 + 11 := by decide +kernel
theorem kd86 : gk 86 = 4 := by decide +kernel
theorem kd87 : gk 87 = 5 + 11 := by decide +kernel
theorem kd88 : gk 88 = 4 := by decide +kernel
theorem kd89 : gk 89 = 5 + 11 := by decide +kernel
theorem kd90 : gk 90 = 4 := by decide +kernel
theorem kd91 : gk 91 = 5 + 11 := by decide +kernel
theorem kd92 : gk 92 = 3 := by decide +kernel
theorem kd93 : gk 93 = 2 := by decide +kernel
theorem kd94 : gk 94 = 4 := by decide +kernel
theorem kd95 : gk 95 = 6 + 11 := by decide +kernel
theorem kd96 : gk 96 = 4 := by decide +kernel
theorem kd97 : gk 97 = 6 + 11 := by decide +kernel
theorem kd98 : gk 98 = 4 := by decide +kernel
theorem kd99 : gk 99 = 6 + 11 := by decide +kernel
theorem kd100 : gk 100 = 4 := by decide +kernel
theorem kd101 : gk 101 = 6 + 11 := by decide +kernel
theorem kd102 : gk 102 = 5 := by decide +kernel
theorem kd103 : gk 103 = 7 := by decide +kernel
theorem kd104 : gk 104 = 4 := by decide +kernel
theorem kd105 : gk 105 = 16 + 11 := by decide +kernel
theorem kd106 : gk 106 = 4 := by decide +kernel
theorem kd107 : gk 107 = 16 + 11 := by decide +kernel
theorem kd108 : gk 108 = 4 := by decide +kernel
theorem kd109 : gk 109 = 16 + 11 := by decide +kernel
theorem kd110 : gk 110 = 4 := by decide +kernel
theorem kd111 : gk 111 = 128 + 11 := by decide +kernel
theorem kd112 : gk 112 = 0 := by decide +kernel
theorem kd113 : gk 113 = 4 := by decide +kernel
theorem kd114 : gk 114 = 5 + 11 := by decide +kernel
theorem kd115 : gk 115 = 4 := by decide +kernel
theorem kd116 : gk 116 = 5 + 11 := by decide +kernel
theorem kd117 : gk 117 = 4 := by decide +kernel
theorem kd118 : gk 118 = 5 + 11 := by decide +kernel
theorem kd119 : gk 119 = 4 := by decide +kernel
theorem kd120 : gk 120 = 5 + 11 := by decide +kernel
theorem kd121 : gk 121 = 4 := by decide +kernel
theorem kd122 : gk 122 = 5 + 11 := by decide +kernel
theorem kd123 : gk 123 = 4 := by decide +kernel
theorem kd124 : gk 124 = 5 + 11 := by decide +kernel
theorem kd125 : gk 125 = 3 := by decide +kernel
theorem kd126 : gk 126 = 2 := by decide +kernel
theorem kd127 : gk 127 = 4 := by decide +kernel
theorem kd128 : gk 128 = 6 + 11 := by decide +kernel
theorem kd129 : gk 129 = 4 := by decide +kernel
theorem kd130 : gk 130 = 6 + 11 := by decide +kernel
theorem kd131 : gk 131 = 4 := by decide +kernel
theorem kd132 : gk 132 = 6 + 11 := by decide +kernel
theorem kd133 : gk 133 = 4 := by decide +kernel
theorem kd134 : gk 134 = 6 + 11 := by decide +kernel
theorem kd135 : gk 135 = 5 := by decide +kernel
theorem kd136 : gk 136 = 7 := by decide +kernel
theorem kd137 : gk 137 = 4 := by decide +kernel
theorem kd138 : gk 138 = 16 + 11 := by decide +kernel
theorem kd139 : gk 139 = 4 := by decide +kernel
theorem kd140 : gk 140 = 16 + 11 := by decide +kernel
theorem kd141 : gk 141 = 4 := by decide +kernel
theorem kd142 : gk 142 = 16 + 11 := by decide +kernel
theorem kd143 : gk 143 = 4 := by decide +kernel
theorem kd144 : gk 144 = 128 + 11 := by decide +kernel
theorem kd145 : gk 145 = 0 := by decide +kernel
theorem kd146 : gk 146 = 4 := by decide +kernel
theorem kd147 : gk 147 = 5 + 11 := by decide +kernel
theorem kd148 : gk 148 = 4 := by decide +kernel
theorem kd149 : gk 149 = 5 + 11 := by decide +kernel
theorem kd150 : gk 150 = 4 := by decide +kernel
theorem kd151 : gk 151 = 5 + 11 := by decide +kernel
theorem kd152 : gk 152 = 4 := by decide +kernel
theorem kd153 : gk 153 = 5 + 11 := by decide +kernel
theorem kd154 : gk 154 = 4 := by decide +kernel
theorem kd155 : gk 155 = 5 + 11 := by decide +kernel
theorem kd156 : gk 156 = 4 := by decide +kernel
theorem kd157 : gk 157 = 5 + 11 := by decide +kernel
theorem kd158 : gk 158 = 3 := by decide +kernel
theorem kd159 : gk 159 = 2 := by decide +kernel
theorem kd160 : gk 160 = 4 := by decide +kernel
theorem kd161 : gk 161 = 6 + 11 := by decide +kernel
theorem kd162 : gk 162 = 4 := by decide +kernel
theorem kd163 : gk 163 = 6 + 11 := by decide +kernel
theorem kd164 : gk 164 = 4 := by decide +kernel
theorem kd165 : gk 165 = 6 + 11 := by decide +kernel
theorem kd166 : gk 166 = 4 := by decide +kernel
theorem kd167 : gk 167 = 6 + 11 := by decide +kernel
theorem kd168 : gk 168 = 5 := by decide +kernel
theorem kd169 : gk 169 = 7 := by decide +kernel
theorem kd170 : gk 170 = 4 := by decide +kernel
theorem kd171 : gk 171 = 16 + 11 := by decide +kernel
theorem kd172 : gk 172 = 4 := by decide +kernel
theorem kd173 : gk 173 = 16 + 11 := by decide +kernel
theorem kd174 : gk 174 = 4 := by decide +kernel
theorem kd175 : gk 175 = 16 + 11 := by decide +kernel
theorem kd176 : gk 176 = 4 := by decide +kernel
theorem kd177 : gk 177 = 128 + 11 := by decide +kernel
theorem kd178 : gk 178 = 0 := by decide +kernel
theorem kd179 : gk 179 = 4 := by decide +kernel
theorem kd180 : gk 180 = 5 + 11 := by decide +kernel
theorem kd181 : gk 181 = 4 := by decide +kernel
theorem kd182 : gk 182 = 5 + 11 := by decide +kernel
theorem kd183 : gk 183 = 4 := by decide +kernel
theorem kd184 : gk 184 = 5 + 11 := by decide +kernel
theorem kd185 : gk 185 = 4 := by decide +kernel
theorem kd186 : gk 186 = 5 + 11 := by decide +kernel
theorem kd187 : gk 187 = 4 := by decide +kernel
theorem kd188 : gk 188 = 5 + 11 := by decide +kernel
theorem kd189 : gk 189 = 4 := by decide +kernel
theorem kd190 : gk 190 = 5 + 11 := by decide +kernel
theorem kd191 : gk 191 = 3 := by decide +kernel
theorem kd192 : gk 192 = 2 := by decide +kernel
theorem kd193 : gk 193 = 4 := by decide +kernel
theorem kd194 : gk 194 = 6 + 11 := by decide +kernel
theorem kd195 : gk 195 = 4 := by decide +kernel
theorem kd196 : gk 196 = 6 + 11 := by decide +kernel
theorem kd197 : gk 197 = 4 := by decide +kernel
theorem kd198 : gk 198 = 6 + 11 := by decide +kernel
theorem kd199 : gk 199 = 4 := by decide +kernel
theorem kd200 : gk 200 = 6 + 11 := by decide +kernel
theorem kd201 : gk 201 = 6 := by decide +kernel
theorem kd202 : gk 202 = 7 := by decide +kernel
theorem kd203 : gk 203 = 4 := by decide +kernel
theorem kd204 : gk 204 = 16 + 11 := by decide +kernel
theorem kd205 : gk 205 = 4 := by decide +kernel
theorem kd206 : gk 206 = 16 + 11 := by decide +kernel
theorem kd207 : gk 207 = 4 := by decide +kernel
theorem kd208 : gk 208 = 16 + 11 := by decide +kernel
theorem kd209 : gk 209 = 4 := by decide +kernel
theorem kd210 : gk 210 = 128 + 11 := by decide +kernel
theorem kd211 : gk 211 = 4 := by decide +kernel
theorem kd212 : gk 212 = 120 + 11 := by decide +kernel
theorem kd213 : gk 213 = 9 := by decide +kernel
theorem kd214 : gk 214 = 246 + 11 := by decide +kernel
theorem kd215 : gk 215 = 984 + 11 := by decide +kernel
theorem kd216 : gk 216 = 246 + 11 := by decide +kernel
theorem kd217 : gk 217 = 120 + 11 := by decide +kernel
theorem kd218 : gk 218 = 160 + 11 := by decide +kernel
/-- a number that is a boolean -/
def gZ (x : Int32) : Prop := x = 0 ∨ x = 1
theorem gZ.n {x : Int32} (h : gZ x) : narrow .boolean (.int x) = .int x := by
  rcases h with rfl | rfl <;> rfl
theorem gZ.f {x : Int32} (h : gZ x) : fits .boolean (.int x) = true := by
  rcases h with rfl | rfl <;> rfl
theorem gh_in {x : Int32} {n : Nat} (h0 : ¬ x < 0) (h1 : ¬ nI n ≤ x) (hn : n < 2 ^ 31) : vp_in x n := by
  obtain ⟨j, hj, rfl⟩ := nI_of h0
  refine vp_in_nI ?_ hn
  rcases Nat.lt_or_ge j n with h | h
  · exact h
  · exact absurd (nI_le h hj) h1
theorem gh_hw {args : Array Value} {s : State} {y : MethodName} {b : ByteArray} {n : Nat} {ret : Option FieldType} (h : ∀ w ∈ (Cond.code y b n ret :: wsL_law), w.before args s = true) : ∀ w ∈ wsL_law, w.before args s = true := fun w hw => h w (List.mem_cons_of_mem _ hw)
theorem gh_g1 {y : MethodName} {b : ByteArray} {n : Nat} {ret : Option FieldType} (h : Cond.code y b n ret ∈ wsL_law) : GoodIn wsL_law (Cond.code y b n ret :: wsL_law) := by
  intro w hw
  have hm : w ∈ wsL_law := by
    rcases List.mem_cons.mp hw with rfl | hw
    · exact h
    · exact hw
  exact ⟨hm, good_of_word (List.all_eq_true.mp gh_good w hm)⟩
theorem gh_g2 {ws : List Cond} (h : ∀ w ∈ ws, w ∈ wsL_law) : GoodIn wsL_law ws := fun w hw => ⟨h w hw, good_of_word (List.all_eq_true.mp gh_good w (h w hw))⟩
theorem gh_gV {own C : String} {idx : Nat} {y : MethodName} {b : ByteArray} {n : Nat} {ret : Option FieldType} (h1 : Cond.methodLink own idx y ∈ wsL_law) (h2 : Cond.instanceMethod y ∈ wsL_law) (h3 : Cond.selects C y y ∈ wsL_law) (h4 : Cond.initialized C ∈ wsL_law) (h5 : Cond.code y b n ret ∈ wsL_law) : GoodIn wsL_law (wsV own idx C y (Cond.code y b n ret :: wsL_law)) :=
  goodIn_app (gh_g2 (List.forall_mem_cons.mpr ⟨h1, List.forall_mem_cons.mpr ⟨h2, List.forall_mem_cons.mpr ⟨h3, List.forall_mem_cons.mpr ⟨h4, fun _ h => absurd h List.not_mem_nil⟩⟩⟩⟩)) (gh_g1 h5)
theorem gh_gS {own : String} {idx : Nat} {y : MethodName} {b : ByteArray} {n : Nat} {ret : Option FieldType} (h1 : Cond.methodLink own idx y ∈ wsL_law) (h2 : Cond.static y ∈ wsL_law) (h4 : Cond.initialized y.cls ∈ wsL_law) (h5 : Cond.code y b n ret ∈ wsL_law) : GoodIn wsL_law (va_wsS own idx y (Cond.code y b n ret :: wsL_law)) :=
  goodIn_app (gh_g2 (List.forall_mem_cons.mpr ⟨h1, List.forall_mem_cons.mpr ⟨h2, List.forall_mem_cons.mpr ⟨h4, fun _ h => absurd h List.not_mem_nil⟩⟩⟩)) (gh_g1 h5)
