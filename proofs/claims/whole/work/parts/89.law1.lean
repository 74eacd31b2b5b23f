/-! THE LAW: one call of each kind -/
def lwC (p : Program) (s : State) (m : MethodId) (c : Code) (b L : Nat) (xs : Nat → Int32) (G : gG) (H0 : Heap) : Prop := p.tables.exec = Jvm.exec ∧ c.code = cL_law ∧ c.maxLocals = 4 ∧ (∀ w ∈ wsL_law, w.before #[Value.ref b] s = true) ∧ s.vm.findClass RL = some m.cls ∧ gT G s ∧ va_X b L xs s H0 ∧ b < H0.size ∧ ¬ gF G b ∧ L ≤ 2048
theorem gi_of : ∀ i, i < 4 → gX5 (69 + 33 * i) := fun i hi => by
  rcases (show i = 0 ∨ i = 1 ∨ i = 2 ∨ i = 3 by omega) with rfl | rfl | rfl | rfl
  · exact gi69
  · exact gi102
  · exact gi135
  · exact gi168
section LAW
variable {p : Program} {l : Launch} {e : Env} {s : State} {m : MethodId} {below : List Frame} {meth : Method} {c : Code} {b L : Nat} {xs : Nat → Int32} {G : gG} {H0 : Heap} {Q : State → Prop} {j : Nat} {V : gV} {H : Heap} {locs : List Loc} {ls : Array Slot}
abbrev lwL (G : gG) (b j : Nat) : List (Nat × Value) := [(3, .int (nI (4 * j))), (2, .ref (gA G 213)), (1, .ref (gA G 0)), (0, .ref b)]
/-- script[i + a] -/
theorem lw_arg {pc : Nat} {rest : List Value} (a : Nat) (n : Int) (C : lwC p s m c b L xs G H0) (hl : lv_has ls 4 (lwL G b j)) (hS : va_S (gF G) H0 H locs) (hj : 4 * j + 4 ≤ L) (ha : a < 4) (hn : Int32.ofInt n = nI a) (d0 : decode cL_law pc = .ok (.aload_n 0, 1)) (d1 : decode cL_law (pc + 1) = .ok (.iload_n 3, 1)) (d2 : decode cL_law (pc + 1 + 1) = .ok (.iconst n, 1)) (d3 : decode cL_law (pc + 1 + 1 + 1) = .ok (.iadd, 1)) (d4 : decode cL_law (pc + 1 + 1 + 1 + 1) = .ok (.iaload, 1))
    (k : W p l e room_1 s m #[Value.ref b] below meth c H locs 219 3753 Q (F0 m (pc + 1 + 1 + 1 + 1 + 1) ls (.int (xs (4 * j + a)) :: rest))) : W p l e room_1 s m #[Value.ref b] below meth c H locs 219 3753 Q (F0 m pc ls rest) := by
  obtain ⟨hx, hb, hml, hw, hown, hT, hX, hbl, hbA, hL⟩ := C
  refine lv_aload_n hx hb d0 rfl (lv_at hl 3 rfl) ?_
  refine lv_iload_n hx hb d1 rfl (lv_at hl 0 rfl) ?_
  refine lv_iconst (v := nI a) hx hb d2 hn ?_
  refine lv_iadd hx hb d3 ?_
  rw [nI_add]
  refine va_sld hx hb hX hbl hbA hS (pu_in (by omega) (by omega)) d4 ?_
  rw [nI_clamp (by omega)]
  exact k
set_option maxHeartbeats 4000000 in
set_option maxRecDepth 100000 in
theorem lc_word (C : lwC p s m c b L xs G H0) (hj : 4 * j + 4 ≤ L) (hl : lv_has ls 4 (lwL G b j)) (hI : gInv V) (hP : va_P (gD G) vwCl (gL G V) H) (hS : va_S (gF G) H0 H locs) (kk : ∀ (V : gV) (H : Heap) (locs : List Loc), gInv V → va_P (gD G) vwCl (gL G V) H → va_S (gF G) H0 H locs → W p l e room_1 s m #[Value.ref b] below meth c H locs 219 3753 Q (F0 m 753 ls [])) : W p l e room_1 s m #[Value.ref b] below meth c H locs 219 3753 Q (F0 m 148 ls []) := by
  have C0 := C
  obtain ⟨hx, hb, hml, hw, hown, hT, hX, hbl, hbA, hL⟩ := C
  obtain ⟨i, hi, a8, a9, ae, aI⟩ := ok_word hI (xs (4 * j + 1)) (xs (4 * j + 2))
  refine lv_aload_n hx hb dL_law_148 rfl (lv_at hl 2 rfl) ?_
  refine lw_arg 1 1 C0 hl hS hj (by omega) rfl dL_law_149 dL_law_150 dL_law_151 dL_law_152 dL_law_153 ?_
  refine lw_arg 2 2 C0 hl hS hj (by omega) rfl dL_law_154 dL_law_155 dL_law_156 dL_law_157 dL_law_158 ?_
  have k8 := cc_X8_word l G V (69 + 33 * i) (gi_of i hi) i hi rfl (xs (4 * j + 1)) (xs (4 * j + 2)) a8
  generalize MX8_word i (69 + 33 * i) (xs (4 * j + 1)) (xs (4 * j + 2)) V = R8 at k8 a9 ae aI
  refine gh_ki (va_runV (As := [.int (xs (4 * j + 1)), .int (xs (4 * j + 2))]) (rest := []) ⟨hx, hb, hml, hown, hw⟩ (k8) (cwV 2 hw (gh_gV uw122 uw123 uw124 uw2 uw125) rfl rfl rfl dd_X8_word ⟨(Nat.le_of_ble_eq_true rfl), (Nat.le_of_ble_eq_true rfl)⟩) (gh_preV hT hP (Nat.le_of_ble_eq_true rfl) kd0 rfl rfl) rfl rfl hl.1 rfl (lv_room (Nat.le_of_ble_eq_true rfl)) dL_law_159 ⟨(Nat.le_of_ble_eq_true rfl), (Nat.le_of_ble_eq_true rfl)⟩) hS (fun H locs hP hS => ?_)
  refine lv_aload_n hx hb dL_law_162 rfl (lv_at hl 1 rfl) ?_
  refine lw_arg 1 1 C0 hl hS hj (by omega) rfl dL_law_163 dL_law_164 dL_law_165 dL_law_166 dL_law_167 ?_
  refine lw_arg 2 2 C0 hl hS hj (by omega) rfl dL_law_168 dL_law_169 dL_law_170 dL_law_171 dL_law_172 ?_
  have k9 := cc_X9_word l G R8.2 (xs (4 * j + 1)) (xs (4 * j + 2)) a9
  generalize MX9_word (xs (4 * j + 1)) (xs (4 * j + 2)) R8.2 = R9 at k9 ae aI
  refine gh_ki (va_runV (As := [.int (xs (4 * j + 1)), .int (xs (4 * j + 2))]) (rest := [.int (R8.1)]) ⟨hx, hb, hml, hown, hw⟩ (k9) (cwV 2 hw (gh_gV uw197 uw198 uw199 uw5 uw200) rfl rfl rfl dd_X9_word ⟨(Nat.le_of_ble_eq_true rfl), (Nat.le_of_ble_eq_true rfl)⟩) (gh_preV hT hP (Nat.le_of_ble_eq_true rfl) kd213 rfl rfl) rfl rfl hl.1 rfl (lv_room (Nat.le_of_ble_eq_true rfl)) dL_law_173 ⟨(Nat.le_of_ble_eq_true rfl), (Nat.le_of_ble_eq_true rfl)⟩) hS (fun H locs hP hS => ?_)
  exact lv_icmp_eq hx hb dL_law_176 (tgt := 753) rfl (fun _ => kk _ _ _ aI hP hS) (fun q => absurd ae q)
set_option maxHeartbeats 4000000 in
set_option maxRecDepth 100000 in
theorem lc_seat (C : lwC p s m c b L xs G H0) (hj : 4 * j + 4 ≤ L) (hl : lv_has ls 4 (lwL G b j)) (hI : gInv V) (hP : va_P (gD G) vwCl (gL G V) H) (hS : va_S (gF G) H0 H locs) (kk : ∀ (V : gV) (H : Heap) (locs : List Loc), gInv V → va_P (gD G) vwCl (gL G V) H → va_S (gF G) H0 H locs → W p l e room_1 s m #[Value.ref b] below meth c H locs 219 3753 Q (F0 m 753 ls [])) : W p l e room_1 s m #[Value.ref b] below meth c H locs 219 3753 Q (F0 m 181 ls []) := by
  have C0 := C
  obtain ⟨hx, hb, hml, hw, hown, hT, hX, hbl, hbA, hL⟩ := C
  obtain ⟨i, hi, a8, a9, ae, aI⟩ := ok_seat hI (xs (4 * j + 1))
  refine lv_aload_n hx hb dL_law_181 rfl (lv_at hl 2 rfl) ?_
  refine lw_arg 1 1 C0 hl hS hj (by omega) rfl dL_law_182 dL_law_183 dL_law_184 dL_law_185 dL_law_186 ?_
  have k8 := cc_X8_seat l G V (69 + 33 * i) (gi_of i hi) i hi rfl (xs (4 * j + 1)) a8
  generalize MX8_seat i (69 + 33 * i) (xs (4 * j + 1)) V = R8 at k8 a9 ae aI
  refine gh_ki (va_runV (As := [.int (xs (4 * j + 1))]) (rest := []) ⟨hx, hb, hml, hown, hw⟩ (k8) (cwV 1 hw (gh_gV uw221 uw222 uw223 uw2 uw224) rfl rfl rfl dd_X8_seat ⟨(Nat.le_of_ble_eq_true rfl), (Nat.le_of_ble_eq_true rfl)⟩) (gh_preV hT hP (Nat.le_of_ble_eq_true rfl) kd0 rfl rfl) rfl rfl hl.1 rfl (lv_room (Nat.le_of_ble_eq_true rfl)) dL_law_187 ⟨(Nat.le_of_ble_eq_true rfl), (Nat.le_of_ble_eq_true rfl)⟩) hS (fun H locs hP hS => ?_)
  refine lv_aload_n hx hb dL_law_190 rfl (lv_at hl 1 rfl) ?_
  refine lw_arg 1 1 C0 hl hS hj (by omega) rfl dL_law_191 dL_law_192 dL_law_193 dL_law_194 dL_law_195 ?_
  have k9 := cc_X9_seat l G R8.2 (xs (4 * j + 1)) a9
  generalize MX9_seat (xs (4 * j + 1)) R8.2 = R9 at k9 ae aI
  refine gh_ki (va_runV (As := [.int (xs (4 * j + 1))]) (rest := [.int (R8.1)]) ⟨hx, hb, hml, hown, hw⟩ (k9) (cwV 1 hw (gh_gV uw236 uw237 uw238 uw5 uw239) rfl rfl rfl dd_X9_seat ⟨(Nat.le_of_ble_eq_true rfl), (Nat.le_of_ble_eq_true rfl)⟩) (gh_preV hT hP (Nat.le_of_ble_eq_true rfl) kd213 rfl rfl) rfl rfl hl.1 rfl (lv_room (Nat.le_of_ble_eq_true rfl)) dL_law_196 ⟨(Nat.le_of_ble_eq_true rfl), (Nat.le_of_ble_eq_true rfl)⟩) hS (fun H locs hP hS => ?_)
  exact lv_icmp_eq hx hb dL_law_199 (tgt := 753) rfl (fun _ => kk _ _ _ aI hP hS) (fun q => absurd ae q)
set_option maxHeartbeats 4000000 in
set_option maxRecDepth 100000 in
theorem lc_lend (C : lwC p s m c b L xs G H0) (hj : 4 * j + 4 ≤ L) (hl : lv_has ls 4 (lwL G b j)) (hI : gInv V) (hP : va_P (gD G) vwCl (gL G V) H) (hS : va_S (gF G) H0 H locs) (kk : ∀ (V : gV) (H : Heap) (locs : List Loc), gInv V → va_P (gD G) vwCl (gL G V) H → va_S (gF G) H0 H locs → W p l e room_1 s m #[Value.ref b] below meth c H locs 219 3753 Q (F0 m 753 ls [])) : W p l e room_1 s m #[Value.ref b] below meth c H locs 219 3753 Q (F0 m 204 ls []) := by
  have C0 := C
  obtain ⟨hx, hb, hml, hw, hown, hT, hX, hbl, hbA, hL⟩ := C
  obtain ⟨i, hi, a8, a9, ae, aI⟩ := ok_lend hI (xs (4 * j + 1)) (xs (4 * j + 2)) (xs (4 * j + 3))
  refine lv_aload_n hx hb dL_law_204 rfl (lv_at hl 2 rfl) ?_
  refine lw_arg 1 1 C0 hl hS hj (by omega) rfl dL_law_205 dL_law_206 dL_law_207 dL_law_208 dL_law_209 ?_
  refine lw_arg 2 2 C0 hl hS hj (by omega) rfl dL_law_210 dL_law_211 dL_law_212 dL_law_213 dL_law_214 ?_
  refine lw_arg 3 3 C0 hl hS hj (by omega) rfl dL_law_215 dL_law_216 dL_law_217 dL_law_218 dL_law_219 ?_
  have k8 := cc_X8_lend l G V (69 + 33 * i) (gi_of i hi) i hi rfl (xs (4 * j + 1)) (xs (4 * j + 2)) (xs (4 * j + 3)) a8
  generalize MX8_lend i (69 + 33 * i) (xs (4 * j + 1)) (xs (4 * j + 2)) (xs (4 * j + 3)) V = R8 at k8 a9 ae aI
  refine gh_ki (va_runV (As := [.int (xs (4 * j + 1)), .int (xs (4 * j + 2)), .int (xs (4 * j + 3))]) (rest := []) ⟨hx, hb, hml, hown, hw⟩ (k8) (cwV 3 hw (gh_gV uw243 uw244 uw245 uw2 uw246) rfl rfl rfl dd_X8_lend ⟨(Nat.le_of_ble_eq_true rfl), (Nat.le_of_ble_eq_true rfl)⟩) (gh_preV hT hP (Nat.le_of_ble_eq_true rfl) kd0 rfl rfl) rfl rfl hl.1 rfl (lv_room (Nat.le_of_ble_eq_true rfl)) dL_law_220 ⟨(Nat.le_of_ble_eq_true rfl), (Nat.le_of_ble_eq_true rfl)⟩) hS (fun H locs hP hS => ?_)
  refine lv_aload_n hx hb dL_law_223 rfl (lv_at hl 1 rfl) ?_
  refine lw_arg 1 1 C0 hl hS hj (by omega) rfl dL_law_224 dL_law_225 dL_law_226 dL_law_227 dL_law_228 ?_
  refine lw_arg 2 2 C0 hl hS hj (by omega) rfl dL_law_229 dL_law_230 dL_law_231 dL_law_232 dL_law_233 ?_
  refine lw_arg 3 3 C0 hl hS hj (by omega) rfl dL_law_234 dL_law_235 dL_law_236 dL_law_237 dL_law_238 ?_
  have k9 := cc_X9_lend l G R8.2 (xs (4 * j + 1)) (xs (4 * j + 2)) (xs (4 * j + 3)) a9
  generalize MX9_lend (xs (4 * j + 1)) (xs (4 * j + 2)) (xs (4 * j + 3)) R8.2 = R9 at k9 ae aI
  refine gh_ki (va_runV (As := [.int (xs (4 * j + 1)), .int (xs (4 * j + 2)), .int (xs (4 * j + 3))]) (rest := [.int (R8.1)]) ⟨hx, hb, hml, hown, hw⟩ (k9) (cwV 3 hw (gh_gV uw258 uw259 uw260 uw5 uw261) rfl rfl rfl dd_X9_lend ⟨(Nat.le_of_ble_eq_true rfl), (Nat.le_of_ble_eq_true rfl)⟩) (gh_preV hT hP (Nat.le_of_ble_eq_true rfl) kd213 rfl rfl) rfl rfl hl.1 rfl (lv_room (Nat.le_of_ble_eq_true rfl)) dL_law_239 ⟨(Nat.le_of_ble_eq_true rfl), (Nat.le_of_ble_eq_true rfl)⟩) hS (fun H locs hP hS => ?_)
  exact lv_icmp_eq hx hb dL_law_242 (tgt := 753) rfl (fun _ => kk _ _ _ aI hP hS) (fun q => absurd ae q)
set_option maxHeartbeats 4000000 in
set_option maxRecDepth 100000 in
theorem lc_set (C : lwC p s m c b L xs G H0) (hj : 4 * j + 4 ≤ L) (hl : lv_has ls 4 (lwL G b j)) (hI : gInv V) (hP : va_P (gD G) vwCl (gL G V) H) (hS : va_S (gF G) H0 H locs) (kk : ∀ (V : gV) (H : Heap) (locs : List Loc), gInv V → va_P (gD G) vwCl (gL G V) H → va_S (gF G) H0 H locs → W p l e room_1 s m #[Value.ref b] below meth c H locs 219 3753 Q (F0 m 753 ls [])) : W p l e room_1 s m #[Value.ref b] below meth c H locs 219 3753 Q (F0 m 247 ls []) := by
  have C0 := C
  obtain ⟨hx, hb, hml, hw, hown, hT, hX, hbl, hbA, hL⟩ := C
  obtain ⟨i, hi, a8, a9, ae, aI⟩ := ok_set hI (xs (4 * j + 1)) (xs (4 * j + 2))
  refine lv_aload_n hx hb dL_law_247 rfl (lv_at hl 2 rfl) ?_
  refine lw_arg 1 1 C0 hl hS hj (by omega) rfl dL_law_248 dL_law_249 dL_law_250 dL_law_251 dL_law_252 ?_
  refine lw_arg 2 2 C0 hl hS hj (by omega) rfl dL_law_253 dL_law_254 dL_law_255 dL_law_256 dL_law_257 ?_
  have k8 := cc_X8_set l G V (69 + 33 * i) (gi_of i hi) i hi rfl (xs (4 * j + 1)) (xs (4 * j + 2)) a8
  generalize MX8_set i (69 + 33 * i) (xs (4 * j + 1)) (xs (4 * j + 2)) V = R8 at k8 a9 ae aI
  refine gh_ki (va_runV (As := [.int (xs (4 * j + 1)), .int (xs (4 * j + 2))]) (rest := []) ⟨hx, hb, hml, hown, hw⟩ (k8) (cwV 2 hw (gh_gV uw266 uw267 uw268 uw2 uw269) rfl rfl rfl dd_X8_set ⟨(Nat.le_of_ble_eq_true rfl), (Nat.le_of_ble_eq_true rfl)⟩) (gh_preV hT hP (Nat.le_of_ble_eq_true rfl) kd0 rfl rfl) rfl rfl hl.1 rfl (lv_room (Nat.le_of_ble_eq_true rfl)) dL_law_258 ⟨(Nat.le_of_ble_eq_true rfl), (Nat.le_of_ble_eq_true rfl)⟩) hS (fun H locs hP hS => ?_)
  refine lv_aload_n hx hb dL_law_261 rfl (lv_at hl 1 rfl) ?_
  refine lw_arg 1 1 C0 hl hS hj (by omega) rfl dL_law_262 dL_law_263 dL_law_264 dL_law_265 dL_law_266 ?_
  refine lw_arg 2 2 C0 hl hS hj (by omega) rfl dL_law_267 dL_law_268 dL_law_269 dL_law_270 dL_law_271 ?_
  have k9 := cc_X9_set l G R8.2 (xs (4 * j + 1)) (xs (4 * j + 2)) a9
  generalize MX9_set (xs (4 * j + 1)) (xs (4 * j + 2)) R8.2 = R9 at k9 ae aI
  refine gh_ki (va_runV (As := [.int (xs (4 * j + 1)), .int (xs (4 * j + 2))]) (rest := [.int (R8.1)]) ⟨hx, hb, hml, hown, hw⟩ (k9) (cwV 2 hw (gh_gV uw271 uw272 uw273 uw5 uw274) rfl rfl rfl dd_X9_set ⟨(Nat.le_of_ble_eq_true rfl), (Nat.le_of_ble_eq_true rfl)⟩) (gh_preV hT hP (Nat.le_of_ble_eq_true rfl) kd213 rfl rfl) rfl rfl hl.1 rfl (lv_room (Nat.le_of_ble_eq_true rfl)) dL_law_272 ⟨(Nat.le_of_ble_eq_true rfl), (Nat.le_of_ble_eq_true rfl)⟩) hS (fun H locs hP hS => ?_)
  exact lv_icmp_eq hx hb dL_law_275 (tgt := 753) rfl (fun _ => kk _ _ _ aI hP hS) (fun q => absurd ae q)
set_option maxHeartbeats 4000000 in
set_option maxRecDepth 100000 in
theorem lc_seed (C : lwC p s m c b L xs G H0) (hj : 4 * j + 4 ≤ L) (hl : lv_has ls 4 (lwL G b j)) (hI : gInv V) (hP : va_P (gD G) vwCl (gL G V) H) (hS : va_S (gF G) H0 H locs) (kk : ∀ (V : gV) (H : Heap) (locs : List Loc), gInv V → va_P (gD G) vwCl (gL G V) H → va_S (gF G) H0 H locs → W p l e room_1 s m #[Value.ref b] below meth c H locs 219 3753 Q (F0 m 753 ls [])) : W p l e room_1 s m #[Value.ref b] below meth c H locs 219 3753 Q (F0 m 280 ls []) := by
  have C0 := C
  obtain ⟨hx, hb, hml, hw, hown, hT, hX, hbl, hbA, hL⟩ := C
  obtain ⟨i, hi, a8, a9, ae, aI⟩ := ok_seed hI (xs (4 * j + 1))
  refine lv_aload_n hx hb dL_law_280 rfl (lv_at hl 2 rfl) ?_
  refine lw_arg 1 1 C0 hl hS hj (by omega) rfl dL_law_281 dL_law_282 dL_law_283 dL_law_284 dL_law_285 ?_
  have k8 := cc_X8_seed l G V (69 + 33 * i) (gi_of i hi) i hi rfl (xs (4 * j + 1)) a8
  generalize MX8_seed i (69 + 33 * i) (xs (4 * j + 1)) V = R8 at k8 a9 ae aI
  refine gh_ki (va_runV (As := [.int (xs (4 * j + 1))]) (rest := []) ⟨hx, hb, hml, hown, hw⟩ (k8) (cwV 1 hw (gh_gV uw275 uw276 uw277 uw2 uw278) rfl rfl rfl dd_X8_seed ⟨(Nat.le_of_ble_eq_true rfl), (Nat.le_of_ble_eq_true rfl)⟩) (gh_preV hT hP (Nat.le_of_ble_eq_true rfl) kd0 rfl rfl) rfl rfl hl.1 rfl (lv_room (Nat.le_of_ble_eq_true rfl)) dL_law_286 ⟨(Nat.le_of_ble_eq_true rfl), (Nat.le_of_ble_eq_true rfl)⟩) hS (fun H locs hP hS => ?_)
  refine lv_aload_n hx hb dL_law_289 rfl (lv_at hl 1 rfl) ?_
  refine lw_arg 1 1 C0 hl hS hj (by omega) rfl dL_law_290 dL_law_291 dL_law_292 dL_law_293 dL_law_294 ?_
  have k9 := cc_X9_seed l G R8.2 (xs (4 * j + 1)) a9
  generalize MX9_seed (xs (4 * j + 1)) R8.2 = R9 at k9 ae aI
  refine gh_ki (va_runV (As := [.int (xs (4 * j + 1))]) (rest := [.int (R8.1)]) ⟨hx, hb, hml, hown, hw⟩ (k9) (cwV 1 hw (gh_gV uw280 uw281 uw282 uw5 uw283) rfl rfl rfl dd_X9_seed ⟨(Nat.le_of_ble_eq_true rfl), (Nat.le_of_ble_eq_true rfl)⟩) (gh_preV hT hP (Nat.le_of_ble_eq_true rfl) kd213 rfl rfl) rfl rfl hl.1 rfl (lv_room (Nat.le_of_ble_eq_true rfl)) dL_law_295 ⟨(Nat.le_of_ble_eq_true rfl), (Nat.le_of_ble_eq_true rfl)⟩) hS (fun H locs hP hS => ?_)
  exact lv_icmp_eq hx hb dL_law_298 (tgt := 753) rfl (fun _ => kk _ _ _ aI hP hS) (fun q => absurd ae q)
set_option maxHeartbeats 4000000 in
set_option maxRecDepth 100000 in
theorem lc_begin (C : lwC p s m c b L xs G H0) (hj : 4 * j + 4 ≤ L) (hl : lv_has ls 4 (lwL G b j)) (hI : gInv V) (hP : va_P (gD G) vwCl (gL G V) H) (hS : va_S (gF G) H0 H locs) (kk : ∀ (V : gV) (H : Heap) (locs : List Loc), gInv V → va_P (gD G) vwCl (gL G V) H → va_S (gF G) H0 H locs → W p l e room_1 s m #[Value.ref b] below meth c H locs 219 3753 Q (F0 m 753 ls [])) : W p l e room_1 s m #[Value.ref b] below meth c H locs 219 3753 Q (F0 m 303 ls []) := by
  have C0 := C
  obtain ⟨hx, hb, hml, hw, hown, hT, hX, hbl, hbA, hL⟩ := C
  obtain ⟨i, hi, a8, a9, ae, aI⟩ := ok_begin hI (xs (4 * j + 1))
  refine lv_aload_n hx hb dL_law_303 rfl (lv_at hl 2 rfl) ?_
  refine lw_arg 1 1 C0 hl hS hj (by omega) rfl dL_law_304 dL_law_305 dL_law_306 dL_law_307 dL_law_308 ?_
  have k8 := cc_X8_begin l G V (69 + 33 * i) (gi_of i hi) i hi rfl (xs (4 * j + 1)) a8
  generalize MX8_begin i (69 + 33 * i) (xs (4 * j + 1)) V = R8 at k8 a9 ae aI
  refine gh_ki (va_runV (As := [.int (xs (4 * j + 1))]) (rest := []) ⟨hx, hb, hml, hown, hw⟩ (k8) (cwV 1 hw (gh_gV uw284 uw285 uw286 uw2 uw287) rfl rfl rfl dd_X8_begin ⟨(Nat.le_of_ble_eq_true rfl), (Nat.le_of_ble_eq_true rfl)⟩) (gh_preV hT hP (Nat.le_of_ble_eq_true rfl) kd0 rfl rfl) rfl rfl hl.1 rfl (lv_room (Nat.le_of_ble_eq_true rfl)) dL_law_309 ⟨(Nat.le_of_ble_eq_true rfl), (Nat.le_of_ble_eq_true rfl)⟩) hS (fun H locs hP hS => ?_)
  refine lv_aload_n hx hb dL_law_312 rfl (lv_at hl 1 rfl) ?_
  refine lw_arg 1 1 C0 hl hS hj (by omega) rfl dL_law_313 dL_law_314 dL_law_315 dL_law_316 dL_law_317 ?_
  have k9 := cc_X9_begin l G R8.2 (xs (4 * j + 1)) a9
  generalize MX9_begin (xs (4 * j + 1)) R8.2 = R9 at k9 ae aI
  refine gh_ki (va_runV (As := [.int (xs (4 * j + 1))]) (rest := [.int (R8.1)]) ⟨hx, hb, hml, hown, hw⟩ (k9) (cwV 1 hw (gh_gV uw344 uw345 uw346 uw5 uw347) rfl rfl rfl dd_X9_begin ⟨(Nat.le_of_ble_eq_true rfl), (Nat.le_of_ble_eq_true rfl)⟩) (gh_preV hT hP (Nat.le_of_ble_eq_true rfl) kd213 rfl rfl) rfl rfl hl.1 rfl (lv_room (Nat.le_of_ble_eq_true rfl)) dL_law_318 ⟨(Nat.le_of_ble_eq_true rfl), (Nat.le_of_ble_eq_true rfl)⟩) hS (fun H locs hP hS => ?_)
  exact lv_icmp_eq hx hb dL_law_321 (tgt := 753) rfl (fun _ => kk _ _ _ aI hP hS) (fun q => absurd ae q)
set_option maxHeartbeats 4000000 in
set_option maxRecDepth 100000 in
theorem lc_guess (C : lwC p s m c b L xs G H0) (hj : 4 * j + 4 ≤ L) (hl : lv_has ls 4 (lwL G b j)) (hI : gInv V) (hP : va_P (gD G) vwCl (gL G V) H) (hS : va_S (gF G) H0 H locs) (kk : ∀ (V : gV) (H : Heap) (locs : List Loc), gInv V → va_P (gD G) vwCl (gL G V) H → va_S (gF G) H0 H locs → W p l e room_1 s m #[Value.ref b] below meth c H locs 219 3753 Q (F0 m 753 ls [])) : W p l e room_1 s m #[Value.ref b] below meth c H locs 219 3753 Q (F0 m 326 ls []) := by
  have C0 := C
  obtain ⟨hx, hb, hml, hw, hown, hT, hX, hbl, hbA, hL⟩ := C
  obtain ⟨i, hi, a8, a9, ae, aI⟩ := ok_guess hI (xs (4 * j + 1))
  refine lv_aload_n hx hb dL_law_326 rfl (lv_at hl 2 rfl) ?_
  refine lw_arg 1 1 C0 hl hS hj (by omega) rfl dL_law_327 dL_law_328 dL_law_329 dL_law_330 dL_law_331 ?_
  have k8 := cc_X8_guess l G V (69 + 33 * i) (gi_of i hi) i hi rfl (xs (4 * j + 1)) a8
  generalize MX8_guess i (69 + 33 * i) (xs (4 * j + 1)) V = R8 at k8 a9 ae aI
  refine gh_ki (va_runV (As := [.int (xs (4 * j + 1))]) (rest := []) ⟨hx, hb, hml, hown, hw⟩ (k8) (cwV 1 hw (gh_gV uw368 uw369 uw370 uw2 uw371) rfl rfl rfl dd_X8_guess ⟨(Nat.le_of_ble_eq_true rfl), (Nat.le_of_ble_eq_true rfl)⟩) (gh_preV hT hP (Nat.le_of_ble_eq_true rfl) kd0 rfl rfl) rfl rfl hl.1 rfl (lv_room (Nat.le_of_ble_eq_true rfl)) dL_law_332 ⟨(Nat.le_of_ble_eq_true rfl), (Nat.le_of_ble_eq_true rfl)⟩) hS (fun H locs hP hS => ?_)
  refine lv_aload_n hx hb dL_law_335 rfl (lv_at hl 1 rfl) ?_
  refine lw_arg 1 1 C0 hl hS hj (by omega) rfl dL_law_336 dL_law_337 dL_law_338 dL_law_339 dL_law_340 ?_
  have k9 := cc_X9_guess l G R8.2 (xs (4 * j + 1)) a9
  generalize MX9_guess (xs (4 * j + 1)) R8.2 = R9 at k9 ae aI
  refine gh_ki (va_runV (As := [.int (xs (4 * j + 1))]) (rest := [.int (R8.1)]) ⟨hx, hb, hml, hown, hw⟩ (k9) (cwV 1 hw (gh_gV uw447 uw448 uw449 uw5 uw450) rfl rfl rfl dd_X9_guess ⟨(Nat.le_of_ble_eq_true rfl), (Nat.le_of_ble_eq_true rfl)⟩) (gh_preV hT hP (Nat.le_of_ble_eq_true rfl) kd213 rfl rfl) rfl rfl hl.1 rfl (lv_room (Nat.le_of_ble_eq_true rfl)) dL_law_341 ⟨(Nat.le_of_ble_eq_true rfl), (Nat.le_of_ble_eq_true rfl)⟩) hS (fun H locs hP hS => ?_)
  exact lv_icmp_eq hx hb dL_law_344 (tgt := 753) rfl (fun _ => kk _ _ _ aI hP hS) (fun q => absurd ae q)
set_option maxHeartbeats 4000000 in
set_option maxRecDepth 100000 in
theorem lc_tell (C : lwC p s m c b L xs G H0) (hj : 4 * j + 4 ≤ L) (hl : lv_has ls 4 (lwL G b j)) (hI : gInv V) (hP : va_P (gD G) vwCl (gL G V) H) (hS : va_S (gF G) H0 H locs) (kk : ∀ (V : gV) (H : Heap) (locs : List Loc), gInv V → va_P (gD G) vwCl (gL G V) H → va_S (gF G) H0 H locs → W p l e room_1 s m #[Value.ref b] below meth c H locs 219 3753 Q (F0 m 753 ls [])) : W p l e room_1 s m #[Value.ref b] below meth c H locs 219 3753 Q (F0 m 349 ls []) := by
  have C0 := C
  obtain ⟨hx, hb, hml, hw, hown, hT, hX, hbl, hbA, hL⟩ := C
  obtain ⟨i, hi, a8, a9, ae, aI⟩ := ok_tell hI (xs (4 * j + 1))
  refine lv_aload_n hx hb dL_law_349 rfl (lv_at hl 2 rfl) ?_
  refine lw_arg 1 1 C0 hl hS hj (by omega) rfl dL_law_350 dL_law_351 dL_law_352 dL_law_353 dL_law_354 ?_
  have k8 := cc_X8_tell l G V (69 + 33 * i) (gi_of i hi) i hi rfl (xs (4 * j + 1)) a8
  generalize MX8_tell i (69 + 33 * i) (xs (4 * j + 1)) V = R8 at k8 a9 ae aI
  refine gh_ki (va_runV (As := [.int (xs (4 * j + 1))]) (rest := []) ⟨hx, hb, hml, hown, hw⟩ (k8) (cwV 1 hw (gh_gV uw474 uw475 uw476 uw2 uw477) rfl rfl rfl dd_X8_tell ⟨(Nat.le_of_ble_eq_true rfl), (Nat.le_of_ble_eq_true rfl)⟩) (gh_preV hT hP (Nat.le_of_ble_eq_true rfl) kd0 rfl rfl) rfl rfl hl.1 rfl (lv_room (Nat.le_of_ble_eq_true rfl)) dL_law_355 ⟨(Nat.le_of_ble_eq_true rfl), (Nat.le_of_ble_eq_true rfl)⟩) hS (fun H locs hP hS => ?_)
  refine lv_aload_n hx hb dL_law_358 rfl (lv_at hl 1 rfl) ?_
  refine lw_arg 1 1 C0 hl hS hj (by omega) rfl dL_law_359 dL_law_360 dL_law_361 dL_law_362 dL_law_363 ?_
  have k9 := cc_X9_tell l G R8.2 (xs (4 * j + 1)) a9
  generalize MX9_tell (xs (4 * j + 1)) R8.2 = R9 at k9 ae aI
  refine gh_ki (va_runV (As := [.int (xs (4 * j + 1))]) (rest := [.int (R8.1)]) ⟨hx, hb, hml, hown, hw⟩ (k9) (cwV 1 hw (gh_gV uw482 uw483 uw484 uw5 uw485) rfl rfl rfl dd_X9_tell ⟨(Nat.le_of_ble_eq_true rfl), (Nat.le_of_ble_eq_true rfl)⟩) (gh_preV hT hP (Nat.le_of_ble_eq_true rfl) kd213 rfl rfl) rfl rfl hl.1 rfl (lv_room (Nat.le_of_ble_eq_true rfl)) dL_law_364 ⟨(Nat.le_of_ble_eq_true rfl), (Nat.le_of_ble_eq_true rfl)⟩) hS (fun H locs hP hS => ?_)
  exact lv_icmp_eq hx hb dL_law_367 (tgt := 753) rfl (fun _ => kk _ _ _ aI hP hS) (fun q => absurd ae q)
set_option maxHeartbeats 4000000 in
set_option maxRecDepth 100000 in
theorem lc_whisper (C : lwC p s m c b L xs G H0) (hj : 4 * j + 4 ≤ L) (hl : lv_has ls 4 (lwL G b j)) (hI : gInv V) (hP : va_P (gD G) vwCl (gL G V) H) (hS : va_S (gF G) H0 H locs) (kk : ∀ (V : gV) (H : Heap) (locs : List Loc), gInv V → va_P (gD G) vwCl (gL G V) H → va_S (gF G) H0 H locs → W p l e room_1 s m #[Value.ref b] below meth c H locs 219 3753 Q (F0 m 753 ls [])) : W p l e room_1 s m #[Value.ref b] below meth c H locs 219 3753 Q (F0 m 372 ls []) := by
  have C0 := C
  obtain ⟨hx, hb, hml, hw, hown, hT, hX, hbl, hbA, hL⟩ := C
  obtain ⟨i, hi, a8, a9, ae, aI⟩ := ok_whisper hI (xs (4 * j + 1)) (xs (4 * j + 2)) (xs (4 * j + 3))
  refine lv_aload_n hx hb dL_law_372 rfl (lv_at hl 2 rfl) ?_
  refine lw_arg 1 1 C0 hl hS hj (by omega) rfl dL_law_373 dL_law_374 dL_law_375 dL_law_376 dL_law_377 ?_
  refine lw_arg 2 2 C0 hl hS hj (by omega) rfl dL_law_378 dL_law_379 dL_law_380 dL_law_381 dL_law_382 ?_
  refine lw_arg 3 3 C0 hl hS hj (by omega) rfl dL_law_383 dL_law_384 dL_law_385 dL_law_386 dL_law_387 ?_
  have k8 := cc_X8_whisper l G V (69 + 33 * i) (gi_of i hi) i hi rfl (xs (4 * j + 1)) (xs (4 * j + 2)) (xs (4 * j + 3)) a8
  generalize MX8_whisper i (69 + 33 * i) (xs (4 * j + 1)) (xs (4 * j + 2)) (xs (4 * j + 3)) V = R8 at k8 a9 ae aI
  refine gh_ki (va_runV (As := [.int (xs (4 * j + 1)), .int (xs (4 * j + 2)), .int (xs (4 * j + 3))]) (rest := []) ⟨hx, hb, hml, hown, hw⟩ (k8) (cwV 3 hw (gh_gV uw486 uw487 uw488 uw2 uw489) rfl rfl rfl dd_X8_whisper ⟨(Nat.le_of_ble_eq_true rfl), (Nat.le_of_ble_eq_true rfl)⟩) (gh_preV hT hP (Nat.le_of_ble_eq_true rfl) kd0 rfl rfl) rfl rfl hl.1 rfl (lv_room (Nat.le_of_ble_eq_true rfl)) dL_law_388 ⟨(Nat.le_of_ble_eq_true rfl), (Nat.le_of_ble_eq_true rfl)⟩) hS (fun H locs hP hS => ?_)
  refine lv_aload_n hx hb dL_law_391 rfl (lv_at hl 1 rfl) ?_
  refine lw_arg 1 1 C0 hl hS hj (by omega) rfl dL_law_392 dL_law_393 dL_law_394 dL_law_395 dL_law_396 ?_
  refine lw_arg 2 2 C0 hl hS hj (by omega) rfl dL_law_397 dL_law_398 dL_law_399 dL_law_400 dL_law_401 ?_
  refine lw_arg 3 3 C0 hl hS hj (by omega) rfl dL_law_402 dL_law_403 dL_law_404 dL_law_405 dL_law_406 ?_
  have k9 := cc_X9_whisper l G R8.2 (xs (4 * j + 1)) (xs (4 * j + 2)) (xs (4 * j + 3)) a9
  generalize MX9_whisper (xs (4 * j + 1)) (xs (4 * j + 2)) (xs (4 * j + 3)) R8.2 = R9 at k9 ae aI
  refine gh_ki (va_runV (As := [.int (xs (4 * j + 1)), .int (xs (4 * j + 2)), .int (xs (4 * j + 3))]) (rest := [.int (R8.1)]) ⟨hx, hb, hml, hown, hw⟩ (k9) (cwV 3 hw (gh_gV uw495 uw496 uw497 uw5 uw498) rfl rfl rfl dd_X9_whisper ⟨(Nat.le_of_ble_eq_true rfl), (Nat.le_of_ble_eq_true rfl)⟩) (gh_preV hT hP (Nat.le_of_ble_eq_true rfl) kd213 rfl rfl) rfl rfl hl.1 rfl (lv_room (Nat.le_of_ble_eq_true rfl)) dL_law_407 ⟨(Nat.le_of_ble_eq_true rfl), (Nat.le_of_ble_eq_true rfl)⟩) hS (fun H locs hP hS => ?_)
  exact lv_icmp_eq hx hb dL_law_410 (tgt := 753) rfl (fun _ => kk _ _ _ aI hP hS) (fun q => absurd ae q)
set_option maxHeartbeats 4000000 in
set_option maxRecDepth 100000 in
theorem lc_wordOf (C : lwC p s m c b L xs G H0) (hj : 4 * j + 4 ≤ L) (hl : lv_has ls 4 (lwL G b j)) (hI : gInv V) (hP : va_P (gD G) vwCl (gL G V) H) (hS : va_S (gF G) H0 H locs) (kk : ∀ (V : gV) (H : Heap) (locs : List Loc), gInv V → va_P (gD G) vwCl (gL G V) H → va_S (gF G) H0 H locs → W p l e room_1 s m #[Value.ref b] below meth c H locs 219 3753 Q (F0 m 753 ls [])) : W p l e room_1 s m #[Value.ref b] below meth c H locs 219 3753 Q (F0 m 415 ls []) := by
  have C0 := C
  obtain ⟨hx, hb, hml, hw, hown, hT, hX, hbl, hbA, hL⟩ := C
  obtain ⟨a8, a9, ae⟩ := ok_wordOf hI (xs (4 * j + 1)) (xs (4 * j + 2))
  refine lv_aload_n hx hb dL_law_415 rfl (lv_at hl 2 rfl) ?_
  refine lw_arg 1 1 C0 hl hS hj (by omega) rfl dL_law_416 dL_law_417 dL_law_418 dL_law_419 dL_law_420 ?_
  refine lw_arg 2 2 C0 hl hS hj (by omega) rfl dL_law_421 dL_law_422 dL_law_423 dL_law_424 dL_law_425 ?_
  refine gh_kr (va_runV (As := [.int (xs (4 * j + 1)), .int (xs (4 * j + 2))]) (rest := []) ⟨hx, hb, hml, hown, hw⟩ (cc_X8_wordOf l G V (xs (4 * j + 1)) (xs (4 * j + 2)) a8) (cwV 2 hw (gh_gV uw499 uw500 uw501 uw2 uw502) rfl rfl rfl dd_X8_wordOf ⟨(Nat.le_of_ble_eq_true rfl), (Nat.le_of_ble_eq_true rfl)⟩) (gh_preV hT hP (Nat.le_of_ble_eq_true rfl) kd0 rfl rfl) rfl rfl hl.1 rfl (lv_room (Nat.le_of_ble_eq_true rfl)) dL_law_426 ⟨(Nat.le_of_ble_eq_true rfl), (Nat.le_of_ble_eq_true rfl)⟩) hS (fun H locs hP hS => ?_)
  refine lv_aload_n hx hb dL_law_429 rfl (lv_at hl 1 rfl) ?_
  refine lw_arg 1 1 C0 hl hS hj (by omega) rfl dL_law_430 dL_law_431 dL_law_432 dL_law_433 dL_law_434 ?_
  refine lw_arg 2 2 C0 hl hS hj (by omega) rfl dL_law_435 dL_law_436 dL_law_437 dL_law_438 dL_law_439 ?_
  refine gh_kr (va_runV (As := [.int (xs (4 * j + 1)), .int (xs (4 * j + 2))]) (rest := [.int (MX8_wordOf (xs (4 * j + 1)) (xs (4 * j + 2)) V)]) ⟨hx, hb, hml, hown, hw⟩ (cc_X9_wordOf l G V (xs (4 * j + 1)) (xs (4 * j + 2)) a9) (cwV 2 hw (gh_gV uw530 uw531 uw532 uw5 uw533) rfl rfl rfl dd_X9_wordOf ⟨(Nat.le_of_ble_eq_true rfl), (Nat.le_of_ble_eq_true rfl)⟩) (gh_preV hT hP (Nat.le_of_ble_eq_true rfl) kd213 rfl rfl) rfl rfl hl.1 rfl (lv_room (Nat.le_of_ble_eq_true rfl)) dL_law_440 ⟨(Nat.le_of_ble_eq_true rfl), (Nat.le_of_ble_eq_true rfl)⟩) hS (fun H locs hP hS => ?_)
  exact lv_icmp_eq hx hb dL_law_443 (tgt := 753) rfl (fun _ => kk V H locs hI hP hS) (fun q => absurd ae q)
set_option maxHeartbeats 4000000 in
set_option maxRecDepth 100000 in
theorem lc_playerOf (C : lwC p s m c b L xs G H0) (hj : 4 * j + 4 ≤ L) (hl : lv_has ls 4 (lwL G b j)) (hI : gInv V) (hP : va_P (gD G) vwCl (gL G V) H) (hS : va_S (gF G) H0 H locs) (kk : ∀ (V : gV) (H : Heap) (locs : List Loc), gInv V → va_P (gD G) vwCl (gL G V) H → va_S (gF G) H0 H locs → W p l e room_1 s m #[Value.ref b] below meth c H locs 219 3753 Q (F0 m 753 ls [])) : W p l e room_1 s m #[Value.ref b] below meth c H locs 219 3753 Q (F0 m 448 ls []) := by
  have C0 := C
  obtain ⟨hx, hb, hml, hw, hown, hT, hX, hbl, hbA, hL⟩ := C
  obtain ⟨a8, a9, ae⟩ := ok_playerOf hI (xs (4 * j + 1)) (xs (4 * j + 2))
  refine lv_aload_n hx hb dL_law_448 rfl (lv_at hl 2 rfl) ?_
  refine lw_arg 1 1 C0 hl hS hj (by omega) rfl dL_law_449 dL_law_450 dL_law_451 dL_law_452 dL_law_453 ?_
  refine lw_arg 2 2 C0 hl hS hj (by omega) rfl dL_law_454 dL_law_455 dL_law_456 dL_law_457 dL_law_458 ?_
  refine gh_kr (va_runV (As := [.int (xs (4 * j + 1)), .int (xs (4 * j + 2))]) (rest := []) ⟨hx, hb, hml, hown, hw⟩ (cc_X8_playerOf l G V (xs (4 * j + 1)) (xs (4 * j + 2))) (cwV 2 hw (gh_gV uw542 uw543 uw544 uw2 uw545) rfl rfl rfl dd_X8_playerOf ⟨(Nat.le_of_ble_eq_true rfl), (Nat.le_of_ble_eq_true rfl)⟩) (gh_preV hT hP (Nat.le_of_ble_eq_true rfl) kd0 rfl rfl) rfl rfl hl.1 rfl (lv_room (Nat.le_of_ble_eq_true rfl)) dL_law_459 ⟨(Nat.le_of_ble_eq_true rfl), (Nat.le_of_ble_eq_true rfl)⟩) hS (fun H locs hP hS => ?_)
  refine lv_aload_n hx hb dL_law_462 rfl (lv_at hl 1 rfl) ?_
  refine lw_arg 1 1 C0 hl hS hj (by omega) rfl dL_law_463 dL_law_464 dL_law_465 dL_law_466 dL_law_467 ?_
  refine lw_arg 2 2 C0 hl hS hj (by omega) rfl dL_law_468 dL_law_469 dL_law_470 dL_law_471 dL_law_472 ?_
  refine gh_kr (va_runV (As := [.int (xs (4 * j + 1)), .int (xs (4 * j + 2))]) (rest := [.int (MX8_playerOf (xs (4 * j + 1)) (xs (4 * j + 2)) V)]) ⟨hx, hb, hml, hown, hw⟩ (cc_X9_playerOf l G V (xs (4 * j + 1)) (xs (4 * j + 2)) a9) (cwV 2 hw (gh_gV uw553 uw554 uw555 uw5 uw556) rfl rfl rfl dd_X9_playerOf ⟨(Nat.le_of_ble_eq_true rfl), (Nat.le_of_ble_eq_true rfl)⟩) (gh_preV hT hP (Nat.le_of_ble_eq_true rfl) kd213 rfl rfl) rfl rfl hl.1 rfl (lv_room (Nat.le_of_ble_eq_true rfl)) dL_law_473 ⟨(Nat.le_of_ble_eq_true rfl), (Nat.le_of_ble_eq_true rfl)⟩) hS (fun H locs hP hS => ?_)
  exact lv_icmp_eq hx hb dL_law_476 (tgt := 753) rfl (fun _ => kk V H locs hI hP hS) (fun q => absurd ae q)
set_option maxHeartbeats 4000000 in
set_option maxRecDepth 100000 in
theorem lc_open (C : lwC p s m c b L xs G H0) (hj : 4 * j + 4 ≤ L) (hl : lv_has ls 4 (lwL G b j)) (hI : gInv V) (hP : va_P (gD G) vwCl (gL G V) H) (hS : va_S (gF G) H0 H locs) (kk : ∀ (V : gV) (H : Heap) (locs : List Loc), gInv V → va_P (gD G) vwCl (gL G V) H → va_S (gF G) H0 H locs → W p l e room_1 s m #[Value.ref b] below meth c H locs 219 3753 Q (F0 m 753 ls [])) : W p l e room_1 s m #[Value.ref b] below meth c H locs 219 3753 Q (F0 m 481 ls []) := by
  have C0 := C
  obtain ⟨hx, hb, hml, hw, hown, hT, hX, hbl, hbA, hL⟩ := C
  obtain ⟨a8, a9, ae⟩ := ok_open hI (xs (4 * j + 1))
  refine lv_aload_n hx hb dL_law_481 rfl (lv_at hl 2 rfl) ?_
  refine lw_arg 1 1 C0 hl hS hj (by omega) rfl dL_law_482 dL_law_483 dL_law_484 dL_law_485 dL_law_486 ?_
  refine gh_kr (va_runV (As := [.int (xs (4 * j + 1))]) (rest := []) ⟨hx, hb, hml, hown, hw⟩ (cc_X8_open l G V (xs (4 * j + 1))) (cwV 1 hw (gh_gV uw557 uw558 uw559 uw2 uw560) rfl rfl rfl dd_X8_open ⟨(Nat.le_of_ble_eq_true rfl), (Nat.le_of_ble_eq_true rfl)⟩) (gh_preV hT hP (Nat.le_of_ble_eq_true rfl) kd0 rfl rfl) rfl rfl hl.1 rfl (lv_room (Nat.le_of_ble_eq_true rfl)) dL_law_487 ⟨(Nat.le_of_ble_eq_true rfl), (Nat.le_of_ble_eq_true rfl)⟩) hS (fun H locs hP hS => ?_)
  refine lv_aload_n hx hb dL_law_490 rfl (lv_at hl 1 rfl) ?_
  refine lw_arg 1 1 C0 hl hS hj (by omega) rfl dL_law_491 dL_law_492 dL_law_493 dL_law_494 dL_law_495 ?_
  refine gh_kr (va_runV (As := [.int (xs (4 * j + 1))]) (rest := [.int (MX8_open (xs (4 * j + 1)) V)]) ⟨hx, hb, hml, hown, hw⟩ (cc_X9_open l G V (xs (4 * j + 1)) a9) (cwV 1 hw (gh_gV uw562 uw563 uw564 uw5 uw565) rfl rfl rfl dd_X9_open ⟨(Nat.le_of_ble_eq_true rfl), (Nat.le_of_ble_eq_true rfl)⟩) (gh_preV hT hP (Nat.le_of_ble_eq_true rfl) kd213 rfl rfl) rfl rfl hl.1 rfl (lv_room (Nat.le_of_ble_eq_true rfl)) dL_law_496 ⟨(Nat.le_of_ble_eq_true rfl), (Nat.le_of_ble_eq_true rfl)⟩) hS (fun H locs hP hS => ?_)
  exact lv_icmp_eq hx hb dL_law_499 (tgt := 753) rfl (fun _ => kk V H locs hI hP hS) (fun q => absurd ae q)
set_option maxHeartbeats 4000000 in
set_option maxRecDepth 100000 in
theorem lc_round (C : lwC p s m c b L xs G H0) (hj : 4 * j + 4 ≤ L) (hl : lv_has ls 4 (lwL G b j)) (hI : gInv V) (hP : va_P (gD G) vwCl (gL G V) H) (hS : va_S (gF G) H0 H locs) (kk : ∀ (V : gV) (H : Heap) (locs : List Loc), gInv V → va_P (gD G) vwCl (gL G V) H → va_S (gF G) H0 H locs → W p l e room_1 s m #[Value.ref b] below meth c H locs 219 3753 Q (F0 m 753 ls [])) : W p l e room_1 s m #[Value.ref b] below meth c H locs 219 3753 Q (F0 m 504 ls []) := by
  have C0 := C
  obtain ⟨hx, hb, hml, hw, hown, hT, hX, hbl, hbA, hL⟩ := C
  obtain ⟨a8, a9, ae⟩ := ok_round hI (xs (4 * j + 1)) (xs (4 * j + 2))
  refine lv_aload_n hx hb dL_law_504 rfl (lv_at hl 2 rfl) ?_
  refine lw_arg 1 1 C0 hl hS hj (by omega) rfl dL_law_505 dL_law_506 dL_law_507 dL_law_508 dL_law_509 ?_
  refine lw_arg 2 2 C0 hl hS hj (by omega) rfl dL_law_510 dL_law_511 dL_law_512 dL_law_513 dL_law_514 ?_
  refine gh_kr (va_runV (As := [.int (xs (4 * j + 1)), .int (xs (4 * j + 2))]) (rest := []) ⟨hx, hb, hml, hown, hw⟩ (cc_X8_round l G V (xs (4 * j + 1)) (xs (4 * j + 2))) (cwV 2 hw (gh_gV uw566 uw567 uw568 uw2 uw569) rfl rfl rfl dd_X8_round ⟨(Nat.le_of_ble_eq_true rfl), (Nat.le_of_ble_eq_true rfl)⟩) (gh_preV hT hP (Nat.le_of_ble_eq_true rfl) kd0 rfl rfl) rfl rfl hl.1 rfl (lv_room (Nat.le_of_ble_eq_true rfl)) dL_law_515 ⟨(Nat.le_of_ble_eq_true rfl), (Nat.le_of_ble_eq_true rfl)⟩) hS (fun H locs hP hS => ?_)
  refine lv_aload_n hx hb dL_law_518 rfl (lv_at hl 1 rfl) ?_
  refine lw_arg 1 1 C0 hl hS hj (by omega) rfl dL_law_519 dL_law_520 dL_law_521 dL_law_522 dL_law_523 ?_
  refine lw_arg 2 2 C0 hl hS hj (by omega) rfl dL_law_524 dL_law_525 dL_law_526 dL_law_527 dL_law_528 ?_
  refine gh_kr (va_runV (As := [.int (xs (4 * j + 1)), .int (xs (4 * j + 2))]) (rest := [.int (MX8_round (xs (4 * j + 1)) (xs (4 * j + 2)) V)]) ⟨hx, hb, hml, hown, hw⟩ (cc_X9_round l G V (xs (4 * j + 1)) (xs (4 * j + 2)) a9) (cwV 2 hw (gh_gV uw576 uw577 uw578 uw5 uw579) rfl rfl rfl dd_X9_round ⟨(Nat.le_of_ble_eq_true rfl), (Nat.le_of_ble_eq_true rfl)⟩) (gh_preV hT hP (Nat.le_of_ble_eq_true rfl) kd213 rfl rfl) rfl rfl hl.1 rfl (lv_room (Nat.le_of_ble_eq_true rfl)) dL_law_529 ⟨(Nat.le_of_ble_eq_true rfl), (Nat.le_of_ble_eq_true rfl)⟩) hS (fun H locs hP hS => ?_)
  exact lv_icmp_eq hx hb dL_law_532 (tgt := 753) rfl (fun _ => kk V H locs hI hP hS) (fun q => absurd ae q)
set_option maxHeartbeats 4000000 in
set_option maxRecDepth 100000 in
theorem lc_count (C : lwC p s m c b L xs G H0) (hj : 4 * j + 4 ≤ L) (hl : lv_has ls 4 (lwL G b j)) (hI : gInv V) (hP : va_P (gD G) vwCl (gL G V) H) (hS : va_S (gF G) H0 H locs) (kk : ∀ (V : gV) (H : Heap) (locs : List Loc), gInv V → va_P (gD G) vwCl (gL G V) H → va_S (gF G) H0 H locs → W p l e room_1 s m #[Value.ref b] below meth c H locs 219 3753 Q (F0 m 753 ls [])) : W p l e room_1 s m #[Value.ref b] below meth c H locs 219 3753 Q (F0 m 537 ls []) := by
  have C0 := C
  obtain ⟨hx, hb, hml, hw, hown, hT, hX, hbl, hbA, hL⟩ := C
  obtain ⟨a8, a9, ae⟩ := ok_count hI (xs (4 * j + 1))
  refine lv_aload_n hx hb dL_law_537 rfl (lv_at hl 2 rfl) ?_
  refine lw_arg 1 1 C0 hl hS hj (by omega) rfl dL_law_538 dL_law_539 dL_law_540 dL_law_541 dL_law_542 ?_
  refine gh_kr (va_runV (As := [.int (xs (4 * j + 1))]) (rest := []) ⟨hx, hb, hml, hown, hw⟩ (cc_X8_count l G V (xs (4 * j + 1)) a8) (cwV 1 hw (gh_gV uw580 uw581 uw582 uw2 uw583) rfl rfl rfl dd_X8_count ⟨(Nat.le_of_ble_eq_true rfl), (Nat.le_of_ble_eq_true rfl)⟩) (gh_preV hT hP (Nat.le_of_ble_eq_true rfl) kd0 rfl rfl) rfl rfl hl.1 rfl (lv_room (Nat.le_of_ble_eq_true rfl)) dL_law_543 ⟨(Nat.le_of_ble_eq_true rfl), (Nat.le_of_ble_eq_true rfl)⟩) hS (fun H locs hP hS => ?_)
  refine lv_aload_n hx hb dL_law_546 rfl (lv_at hl 1 rfl) ?_
  refine lw_arg 1 1 C0 hl hS hj (by omega) rfl dL_law_547 dL_law_548 dL_law_549 dL_law_550 dL_law_551 ?_
  refine gh_kr (va_runV (As := [.int (xs (4 * j + 1))]) (rest := [.int (MX8_count (xs (4 * j + 1)) V)]) ⟨hx, hb, hml, hown, hw⟩ (cc_X9_count l G V (xs (4 * j + 1)) a9) (cwV 1 hw (gh_gV uw602 uw603 uw604 uw5 uw605) rfl rfl rfl dd_X9_count ⟨(Nat.le_of_ble_eq_true rfl), (Nat.le_of_ble_eq_true rfl)⟩) (gh_preV hT hP (Nat.le_of_ble_eq_true rfl) kd213 rfl rfl) rfl rfl hl.1 rfl (lv_room (Nat.le_of_ble_eq_true rfl)) dL_law_552 ⟨(Nat.le_of_ble_eq_true rfl), (Nat.le_of_ble_eq_true rfl)⟩) hS (fun H locs hP hS => ?_)
  exact lv_icmp_eq hx hb dL_law_555 (tgt := 753) rfl (fun _ => kk V H locs hI hP hS) (fun q => absurd ae q)
set_option maxHeartbeats 4000000 in
set_option maxRecDepth 100000 in
theorem lc_fits (C : lwC p s m c b L xs G H0) (hj : 4 * j + 4 ≤ L) (hl : lv_has ls 4 (lwL G b j)) (hI : gInv V) (hP : va_P (gD G) vwCl (gL G V) H) (hS : va_S (gF G) H0 H locs) (kk : ∀ (V : gV) (H : Heap) (locs : List Loc), gInv V → va_P (gD G) vwCl (gL G V) H → va_S (gF G) H0 H locs → W p l e room_1 s m #[Value.ref b] below meth c H locs 219 3753 Q (F0 m 753 ls [])) : W p l e room_1 s m #[Value.ref b] below meth c H locs 219 3753 Q (F0 m 560 ls []) := by
  have C0 := C
  obtain ⟨hx, hb, hml, hw, hown, hT, hX, hbl, hbA, hL⟩ := C
  obtain ⟨a8, a9, ae⟩ := ok_fits hI (xs (4 * j + 1))
  refine lv_aload_n hx hb dL_law_560 rfl (lv_at hl 2 rfl) ?_
  refine lw_arg 1 1 C0 hl hS hj (by omega) rfl dL_law_561 dL_law_562 dL_law_563 dL_law_564 dL_law_565 ?_
  refine gh_kr (va_runV (As := [.int (xs (4 * j + 1))]) (rest := []) ⟨hx, hb, hml, hown, hw⟩ (cc_X8_fits l G V (xs (4 * j + 1)) a8) (cwV 1 hw (gh_gV uw608 uw609 uw610 uw2 uw611) rfl rfl rfl dd_X8_fits ⟨(Nat.le_of_ble_eq_true rfl), (Nat.le_of_ble_eq_true rfl)⟩) (gh_preV hT hP (Nat.le_of_ble_eq_true rfl) kd0 rfl rfl) rfl rfl hl.1 rfl (lv_room (Nat.le_of_ble_eq_true rfl)) dL_law_566 ⟨(Nat.le_of_ble_eq_true rfl), (Nat.le_of_ble_eq_true rfl)⟩) hS (fun H locs hP hS => ?_)
  refine lv_aload_n hx hb dL_law_569 rfl (lv_at hl 1 rfl) ?_
  refine lw_arg 1 1 C0 hl hS hj (by omega) rfl dL_law_570 dL_law_571 dL_law_572 dL_law_573 dL_law_574 ?_
  refine gh_kr (va_runV (As := [.int (xs (4 * j + 1))]) (rest := [.int (MX8_fits (xs (4 * j + 1)) V)]) ⟨hx, hb, hml, hown, hw⟩ (cc_X9_fits l G V (xs (4 * j + 1)) a9) (cwV 1 hw (gh_gV uw625 uw626 uw627 uw5 uw628) rfl rfl rfl dd_X9_fits ⟨(Nat.le_of_ble_eq_true rfl), (Nat.le_of_ble_eq_true rfl)⟩) (gh_preV hT hP (Nat.le_of_ble_eq_true rfl) kd213 rfl rfl) rfl rfl hl.1 rfl (lv_room (Nat.le_of_ble_eq_true rfl)) dL_law_575 ⟨(Nat.le_of_ble_eq_true rfl), (Nat.le_of_ble_eq_true rfl)⟩) hS (fun H locs hP hS => ?_)
  exact lv_icmp_eq hx hb dL_law_578 (tgt := 753) rfl (fun _ => kk V H locs hI hP hS) (fun q => absurd ae q)
set_option maxHeartbeats 4000000 in
set_option maxRecDepth 100000 in
theorem lc_letterOf (C : lwC p s m c b L xs G H0) (hj : 4 * j + 4 ≤ L) (hl : lv_has ls 4 (lwL G b j)) (hI : gInv V) (hP : va_P (gD G) vwCl (gL G V) H) (hS : va_S (gF G) H0 H locs) (kk : ∀ (V : gV) (H : Heap) (locs : List Loc), gInv V → va_P (gD G) vwCl (gL G V) H → va_S (gF G) H0 H locs → W p l e room_1 s m #[Value.ref b] below meth c H locs 219 3753 Q (F0 m 753 ls [])) : W p l e room_1 s m #[Value.ref b] below meth c H locs 219 3753 Q (F0 m 583 ls []) := by
  have C0 := C
  obtain ⟨hx, hb, hml, hw, hown, hT, hX, hbl, hbA, hL⟩ := C
  obtain ⟨a8, a9, ae⟩ := ok_letterOf hI (xs (4 * j + 1)) (xs (4 * j + 2))
  refine lv_aload_n hx hb dL_law_583 rfl (lv_at hl 2 rfl) ?_
  refine lw_arg 1 1 C0 hl hS hj (by omega) rfl dL_law_584 dL_law_585 dL_law_586 dL_law_587 dL_law_588 ?_
  refine lw_arg 2 2 C0 hl hS hj (by omega) rfl dL_law_589 dL_law_590 dL_law_591 dL_law_592 dL_law_593 ?_
  refine gh_kr (va_runV (As := [.int (xs (4 * j + 1)), .int (xs (4 * j + 2))]) (rest := []) ⟨hx, hb, hml, hown, hw⟩ (cc_X8_letterOf l G V (xs (4 * j + 1)) (xs (4 * j + 2)) a8) (cwV 2 hw (gh_gV uw641 uw642 uw643 uw2 uw644) rfl rfl rfl dd_X8_letterOf ⟨(Nat.le_of_ble_eq_true rfl), (Nat.le_of_ble_eq_true rfl)⟩) (gh_preV hT hP (Nat.le_of_ble_eq_true rfl) kd0 rfl rfl) rfl rfl hl.1 rfl (lv_room (Nat.le_of_ble_eq_true rfl)) dL_law_594 ⟨(Nat.le_of_ble_eq_true rfl), (Nat.le_of_ble_eq_true rfl)⟩) hS (fun H locs hP hS => ?_)
  refine lv_aload_n hx hb dL_law_597 rfl (lv_at hl 1 rfl) ?_
  refine lw_arg 1 1 C0 hl hS hj (by omega) rfl dL_law_598 dL_law_599 dL_law_600 dL_law_601 dL_law_602 ?_
  refine lw_arg 2 2 C0 hl hS hj (by omega) rfl dL_law_603 dL_law_604 dL_law_605 dL_law_606 dL_law_607 ?_
  refine gh_kr (va_runV (As := [.int (xs (4 * j + 1)), .int (xs (4 * j + 2))]) (rest := [.int (MX8_letterOf (xs (4 * j + 1)) (xs (4 * j + 2)) V)]) ⟨hx, hb, hml, hown, hw⟩ (cc_X9_letterOf l G V (xs (4 * j + 1)) (xs (4 * j + 2)) a9) (cwV 2 hw (gh_gV uw661 uw662 uw663 uw5 uw664) rfl rfl rfl dd_X9_letterOf ⟨(Nat.le_of_ble_eq_true rfl), (Nat.le_of_ble_eq_true rfl)⟩) (gh_preV hT hP (Nat.le_of_ble_eq_true rfl) kd213 rfl rfl) rfl rfl hl.1 rfl (lv_room (Nat.le_of_ble_eq_true rfl)) dL_law_608 ⟨(Nat.le_of_ble_eq_true rfl), (Nat.le_of_ble_eq_true rfl)⟩) hS (fun H locs hP hS => ?_)
  exact lv_icmp_eq hx hb dL_law_611 (tgt := 753) rfl (fun _ => kk V H locs hI hP hS) (fun q => absurd ae q)
set_option maxHeartbeats 4000000 in
set_option maxRecDepth 100000 in
theorem lc_sharpest (C : lwC p s m c b L xs G H0) (hj : 4 * j + 4 ≤ L) (hl : lv_has ls 4 (lwL G b j)) (hI : gInv V) (hP : va_P (gD G) vwCl (gL G V) H) (hS : va_S (gF G) H0 H locs) (kk : ∀ (V : gV) (H : Heap) (locs : List Loc), gInv V → va_P (gD G) vwCl (gL G V) H → va_S (gF G) H0 H locs → W p l e room_1 s m #[Value.ref b] below meth c H locs 219 3753 Q (F0 m 753 ls [])) : W p l e room_1 s m #[Value.ref b] below meth c H locs 219 3753 Q (F0 m 616 ls []) := by
  have C0 := C
  obtain ⟨hx, hb, hml, hw, hown, hT, hX, hbl, hbA, hL⟩ := C
  obtain ⟨a8, a9, ae⟩ := ok_sharpest hI 
  refine lv_aload_n hx hb dL_law_616 rfl (lv_at hl 2 rfl) ?_
  refine gh_kr (va_runV (As := []) (rest := []) ⟨hx, hb, hml, hown, hw⟩ (cc_X8_sharpest l G V  a8) (cwV 0 hw (gh_gV uw681 uw682 uw683 uw2 uw684) rfl rfl rfl dd_X8_sharpest ⟨(Nat.le_of_ble_eq_true rfl), (Nat.le_of_ble_eq_true rfl)⟩) (gh_preV hT hP (Nat.le_of_ble_eq_true rfl) kd0 rfl rfl) rfl rfl hl.1 rfl (lv_room (Nat.le_of_ble_eq_true rfl)) dL_law_617 ⟨(Nat.le_of_ble_eq_true rfl), (Nat.le_of_ble_eq_true rfl)⟩) hS (fun H locs hP hS => ?_)
  refine lv_aload_n hx hb dL_law_620 rfl (lv_at hl 1 rfl) ?_
  refine gh_kr (va_runV (As := []) (rest := [.int (MX8_sharpest  V)]) ⟨hx, hb, hml, hown, hw⟩ (cc_X9_sharpest l G V  a9) (cwV 0 hw (gh_gV uw690 uw691 uw692 uw5 uw693) rfl rfl rfl dd_X9_sharpest ⟨(Nat.le_of_ble_eq_true rfl), (Nat.le_of_ble_eq_true rfl)⟩) (gh_preV hT hP (Nat.le_of_ble_eq_true rfl) kd213 rfl rfl) rfl rfl hl.1 rfl (lv_room (Nat.le_of_ble_eq_true rfl)) dL_law_621 ⟨(Nat.le_of_ble_eq_true rfl), (Nat.le_of_ble_eq_true rfl)⟩) hS (fun H locs hP hS => ?_)
  exact lv_icmp_eq hx hb dL_law_624 (tgt := 753) rfl (fun _ => kk V H locs hI hP hS) (fun q => absurd ae q)
set_option maxHeartbeats 4000000 in
set_option maxRecDepth 100000 in
theorem lc_next (C : lwC p s m c b L xs G H0) (hj : 4 * j + 4 ≤ L) (hl : lv_has ls 4 (lwL G b j)) (hI : gInv V) (hP : va_P (gD G) vwCl (gL G V) H) (hS : va_S (gF G) H0 H locs) (kk : ∀ (V : gV) (H : Heap) (locs : List Loc), gInv V → va_P (gD G) vwCl (gL G V) H → va_S (gF G) H0 H locs → W p l e room_1 s m #[Value.ref b] below meth c H locs 219 3753 Q (F0 m 753 ls [])) : W p l e room_1 s m #[Value.ref b] below meth c H locs 219 3753 Q (F0 m 629 ls []) := by
  have C0 := C
  obtain ⟨hx, hb, hml, hw, hown, hT, hX, hbl, hbA, hL⟩ := C
  obtain ⟨a8, a9, ae⟩ := ok_next hI 
  refine lv_aload_n hx hb dL_law_629 rfl (lv_at hl 2 rfl) ?_
  refine gh_kr (va_runV (As := []) (rest := []) ⟨hx, hb, hml, hown, hw⟩ (cc_X8_next l G V  a8) (cwV 0 hw (gh_gV uw694 uw695 uw696 uw2 uw697) rfl rfl rfl dd_X8_next ⟨(Nat.le_of_ble_eq_true rfl), (Nat.le_of_ble_eq_true rfl)⟩) (gh_preV hT hP (Nat.le_of_ble_eq_true rfl) kd0 rfl rfl) rfl rfl hl.1 rfl (lv_room (Nat.le_of_ble_eq_true rfl)) dL_law_630 ⟨(Nat.le_of_ble_eq_true rfl), (Nat.le_of_ble_eq_true rfl)⟩) hS (fun H locs hP hS => ?_)
  refine lv_aload_n hx hb dL_law_633 rfl (lv_at hl 1 rfl) ?_
  refine gh_kr (va_runV (As := []) (rest := [.int (MX8_next  V)]) ⟨hx, hb, hml, hown, hw⟩ (cc_X9_next l G V  a9) (cwV 0 hw (gh_gV uw700 uw701 uw702 uw5 uw703) rfl rfl rfl dd_X9_next ⟨(Nat.le_of_ble_eq_true rfl), (Nat.le_of_ble_eq_true rfl)⟩) (gh_preV hT hP (Nat.le_of_ble_eq_true rfl) kd213 rfl rfl) rfl rfl hl.1 rfl (lv_room (Nat.le_of_ble_eq_true rfl)) dL_law_634 ⟨(Nat.le_of_ble_eq_true rfl), (Nat.le_of_ble_eq_true rfl)⟩) hS (fun H locs hP hS => ?_)
  exact lv_icmp_eq hx hb dL_law_637 (tgt := 753) rfl (fun _ => kk V H locs hI hP hS) (fun q => absurd ae q)
set_option maxHeartbeats 4000000 in
set_option maxRecDepth 100000 in
theorem lc_keep (C : lwC p s m c b L xs G H0) (hj : 4 * j + 4 ≤ L) (hl : lv_has ls 4 (lwL G b j)) (hI : gInv V) (hP : va_P (gD G) vwCl (gL G V) H) (hS : va_S (gF G) H0 H locs) (kk : ∀ (V : gV) (H : Heap) (locs : List Loc), gInv V → va_P (gD G) vwCl (gL G V) H → va_S (gF G) H0 H locs → W p l e room_1 s m #[Value.ref b] below meth c H locs 219 3753 Q (F0 m 753 ls [])) : W p l e room_1 s m #[Value.ref b] below meth c H locs 219 3753 Q (F0 m 642 ls []) := by
  have C0 := C
  obtain ⟨hx, hb, hml, hw, hown, hT, hX, hbl, hbA, hL⟩ := C
  obtain ⟨a8, a9, ae, aI⟩ := ok_keep hI 
  refine lv_aload_n hx hb dL_law_642 rfl (lv_at hl 2 rfl) ?_
  have k8 := cc_X8_keep l G V  a8
  generalize MX8_keep  V = R8 at k8 a9 ae aI
  refine gh_ki (va_runV (As := []) (rest := []) ⟨hx, hb, hml, hown, hw⟩ (k8) (cwV 0 hw (gh_gV uw704 uw705 uw706 uw2 uw707) rfl rfl rfl dd_X8_keep ⟨(Nat.le_of_ble_eq_true rfl), (Nat.le_of_ble_eq_true rfl)⟩) (gh_preV hT hP (Nat.le_of_ble_eq_true rfl) kd0 rfl rfl) rfl rfl hl.1 rfl (lv_room (Nat.le_of_ble_eq_true rfl)) dL_law_643 ⟨(Nat.le_of_ble_eq_true rfl), (Nat.le_of_ble_eq_true rfl)⟩) hS (fun H locs hP hS => ?_)
  refine lv_aload_n hx hb dL_law_646 rfl (lv_at hl 1 rfl) ?_
  have k9 := cc_X9_keep l G R8.2  a9
  generalize MX9_keep  R8.2 = R9 at k9 ae aI
  refine gh_ki (va_runV (As := []) (rest := [.int (R8.1)]) ⟨hx, hb, hml, hown, hw⟩ (k9) (cwV 0 hw (gh_gV uw709 uw710 uw711 uw5 uw712) rfl rfl rfl dd_X9_keep ⟨(Nat.le_of_ble_eq_true rfl), (Nat.le_of_ble_eq_true rfl)⟩) (gh_preV hT hP (Nat.le_of_ble_eq_true rfl) kd213 rfl rfl) rfl rfl hl.1 rfl (lv_room (Nat.le_of_ble_eq_true rfl)) dL_law_647 ⟨(Nat.le_of_ble_eq_true rfl), (Nat.le_of_ble_eq_true rfl)⟩) hS (fun H locs hP hS => ?_)
  exact lv_icmp_eq hx hb dL_law_650 (tgt := 753) rfl (fun _ => kk _ _ _ aI hP hS) (fun q => absurd ae q)
set_option maxHeartbeats 4000000 in
set_option maxRecDepth 100000 in
theorem lc_restore (C : lwC p s m c b L xs G H0) (hj : 4 * j + 4 ≤ L) (hl : lv_has ls 4 (lwL G b j)) (hI : gInv V) (hP : va_P (gD G) vwCl (gL G V) H) (hS : va_S (gF G) H0 H locs) (kk : ∀ (V : gV) (H : Heap) (locs : List Loc), gInv V → va_P (gD G) vwCl (gL G V) H → va_S (gF G) H0 H locs → W p l e room_1 s m #[Value.ref b] below meth c H locs 219 3753 Q (F0 m 753 ls [])) : W p l e room_1 s m #[Value.ref b] below meth c H locs 219 3753 Q (F0 m 655 ls []) := by
  have C0 := C
  obtain ⟨hx, hb, hml, hw, hown, hT, hX, hbl, hbA, hL⟩ := C
  obtain ⟨i, hi, a8, a9, ae, aI⟩ := ok_restore hI 
  refine lv_aload_n hx hb dL_law_655 rfl (lv_at hl 2 rfl) ?_
  have k8 := cc_X8_restore l G V (69 + 33 * i) (gi_of i hi) i hi rfl  a8
  generalize MX8_restore i (69 + 33 * i)  V = R8 at k8 a9 ae aI
  refine gh_ki (va_runV (As := []) (rest := []) ⟨hx, hb, hml, hown, hw⟩ (k8) (cwV 0 hw (gh_gV uw716 uw717 uw718 uw2 uw719) rfl rfl rfl dd_X8_restore ⟨(Nat.le_of_ble_eq_true rfl), (Nat.le_of_ble_eq_true rfl)⟩) (gh_preV hT hP (Nat.le_of_ble_eq_true rfl) kd0 rfl rfl) rfl rfl hl.1 rfl (lv_room (Nat.le_of_ble_eq_true rfl)) dL_law_656 ⟨(Nat.le_of_ble_eq_true rfl), (Nat.le_of_ble_eq_true rfl)⟩) hS (fun H locs hP hS => ?_)
  refine lv_aload_n hx hb dL_law_659 rfl (lv_at hl 1 rfl) ?_
  have k9 := cc_X9_restore l G R8.2  a9
  generalize MX9_restore  R8.2 = R9 at k9 ae aI
  refine gh_ki (va_runV (As := []) (rest := [.int (R8.1)]) ⟨hx, hb, hml, hown, hw⟩ (k9) (cwV 0 hw (gh_gV uw720 uw721 uw722 uw5 uw723) rfl rfl rfl dd_X9_restore ⟨(Nat.le_of_ble_eq_true rfl), (Nat.le_of_ble_eq_true rfl)⟩) (gh_preV hT hP (Nat.le_of_ble_eq_true rfl) kd213 rfl rfl) rfl rfl hl.1 rfl (lv_room (Nat.le_of_ble_eq_true rfl)) dL_law_660 ⟨(Nat.le_of_ble_eq_true rfl), (Nat.le_of_ble_eq_true rfl)⟩) hS (fun H locs hP hS => ?_)
  exact lv_icmp_eq hx hb dL_law_663 (tgt := 753) rfl (fun _ => kk _ _ _ aI hP hS) (fun q => absurd ae q)
set_option maxHeartbeats 4000000 in
set_option maxRecDepth 100000 in
theorem lc_undo (C : lwC p s m c b L xs G H0) (hj : 4 * j + 4 ≤ L) (hl : lv_has ls 4 (lwL G b j)) (hI : gInv V) (hP : va_P (gD G) vwCl (gL G V) H) (hS : va_S (gF G) H0 H locs) (kk : ∀ (V : gV) (H : Heap) (locs : List Loc), gInv V → va_P (gD G) vwCl (gL G V) H → va_S (gF G) H0 H locs → W p l e room_1 s m #[Value.ref b] below meth c H locs 219 3753 Q (F0 m 753 ls [])) : W p l e room_1 s m #[Value.ref b] below meth c H locs 219 3753 Q (F0 m 668 ls []) := by
  have C0 := C
  obtain ⟨hx, hb, hml, hw, hown, hT, hX, hbl, hbA, hL⟩ := C
  obtain ⟨i, hi, a8, a9, ae, aI⟩ := ok_undo hI 
  refine lv_aload_n hx hb dL_law_668 rfl (lv_at hl 2 rfl) ?_
  have k8 := cc_X8_undo l G V (69 + 33 * i) (gi_of i hi) i hi rfl  a8
  generalize MX8_undo i (69 + 33 * i)  V = R8 at k8 a9 ae aI
  refine gh_ki (va_runV (As := []) (rest := []) ⟨hx, hb, hml, hown, hw⟩ (k8) (cwV 0 hw (gh_gV uw724 uw725 uw726 uw2 uw727) rfl rfl rfl dd_X8_undo ⟨(Nat.le_of_ble_eq_true rfl), (Nat.le_of_ble_eq_true rfl)⟩) (gh_preV hT hP (Nat.le_of_ble_eq_true rfl) kd0 rfl rfl) rfl rfl hl.1 rfl (lv_room (Nat.le_of_ble_eq_true rfl)) dL_law_669 ⟨(Nat.le_of_ble_eq_true rfl), (Nat.le_of_ble_eq_true rfl)⟩) hS (fun H locs hP hS => ?_)
  refine lv_aload_n hx hb dL_law_672 rfl (lv_at hl 1 rfl) ?_
  have k9 := cc_X9_undo l G R8.2  a9
  generalize MX9_undo  R8.2 = R9 at k9 ae aI
  refine gh_ki (va_runV (As := []) (rest := [.int (R8.1)]) ⟨hx, hb, hml, hown, hw⟩ (k9) (cwV 0 hw (gh_gV uw733 uw734 uw735 uw5 uw736) rfl rfl rfl dd_X9_undo ⟨(Nat.le_of_ble_eq_true rfl), (Nat.le_of_ble_eq_true rfl)⟩) (gh_preV hT hP (Nat.le_of_ble_eq_true rfl) kd213 rfl rfl) rfl rfl hl.1 rfl (lv_room (Nat.le_of_ble_eq_true rfl)) dL_law_673 ⟨(Nat.le_of_ble_eq_true rfl), (Nat.le_of_ble_eq_true rfl)⟩) hS (fun H locs hP hS => ?_)
  exact lv_icmp_eq hx hb dL_law_676 (tgt := 753) rfl (fun _ => kk _ _ _ aI hP hS) (fun q => absurd ae q)
set_option maxHeartbeats 4000000 in
set_option maxRecDepth 100000 in
theorem lc_type (C : lwC p s m c b L xs G H0) (hj : 4 * j + 4 ≤ L) (hl : lv_has ls 4 (lwL G b j)) (hI : gInv V) (hP : va_P (gD G) vwCl (gL G V) H) (hS : va_S (gF G) H0 H locs) (kk : ∀ (V : gV) (H : Heap) (locs : List Loc), gInv V → va_P (gD G) vwCl (gL G V) H → va_S (gF G) H0 H locs → W p l e room_1 s m #[Value.ref b] below meth c H locs 219 3753 Q (F0 m 753 ls [])) : W p l e room_1 s m #[Value.ref b] below meth c H locs 219 3753 Q (F0 m 681 ls []) := by
  have C0 := C
  obtain ⟨hx, hb, hml, hw, hown, hT, hX, hbl, hbA, hL⟩ := C
  obtain ⟨a8, a9, ae, aI⟩ := ok_type hI (xs (4 * j + 1))
  refine lv_aload_n hx hb dL_law_681 rfl (lv_at hl 2 rfl) ?_
  refine lw_arg 1 1 C0 hl hS hj (by omega) rfl dL_law_682 dL_law_683 dL_law_684 dL_law_685 dL_law_686 ?_
  have k8 := cc_X8_type l G V (xs (4 * j + 1))
  generalize MX8_type (xs (4 * j + 1)) V = R8 at k8 a9 ae aI
  refine gh_ki (va_runV (As := [.int (xs (4 * j + 1))]) (rest := []) ⟨hx, hb, hml, hown, hw⟩ (k8) (cwV 1 hw (gh_gV uw737 uw738 uw739 uw2 uw740) rfl rfl rfl dd_X8_type ⟨(Nat.le_of_ble_eq_true rfl), (Nat.le_of_ble_eq_true rfl)⟩) (gh_preV hT hP (Nat.le_of_ble_eq_true rfl) kd0 rfl rfl) rfl rfl hl.1 rfl (lv_room (Nat.le_of_ble_eq_true rfl)) dL_law_687 ⟨(Nat.le_of_ble_eq_true rfl), (Nat.le_of_ble_eq_true rfl)⟩) hS (fun H locs hP hS => ?_)
  refine lv_aload_n hx hb dL_law_690 rfl (lv_at hl 1 rfl) ?_
  refine lw_arg 1 1 C0 hl hS hj (by omega) rfl dL_law_691 dL_law_692 dL_law_693 dL_law_694 dL_law_695 ?_
  have k9 := cc_X9_type l G R8.2 (xs (4 * j + 1)) a9
  generalize MX9_type (xs (4 * j + 1)) R8.2 = R9 at k9 ae aI
  refine gh_ki (va_runV (As := [.int (xs (4 * j + 1))]) (rest := [.int (R8.1)]) ⟨hx, hb, hml, hown, hw⟩ (k9) (cwV 1 hw (gh_gV uw746 uw747 uw748 uw5 uw749) rfl rfl rfl dd_X9_type ⟨(Nat.le_of_ble_eq_true rfl), (Nat.le_of_ble_eq_true rfl)⟩) (gh_preV hT hP (Nat.le_of_ble_eq_true rfl) kd213 rfl rfl) rfl rfl hl.1 rfl (lv_room (Nat.le_of_ble_eq_true rfl)) dL_law_696 ⟨(Nat.le_of_ble_eq_true rfl), (Nat.le_of_ble_eq_true rfl)⟩) hS (fun H locs hP hS => ?_)
  exact lv_icmp_eq hx hb dL_law_699 (tgt := 753) rfl (fun _ => kk _ _ _ aI hP hS) (fun q => absurd ae q)
set_option maxHeartbeats 4000000 in
set_option maxRecDepth 100000 in
theorem lc_clearText (C : lwC p s m c b L xs G H0) (hj : 4 * j + 4 ≤ L) (hl : lv_has ls 4 (lwL G b j)) (hI : gInv V) (hP : va_P (gD G) vwCl (gL G V) H) (hS : va_S (gF G) H0 H locs) (kk : ∀ (V : gV) (H : Heap) (locs : List Loc), gInv V → va_P (gD G) vwCl (gL G V) H → va_S (gF G) H0 H locs → W p l e room_1 s m #[Value.ref b] below meth c H locs 219 3753 Q (F0 m 753 ls [])) : W p l e room_1 s m #[Value.ref b] below meth c H locs 219 3753 Q (F0 m 704 ls []) := by
  have C0 := C
  obtain ⟨hx, hb, hml, hw, hown, hT, hX, hbl, hbA, hL⟩ := C
  obtain ⟨a8, a9, ae, aI⟩ := ok_clearText hI 
  refine lv_aload_n hx hb dL_law_704 rfl (lv_at hl 2 rfl) ?_
  have k8 := cc_X8_clearText l G V 
  generalize MX8_clearText  V = R8 at k8 a9 ae aI
  refine gh_ki (va_runV (As := []) (rest := []) ⟨hx, hb, hml, hown, hw⟩ (k8) (cwV 0 hw (gh_gV uw750 uw751 uw752 uw2 uw753) rfl rfl rfl dd_X8_clearText ⟨(Nat.le_of_ble_eq_true rfl), (Nat.le_of_ble_eq_true rfl)⟩) (gh_preV hT hP (Nat.le_of_ble_eq_true rfl) kd0 rfl rfl) rfl rfl hl.1 rfl (lv_room (Nat.le_of_ble_eq_true rfl)) dL_law_705 ⟨(Nat.le_of_ble_eq_true rfl), (Nat.le_of_ble_eq_true rfl)⟩) hS (fun H locs hP hS => ?_)
  refine lv_aload_n hx hb dL_law_708 rfl (lv_at hl 1 rfl) ?_
  have k9 := cc_X9_clearText l G R8.2 
  generalize MX9_clearText  R8.2 = R9 at k9 ae aI
  refine gh_ki (va_runV (As := []) (rest := [.int (R8.1)]) ⟨hx, hb, hml, hown, hw⟩ (k9) (cwV 0 hw (gh_gV uw754 uw755 uw756 uw5 uw757) rfl rfl rfl dd_X9_clearText ⟨(Nat.le_of_ble_eq_true rfl), (Nat.le_of_ble_eq_true rfl)⟩) (gh_preV hT hP (Nat.le_of_ble_eq_true rfl) kd213 rfl rfl) rfl rfl hl.1 rfl (lv_room (Nat.le_of_ble_eq_true rfl)) dL_law_709 ⟨(Nat.le_of_ble_eq_true rfl), (Nat.le_of_ble_eq_true rfl)⟩) hS (fun H locs hP hS => ?_)
  exact lv_icmp_eq hx hb dL_law_712 (tgt := 753) rfl (fun _ => kk _ _ _ aI hP hS) (fun q => absurd ae q)
set_option maxHeartbeats 4000000 in
set_option maxRecDepth 100000 in
theorem lc_fault (C : lwC p s m c b L xs G H0) (hj : 4 * j + 4 ≤ L) (hl : lv_has ls 4 (lwL G b j)) (hI : gInv V) (hP : va_P (gD G) vwCl (gL G V) H) (hS : va_S (gF G) H0 H locs) (kk : ∀ (V : gV) (H : Heap) (locs : List Loc), gInv V → va_P (gD G) vwCl (gL G V) H → va_S (gF G) H0 H locs → W p l e room_1 s m #[Value.ref b] below meth c H locs 219 3753 Q (F0 m 753 ls [])) : W p l e room_1 s m #[Value.ref b] below meth c H locs 219 3753 Q (F0 m 717 ls []) := by
  have C0 := C
  obtain ⟨hx, hb, hml, hw, hown, hT, hX, hbl, hbA, hL⟩ := C
  obtain ⟨a8, a9, ae, aI⟩ := ok_fault hI (xs (4 * j + 1))
  refine lv_aload_n hx hb dL_law_717 rfl (lv_at hl 2 rfl) ?_
  refine lw_arg 1 1 C0 hl hS hj (by omega) rfl dL_law_718 dL_law_719 dL_law_720 dL_law_721 dL_law_722 ?_
  have k8 := cc_X8_fault l G V (xs (4 * j + 1)) a8
  generalize MX8_fault (xs (4 * j + 1)) V = R8 at k8 a9 ae aI
  refine gh_ki (va_runV (As := [.int (xs (4 * j + 1))]) (rest := []) ⟨hx, hb, hml, hown, hw⟩ (k8) (cwV 1 hw (gh_gV uw758 uw759 uw760 uw2 uw761) rfl rfl rfl dd_X8_fault ⟨(Nat.le_of_ble_eq_true rfl), (Nat.le_of_ble_eq_true rfl)⟩) (gh_preV hT hP (Nat.le_of_ble_eq_true rfl) kd0 rfl rfl) rfl rfl hl.1 rfl (lv_room (Nat.le_of_ble_eq_true rfl)) dL_law_723 ⟨(Nat.le_of_ble_eq_true rfl), (Nat.le_of_ble_eq_true rfl)⟩) hS (fun H locs hP hS => ?_)
  refine lv_aload_n hx hb dL_law_726 rfl (lv_at hl 1 rfl) ?_
  refine lw_arg 1 1 C0 hl hS hj (by omega) rfl dL_law_727 dL_law_728 dL_law_729 dL_law_730 dL_law_731 ?_
  have k9 := cc_X9_fault l G R8.2 (xs (4 * j + 1)) a9
  generalize MX9_fault (xs (4 * j + 1)) R8.2 = R9 at k9 ae aI
  refine gh_ki (va_runV (As := [.int (xs (4 * j + 1))]) (rest := [.int (R8.1)]) ⟨hx, hb, hml, hown, hw⟩ (k9) (cwV 1 hw (gh_gV uw817 uw818 uw819 uw5 uw820) rfl rfl rfl dd_X9_fault ⟨(Nat.le_of_ble_eq_true rfl), (Nat.le_of_ble_eq_true rfl)⟩) (gh_preV hT hP (Nat.le_of_ble_eq_true rfl) kd213 rfl rfl) rfl rfl hl.1 rfl (lv_room (Nat.le_of_ble_eq_true rfl)) dL_law_732 ⟨(Nat.le_of_ble_eq_true rfl), (Nat.le_of_ble_eq_true rfl)⟩) hS (fun H locs hP hS => ?_)
  exact lv_icmp_eq hx hb dL_law_735 (tgt := 753) rfl (fun _ => kk _ _ _ aI hP hS) (fun q => absurd ae q)
set_option maxHeartbeats 4000000 in
set_option maxRecDepth 100000 in
theorem lc_read (C : lwC p s m c b L xs G H0) (hj : 4 * j + 4 ≤ L) (hl : lv_has ls 4 (lwL G b j)) (hI : gInv V) (hP : va_P (gD G) vwCl (gL G V) H) (hS : va_S (gF G) H0 H locs) (kk : ∀ (V : gV) (H : Heap) (locs : List Loc), gInv V → va_P (gD G) vwCl (gL G V) H → va_S (gF G) H0 H locs → W p l e room_1 s m #[Value.ref b] below meth c H locs 219 3753 Q (F0 m 753 ls [])) : W p l e room_1 s m #[Value.ref b] below meth c H locs 219 3753 Q (F0 m 740 ls []) := by
  have C0 := C
  obtain ⟨hx, hb, hml, hw, hown, hT, hX, hbl, hbA, hL⟩ := C
  obtain ⟨i, hi, a8, a9, ae, aI⟩ := ok_read hI 
  refine lv_aload_n hx hb dL_law_740 rfl (lv_at hl 2 rfl) ?_
  have k8 := cc_X8_read l G V (69 + 33 * i) (gi_of i hi) i hi rfl  a8
  generalize MX8_read i (69 + 33 * i)  V = R8 at k8 a9 ae aI
  refine gh_ki (va_runV (As := []) (rest := []) ⟨hx, hb, hml, hown, hw⟩ (k8) (cwV 0 hw (gh_gV uw856 uw857 uw858 uw2 uw859) rfl rfl rfl dd_X8_read ⟨(Nat.le_of_ble_eq_true rfl), (Nat.le_of_ble_eq_true rfl)⟩) (gh_preV hT hP (Nat.le_of_ble_eq_true rfl) kd0 rfl rfl) rfl rfl hl.1 rfl (lv_room (Nat.le_of_ble_eq_true rfl)) dL_law_741 ⟨(Nat.le_of_ble_eq_true rfl), (Nat.le_of_ble_eq_true rfl)⟩) hS (fun H locs hP hS => ?_)
  refine lv_aload_n hx hb dL_law_744 rfl (lv_at hl 1 rfl) ?_
  have k9 := cc_X9_read l G R8.2  a9
  generalize MX9_read  R8.2 = R9 at k9 ae aI
  refine gh_ki (va_runV (As := []) (rest := [.int (R8.1)]) ⟨hx, hb, hml, hown, hw⟩ (k9) (cwV 0 hw (gh_gV uw862 uw863 uw864 uw5 uw865) rfl rfl rfl dd_X9_read ⟨(Nat.le_of_ble_eq_true rfl), (Nat.le_of_ble_eq_true rfl)⟩) (gh_preV hT hP (Nat.le_of_ble_eq_true rfl) kd213 rfl rfl) rfl rfl hl.1 rfl (lv_room (Nat.le_of_ble_eq_true rfl)) dL_law_745 ⟨(Nat.le_of_ble_eq_true rfl), (Nat.le_of_ble_eq_true rfl)⟩) hS (fun H locs hP hS => ?_)
  exact lv_icmp_eq hx hb dL_law_748 (tgt := 753) rfl (fun _ => kk _ _ _ aI hP hS) (fun q => absurd ae q)
end LAW
