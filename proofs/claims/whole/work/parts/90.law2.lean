theorem lw_gt {L j : Nat} (hL : L ≤ 2048) (hj : 4 * j ≤ L) : (Int32.ofNat L - 4 < nI (4 * j)) ↔ L < 4 * j + 4 := by
  have e : Int32.ofNat L - 4 + 4 = nI L := Int32.sub_add_cancel _ _
  by_cases h : 4 ≤ L
  · have e2 : Int32.ofNat L - 4 = nI (L - 4) := pu_sub (a := L) (b := 4) h
    rw [e2]
    refine ⟨fun q => ?_, fun q => nI_lt (by omega) (by omega)⟩
    refine Nat.lt_of_not_le (fun z => ?_)
    exact nI_nlt (a := L - 4) (b := 4 * j) (by omega) (by omega) q
  · have hj0 : j = 0 := by omega
    subst hj0
    refine ⟨fun _ => by omega, fun _ => ?_⟩
    rcases (show L = 0 ∨ L = 1 ∨ L = 2 ∨ L = 3 by omega) with rfl | rfl | rfl | rfl <;> decide
theorem i31 (x : Int32) : ∃ k, k < 32 ∧ x &&& 31 = nI k := by
  refine ⟨(x.toBitVec &&& 31#32).toNat, ?_, ?_⟩
  · rw [BitVec.toNat_and]
    exact Nat.lt_of_le_of_lt Nat.and_le_right (by decide)
  · apply Int32.toBitVec_inj.1
    show x.toBitVec &&& 31#32 = BitVec.ofNat 32 (x.toBitVec &&& 31#32).toNat
    rw [BitVec.ofNat_toNat, BitVec.setWidth_eq]
section LOOP
variable {p : Program} {l : Launch} {e : Env} {s : State} {m : MethodId} {below : List Frame} {meth : Method} {c : Code} {b L : Nat} {xs : Nat → Int32} {G : gG} {H0 : Heap} {Q : State → Prop} {j : Nat} {V : gV} {H : Heap} {locs : List Loc} {ls : Array Slot}
set_option maxHeartbeats 4000000 in
set_option maxRecDepth 100000 in
theorem lw_body (C : lwC p s m c b L xs G H0) (hj : 4 * j + 4 ≤ L) (hl : lv_has ls 4 (lwL G b j)) (hI : gInv V) (hP : va_P (gD G) vwCl (gL G V) H) (hS : va_S (gF G) H0 H locs) (kk : ∀ (V : gV) (H : Heap) (locs : List Loc), gInv V → va_P (gD G) vwCl (gL G V) H → va_S (gF G) H0 H locs → W p l e room_1 s m #[Value.ref b] below meth c H locs 219 3753 Q (F0 m 753 ls [])) : W p l e room_1 s m #[Value.ref b] below meth c H locs 219 3753 Q (F0 m 26 ls []) := by
  have C0 := C
  obtain ⟨hx, hb, hml, hw, hown, hT, hX, hbl, hbA, hL⟩ := C
  refine lv_aload_n hx hb dL_law_26 rfl (lv_at hl 3 rfl) ?_
  refine lv_iload_n hx hb dL_law_27 rfl (lv_at hl 0 rfl) ?_
  refine va_sld hx hb hX hbl hbA hS (pu_in (by omega) (by omega)) dL_law_28 ?_
  refine lv_bipush (v := 31) hx hb dL_law_29 (by decide) ?_
  refine lv_iand hx hb dL_law_31 ?_
  obtain ⟨k, hk, ek⟩ := i31 (xs (nI (4 * j)).toNatClampNeg)
  rw [ek]
  have kt := nI_toInt (n := k) (by omega)
  by_cases h : k < 25
  · rcases (show k = 0 ∨ k = 1 ∨ k = 2 ∨ k = 3 ∨ k = 4 ∨ k = 5 ∨ k = 6 ∨ k = 7 ∨ k = 8 ∨ k = 9 ∨ k = 10 ∨ k = 11 ∨ k = 12 ∨ k = 13 ∨ k = 14 ∨ k = 15 ∨ k = 16 ∨ k = 17 ∨ k = 18 ∨ k = 19 ∨ k = 20 ∨ k = 21 ∨ k = 22 ∨ k = 23 ∨ k = 24 by omega) with rfl | rfl | rfl | rfl | rfl | rfl | rfl | rfl | rfl | rfl | rfl | rfl | rfl | rfl | rfl | rfl | rfl | rfl | rfl | rfl | rfl | rfl | rfl | rfl | rfl
    · exact lv_tableIn hx hb (tgt := 148) dL_law_32 (by decide) (by decide) rfl rfl (lc_word C0 hj hl hI hP hS kk)
    · exact lv_tableIn hx hb (tgt := 181) dL_law_32 (by decide) (by decide) rfl rfl (lc_seat C0 hj hl hI hP hS kk)
    · exact lv_tableIn hx hb (tgt := 204) dL_law_32 (by decide) (by decide) rfl rfl (lc_lend C0 hj hl hI hP hS kk)
    · exact lv_tableIn hx hb (tgt := 247) dL_law_32 (by decide) (by decide) rfl rfl (lc_set C0 hj hl hI hP hS kk)
    · exact lv_tableIn hx hb (tgt := 280) dL_law_32 (by decide) (by decide) rfl rfl (lc_seed C0 hj hl hI hP hS kk)
    · exact lv_tableIn hx hb (tgt := 303) dL_law_32 (by decide) (by decide) rfl rfl (lc_begin C0 hj hl hI hP hS kk)
    · exact lv_tableIn hx hb (tgt := 326) dL_law_32 (by decide) (by decide) rfl rfl (lc_guess C0 hj hl hI hP hS kk)
    · exact lv_tableIn hx hb (tgt := 349) dL_law_32 (by decide) (by decide) rfl rfl (lc_tell C0 hj hl hI hP hS kk)
    · exact lv_tableIn hx hb (tgt := 372) dL_law_32 (by decide) (by decide) rfl rfl (lc_whisper C0 hj hl hI hP hS kk)
    · exact lv_tableIn hx hb (tgt := 415) dL_law_32 (by decide) (by decide) rfl rfl (lc_wordOf C0 hj hl hI hP hS kk)
    · exact lv_tableIn hx hb (tgt := 448) dL_law_32 (by decide) (by decide) rfl rfl (lc_playerOf C0 hj hl hI hP hS kk)
    · exact lv_tableIn hx hb (tgt := 481) dL_law_32 (by decide) (by decide) rfl rfl (lc_open C0 hj hl hI hP hS kk)
    · exact lv_tableIn hx hb (tgt := 504) dL_law_32 (by decide) (by decide) rfl rfl (lc_round C0 hj hl hI hP hS kk)
    · exact lv_tableIn hx hb (tgt := 537) dL_law_32 (by decide) (by decide) rfl rfl (lc_count C0 hj hl hI hP hS kk)
    · exact lv_tableIn hx hb (tgt := 560) dL_law_32 (by decide) (by decide) rfl rfl (lc_fits C0 hj hl hI hP hS kk)
    · exact lv_tableIn hx hb (tgt := 583) dL_law_32 (by decide) (by decide) rfl rfl (lc_letterOf C0 hj hl hI hP hS kk)
    · exact lv_tableIn hx hb (tgt := 616) dL_law_32 (by decide) (by decide) rfl rfl (lc_sharpest C0 hj hl hI hP hS kk)
    · exact lv_tableIn hx hb (tgt := 629) dL_law_32 (by decide) (by decide) rfl rfl (lc_next C0 hj hl hI hP hS kk)
    · exact lv_tableIn hx hb (tgt := 642) dL_law_32 (by decide) (by decide) rfl rfl (lc_keep C0 hj hl hI hP hS kk)
    · exact lv_tableIn hx hb (tgt := 655) dL_law_32 (by decide) (by decide) rfl rfl (lc_restore C0 hj hl hI hP hS kk)
    · exact lv_tableIn hx hb (tgt := 668) dL_law_32 (by decide) (by decide) rfl rfl (lc_undo C0 hj hl hI hP hS kk)
    · exact lv_tableIn hx hb (tgt := 681) dL_law_32 (by decide) (by decide) rfl rfl (lc_type C0 hj hl hI hP hS kk)
    · exact lv_tableIn hx hb (tgt := 704) dL_law_32 (by decide) (by decide) rfl rfl (lc_clearText C0 hj hl hI hP hS kk)
    · exact lv_tableIn hx hb (tgt := 717) dL_law_32 (by decide) (by decide) rfl rfl (lc_fault C0 hj hl hI hP hS kk)
    · exact lv_tableIn hx hb (tgt := 740) dL_law_32 (by decide) (by decide) rfl rfl (lc_read C0 hj hl hI hP hS kk)
  · exact lv_tableOut hx hb (tgt := 753) dL_law_32 (Or.inr (by rw [kt]; omega)) rfl (kk _ _ _ hI hP hS)
set_option maxRecDepth 100000 in
theorem lw_loop (C : lwC p s m c b L xs G H0) (kend : ∀ (H : Heap) (locs : List Loc) (ls : Array Slot), lv_has ls 4 [(0, .ref b)] → va_S (gF G) H0 H locs → W p l e room_1 s m #[Value.ref b] below meth c H locs 219 3753 Q (F0 m 759 ls [])) : ∀ (d j : Nat) (V : gV) (H : Heap) (locs : List Loc) (ls : Array Slot), L < 4 * (j + d) + 4 → 4 * j ≤ L → lv_has ls 4 (lwL G b j) → gInv V → va_P (gD G) vwCl (gL G V) H → va_S (gF G) H0 H locs → W p l e room_1 s m #[Value.ref b] below meth c H locs 219 3753 Q (F0 m 18 ls []) := by
  have C0 := C
  obtain ⟨hx, hb, hml, hw, hown, hT, hX, hbl, hbA, hL⟩ := C
  intro d
  induction d with
  | zero =>
    intro j V H locs ls hd hjL hl hI hP hS
    refine lv_iload_n hx hb dL_law_18 rfl (lv_at hl 0 rfl) ?_
    refine lv_aload_n hx hb dL_law_19 rfl (lv_at hl 3 rfl) ?_
    refine va_slen hx hb hX hbl hbA hS dL_law_20 ?_
    refine lv_iconst (v := 4) hx hb dL_law_21 (by decide) ?_
    refine lv_isub hx hb dL_law_22 ?_
    refine lv_icmp_gt hx hb dL_law_23 (tgt := 759) rfl (fun _ => kend H locs ls (lv_sub hl [3] rfl) hS) (fun q => absurd ((lw_gt hL hjL).mpr (by omega)) q)
  | succ d ih =>
    intro j V H locs ls hd hjL hl hI hP hS
    refine lv_iload_n hx hb dL_law_18 rfl (lv_at hl 0 rfl) ?_
    refine lv_aload_n hx hb dL_law_19 rfl (lv_at hl 3 rfl) ?_
    refine va_slen hx hb hX hbl hbA hS dL_law_20 ?_
    refine lv_iconst (v := 4) hx hb dL_law_21 (by decide) ?_
    refine lv_isub hx hb dL_law_22 ?_
    refine lv_icmp_gt hx hb dL_law_23 (tgt := 759) rfl (fun _ => kend H locs ls (lv_sub hl [3] rfl) hS) (fun q => ?_)
    have h4 : 4 * j + 4 ≤ L := Nat.le_of_not_lt (fun z => q ((lw_gt hL hjL).mpr z))
    refine lw_body C0 h4 hl hI hP hS (fun V H locs hI hP hS => ?_)
    refine lv_iinc (v := nI (4 * (j + 1))) hx hb dL_law_753 hl (k := 0) rfl (by show nI (4 * j) + nI 4 = _; rw [nI_add]; rfl) (by decide) rfl (fun ls hl => ?_)
    refine lv_goto hx hb dL_law_756 (tgt := 18) rfl ?_
    exact ih (j + 1) V H locs ls (by omega) (by omega) hl hI hP hS
end LOOP
