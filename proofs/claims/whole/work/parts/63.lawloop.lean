set_option maxHeartbeats 4000000 in
set_option maxRecDepth 100000 in
theorem lw_switch {p : Program} {l : Launch} {e : Env} {s : State} {m : MethodId} {below : List Frame} {meth : Method} {c : Code} {b L : Nat} {xs : Nat → Int32} (C0 : lw_At p s m meth c b L xs) (hL : L ≤ 3072) {D : va_G} {cI cII : ClassId} (hK : va_K D vwCl (tz cI cII) s) {q : Nat → Nat → Nat} {qm : Nat → Nat} {i : Nat} (hi : i + 6 ≤ L) (ih : lw_L p l e s m b below meth c D cI cII q qm (i + 6)) {u : XS} {w : MS} (hI : Inv u w) {H : Heap} {locs : List Loc} (hH : lw_H D cI cII q qm s u w H locs) {ls : Array Slot} (hl : lv_has ls 4 [(0, .ref b), (1, .ref (q 0 0)), (2, .ref (qm 0)), (3, .int (nI i))]) : lw_W p l e s m b below meth c H locs (F0 m 27 ls []) := by
  obtain ⟨hx, hb, hr, hml, hown, hts0, hX, hbl, hlocks, hgv⟩ := id C0
  have hbA : ¬ (fun x : Nat => s.heap.size ≤ x) b := Nat.not_le.mpr hbl
  have hS := hH.2.2.2
  refine lv_aload_n hx hb dL_law_27 rfl (lv_at hl 0 rfl) ?_
  refine lv_iload_n hx hb dL_law_28 rfl (lv_at hl 3 rfl) ?_
  refine va_sld hx hb hX hbl hbA hS (vp_in_nI (by omega) (by omega)) dL_law_29 ?_
  refine lv_bipush (v := 31) hx hb dL_law_30 (by decide) ?_
  refine lv_iand hx hb dL_law_32 ?_
  obtain ⟨j, hj, ej⟩ := pk_andE (xs (nI i).toNatClampNeg) (m := 31) 5 (by decide)
  rw [ej]
  by_cases h24 : 24 ≤ j
  · refine lv_tableOut (tgt := 941) hx hb dL_law_33 (Or.inr (by rw [nI_toInt (by omega)]; omega)) (by decide) ?_
    exact lw_tail C0 ih hI hH hl
  rcases (show j = 0 ∨ j = 1 ∨ j = 2 ∨ j = 3 ∨ j = 4 ∨ j = 5 ∨ j = 6 ∨ j = 7 ∨ j = 8 ∨ j = 9 ∨ j = 10 ∨ j = 11 ∨ j = 12 ∨ j = 13 ∨ j = 14 ∨ j = 15 ∨ j = 16 ∨ j = 17 ∨ j = 18 ∨ j = 19 ∨ j = 20 ∨ j = 21 ∨ j = 22 ∨ j = 23 by omega) with rfl | rfl | rfl | rfl | rfl | rfl | rfl | rfl | rfl | rfl | rfl | rfl | rfl | rfl | rfl | rfl | rfl | rfl | rfl | rfl | rfl | rfl | rfl | rfl
  · refine lv_tableIn (tgt := 144) (off := 111) hx hb dL_law_33 (by decide) (by decide) (by rfl) (by decide) ?_
    exact lw_case0 C0 hL hK hi ih hI hH hl
  · refine lv_tableIn (tgt := 167) (off := 134) hx hb dL_law_33 (by decide) (by decide) (by rfl) (by decide) ?_
    exact lw_case1 C0 hL hK hi ih hI hH hl
  · refine lv_tableIn (tgt := 230) (off := 197) hx hb dL_law_33 (by decide) (by decide) (by rfl) (by decide) ?_
    exact lw_case2 C0 hL hK hi ih hI hH hl
  · refine lv_tableIn (tgt := 253) (off := 220) hx hb dL_law_33 (by decide) (by decide) (by rfl) (by decide) ?_
    exact lw_case3 C0 hL hK hi ih hI hH hl
  · refine lv_tableIn (tgt := 286) (off := 253) hx hb dL_law_33 (by decide) (by decide) (by rfl) (by decide) ?_
    exact lw_case4 C0 hL hK hi ih hI hH hl
  · refine lv_tableIn (tgt := 329) (off := 296) hx hb dL_law_33 (by decide) (by decide) (by rfl) (by decide) ?_
    exact lw_case5 C0 hL hK hi ih hI hH hl
  · refine lv_tableIn (tgt := 362) (off := 329) hx hb dL_law_33 (by decide) (by decide) (by rfl) (by decide) ?_
    exact lw_case6 C0 hL hK hi ih hI hH hl
  · refine lv_tableIn (tgt := 395) (off := 362) hx hb dL_law_33 (by decide) (by decide) (by rfl) (by decide) ?_
    exact lw_case7 C0 hL hK hi ih hI hH hl
  · refine lv_tableIn (tgt := 428) (off := 395) hx hb dL_law_33 (by decide) (by decide) (by rfl) (by decide) ?_
    exact lw_case8 C0 hL hK hi ih hI hH hl
  · refine lv_tableIn (tgt := 471) (off := 438) hx hb dL_law_33 (by decide) (by decide) (by rfl) (by decide) ?_
    exact lw_case9 C0 hL hK hi ih hI hH hl
  · refine lv_tableIn (tgt := 524) (off := 491) hx hb dL_law_33 (by decide) (by decide) (by rfl) (by decide) ?_
    exact lw_case10 C0 hL hK hi ih hI hH hl
  · refine lv_tableIn (tgt := 547) (off := 514) hx hb dL_law_33 (by decide) (by decide) (by rfl) (by decide) ?_
    exact lw_case11 C0 hL hK hi ih hI hH hl
  · refine lv_tableIn (tgt := 580) (off := 547) hx hb dL_law_33 (by decide) (by decide) (by rfl) (by decide) ?_
    exact lw_case12 C0 hL hK hi ih hI hH hl
  · refine lv_tableIn (tgt := 613) (off := 580) hx hb dL_law_33 (by decide) (by decide) (by rfl) (by decide) ?_
    exact lw_case13 C0 hL hK hi ih hI hH hl
  · refine lv_tableIn (tgt := 646) (off := 613) hx hb dL_law_33 (by decide) (by decide) (by rfl) (by decide) ?_
    exact lw_case14 C0 hL hK hi ih hI hH hl
  · refine lv_tableIn (tgt := 669) (off := 636) hx hb dL_law_33 (by decide) (by decide) (by rfl) (by decide) ?_
    exact lw_case15 C0 hL hK hi ih hI hH hl
  · refine lv_tableIn (tgt := 703) (off := 670) hx hb dL_law_33 (by decide) (by decide) (by rfl) (by decide) ?_
    exact lw_case16 C0 hL hK hi ih hI hH hl
  · refine lv_tableIn (tgt := 736) (off := 703) hx hb dL_law_33 (by decide) (by decide) (by rfl) (by decide) ?_
    exact lw_case17 C0 hL hK hi ih hI hH hl
  · refine lv_tableIn (tgt := 769) (off := 736) hx hb dL_law_33 (by decide) (by decide) (by rfl) (by decide) ?_
    exact lw_case18 C0 hL hK hi ih hI hH hl
  · refine lv_tableIn (tgt := 783) (off := 750) hx hb dL_law_33 (by decide) (by decide) (by rfl) (by decide) ?_
    exact lw_case19 C0 hL hK hi ih hI hH hl
  · refine lv_tableIn (tgt := 807) (off := 774) hx hb dL_law_33 (by decide) (by decide) (by rfl) (by decide) ?_
    exact lw_case20 C0 hL hK hi ih hI hH hl
  · refine lv_tableIn (tgt := 831) (off := 798) hx hb dL_law_33 (by decide) (by decide) (by rfl) (by decide) ?_
    exact lw_case21 C0 hL hK hi ih hI hH hl
  · refine lv_tableIn (tgt := 875) (off := 842) hx hb dL_law_33 (by decide) (by decide) (by rfl) (by decide) ?_
    exact lw_case22 C0 hL hK hi ih hI hH hl
  · refine lv_tableIn (tgt := 918) (off := 885) hx hb dL_law_33 (by decide) (by decide) (by rfl) (by decide) ?_
    exact lw_case23 C0 hL hK hi ih hI hH hl
theorem lw_loop {p : Program} {l : Launch} {e : Env} {s : State} {m : MethodId} {below : List Frame} {meth : Method} {c : Code} {b L : Nat} {xs : Nat → Int32} (C0 : lw_At p s m meth c b L xs) (hL : L ≤ 3072) {D : va_G} {cI cII : ClassId} (hK : va_K D vwCl (tz cI cII) s) {q : Nat → Nat → Nat} {qm : Nat → Nat} : ∀ n i, L + 1 ≤ i + n → i ≤ L → lw_L p l e s m b below meth c D cI cII q qm i := by
  intro n
  induction n with
  | zero => intro i h1 h2; exact absurd h1 (by omega)
  | succ n ih =>
    intro i h1 h2 u w hI H locs hH ls hl
    obtain ⟨hx, hb, hr, hml, hown, hts0, hX, hbl, hlocks, hgv⟩ := id C0
    have hbA : ¬ (fun x : Nat => s.heap.size ≤ x) b := Nat.not_le.mpr hbl
    have hS := hH.2.2.2
    have e6 : (6 : Int32) = nI 6 := rfl
    refine lv_iload_n hx hb dL_law_18 rfl (lv_at hl 3 rfl) ?_
    refine lv_aload_n hx hb dL_law_19 rfl (lv_at hl 0 rfl) ?_
    refine va_slen hx hb hX hbl hbA hS dL_law_20 ?_
    refine lv_bipush (v := 6) hx hb dL_law_21 (by decide) ?_
    refine lv_isub hx hb dL_law_23 ?_
    refine lv_icmp_gt (tgt := 947) hx hb dL_law_24 (by decide) (fun cc => ?_) (fun cc => ?_)
    · refine lv_iconst (v := 1) hx hb dL_law_947 (by decide) ?_
      refine va_forget (fun x hx9 => hS.2.2 x hx9) ?_
      exact lw_ret hx hb hr hlocks dL_law_948
    · have h6 : i + 6 ≤ L := by
        have c2 := Int32.not_lt.mp cc
        have c3 := Int32.le_iff_toInt_le.mp c2
        have c4 : (nI L - nI 6).toInt = (L : Int) - 6 := pk_sub_toInt (a := L) (b := 6) (by omega) (by omega)
        have c5 : (nI i).toInt = i := nI_toInt (by omega)
        have c6 : (nI i).toInt ≤ (nI L - nI 6).toInt := c3
        omega
      exact lw_switch C0 hL hK h6 (ih (i + 6) (by omega) h6) hI hH hl
