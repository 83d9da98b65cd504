/-! X5_isOutside -/
set_option maxHeartbeats 4000000 in
set_option maxRecDepth 100000 in
theorem cX5_isOutside_ok (l : Launch) (p1 : Int32) (p2 : Int32) (p3 : Int32) (post : Int32 → Prop) (h : wpX5_isOutside p1 p2 p3 post) : Met l yX5_isOutside wsX5_isOutside ({ frames := 0, cells := 0, slots := 0, locals := 0 } : Room) (zPs [.int p1, .int p2, .int p3]) (vp_Si post) 0 0 (fun _ => False) := by
  refine Met.ofW (cc := cX5_isOutside) (maxL := 3) (ret := (some .boolean)) (by decide) rfl ?_
  intro p e s m args below meth c s₁ B hml hv
  obtain ⟨rfl, -⟩ := hv
  have hx := B.exec
  have hb := B.bytes
  have hr := B.returns
  have hts := atoms_spec (ws := wsX5_isOutside) B.pre
  have hown : s.vm.findClass RX5 = some m.cls := findClass_of_methodNamed B.named
  have hlocks := B.notSynchronized
  have hl := lv_entry ([.int p1, .int p2, .int p3]) (n := 3) (Nat.le_of_ble_eq_true rfl)
  rw [lg_entry_eq]
  generalize (lg_sl ([.int p1, .int p2, .int p3]) ++ List.replicate (3 - (lg_sl ([.int p1, .int p2, .int p3])).length) Slot.unset).toArray = ls at hl ⊢
  have hl : lv_has ls 3 [(0, .int p1), (1, .int p2), (2, .int p3)] := hl
  unfold wpX5_isOutside at h
  refine lv_iload_n hx hb dX5_isOutside_0 rfl (lv_at hl 0 rfl) ?_
  refine lv_iload_n hx hb dX5_isOutside_1 rfl (lv_at hl 1 rfl) ?_
  refine lv_icmp_lt (tgt := 10) hx hb dX5_isOutside_2 (by decide) (fun c1 => ?_) (fun c1 => ?_)
  · replace h := h.1 c1
    refine lv_iconst (v := 1) hx hb dX5_isOutside_10 (by decide) ?_
    refine lv_goto (tgt := 15) hx hb dX5_isOutside_11 (by decide) ?_
    exact W.zret (v := 1) (ty := .boolean) hx hb hr (by decide) (fun t ht hW => ⟨1, rfl, h, ht⟩) (fun _ h9 => by cases h9) dX5_isOutside_15
  · replace h := h.2 c1
    refine lv_iload_n hx hb dX5_isOutside_5 rfl (lv_at hl 0 rfl) ?_
    refine lv_iload_n hx hb dX5_isOutside_6 rfl (lv_at hl 2 rfl) ?_
    refine lv_icmp_le (tgt := 14) hx hb dX5_isOutside_7 (by decide) (fun c2 => ?_) (fun c2 => ?_)
    · replace h := h.1 c2
      refine lv_iconst (v := 0) hx hb dX5_isOutside_14 (by decide) ?_
      exact W.zret (v := 0) (ty := .boolean) hx hb hr (by decide) (fun t ht hW => ⟨0, rfl, h, ht⟩) (fun _ h9 => by cases h9) dX5_isOutside_15
    · replace h := h.2 c2
      refine lv_iconst (v := 1) hx hb dX5_isOutside_10 (by decide) ?_
      refine lv_goto (tgt := 15) hx hb dX5_isOutside_11 (by decide) ?_
      exact W.zret (v := 1) (ty := .boolean) hx hb hr (by decide) (fun t ht hW => ⟨1, rfl, h, ht⟩) (fun _ h9 => by cases h9) dX5_isOutside_15

/-! X5_isNoGrain -/
set_option maxHeartbeats 4000000 in
set_option maxRecDepth 100000 in
theorem cX5_isNoGrain_ok (l : Launch) (p1 : Int32) (post : Int32 → Prop) (h : wpX5_isNoGrain p1 post) : Met l yX5_isNoGrain wsX5_isNoGrain ({ frames := 1, cells := 0, slots := 0, locals := 22 } : Room) (zPs [.int p1]) (vp_Si post) 0 0 (fun _ => False) := by
  refine Met.ofW (cc := cX5_isNoGrain) (maxL := 1) (ret := (some .boolean)) (by decide) rfl ?_
  intro p e s m args below meth c s₁ B hml hv
  obtain ⟨rfl, -⟩ := hv
  have hx := B.exec
  have hb := B.bytes
  have hr := B.returns
  have hts := atoms_spec (ws := wsX5_isNoGrain) B.pre
  have hown : s.vm.findClass RX5 = some m.cls := findClass_of_methodNamed B.named
  have hlocks := B.notSynchronized
  have hl := lv_entry ([.int p1]) (n := 1) (Nat.le_of_ble_eq_true rfl)
  rw [lg_entry_eq]
  generalize (lg_sl ([.int p1]) ++ List.replicate (1 - (lg_sl ([.int p1])).length) Slot.unset).toArray = ls at hl ⊢
  have hl : lv_has ls 1 [(0, .int p1)] := hl
  unfold wpX5_isNoGrain at h
  refine lv_iload_n hx hb dX5_isNoGrain_0 rfl (lv_at hl 0 rfl) ?_
  refine lv_iconst (v := 0) hx hb dX5_isNoGrain_1 (by decide) ?_
  refine lv_iconst (v := 2) hx hb dX5_isNoGrain_2 (by decide) ?_
  refine vp_callSi (W.runS (As := [.int p1, .int 0, .int 2]) (rest := []) ⟨hx, hb, hml, hown, hts⟩ (cX5_isOutside_ok l p1 0 2 _ h) (va_cwS 3 hts gX5_isNoGrain_X5_isOutside rfl rfl rfl (by decide +kernel) ⟨Nat.le_of_ble_eq_true rfl, Nat.le_of_ble_eq_true rfl⟩) z_preS rfl rfl hl.1 rfl (lv_room (Nat.le_of_ble_eq_true rfl)) dX5_isNoGrain_3 ⟨Nat.le_of_ble_eq_true rfl, Nat.le_of_ble_eq_true rfl⟩) (fun r1 h => ?_)
  obtain ⟨hnar, h⟩ := h
  exact W.zret (v := r1) (ty := .boolean) hx hb hr hnar (fun t ht hW => ⟨r1, rfl, h, ht⟩) (fun _ h9 => by cases h9) dX5_isNoGrain_6

/-! X5_dutyAt -/
set_option maxRecDepth 20000 in
theorem wdX5_dutyAt_0 : Cond.fieldLink RX5 26 "CornLaws" "hangings" "LCornLaws$Hangings;" ∈ wsX5_dutyAt := by decide +kernel
set_option maxRecDepth 20000 in
theorem wdX5_dutyAt_1 : Cond.fieldLink RX5 19 "CornLaws" "scales" "LCornLaws$Scales;" ∈ wsX5_dutyAt := by decide +kernel
set_option maxRecDepth 20000 in
theorem wdX5_dutyAt_2 : Cond.fieldLink RX5 12 "CornLaws" "returns" "LCornLaws$Returns;" ∈ wsX5_dutyAt := by decide +kernel
set_option maxRecDepth 20000 in
theorem inX5_dutyAt_5 : ∀ w ∈ wsX50, w ∈ wsX5_dutyAt := by decide +kernel
set_option maxHeartbeats 4000000 in
set_option maxRecDepth 100000 in
theorem cX5_dutyAt_ok (l : Launch) (D : va_G) (cI cII : ClassId) (q : Nat → Nat → Nat) (u : XS) (p1 : Int32) (p2 : Int32) (p3 : Int32) (p4 : Int32) (post : Int32 → Prop) (h : wpX5_dutyAt u p1 p2 p3 p4 post) : Met l yX5_dutyAt wsX5_dutyAt ({ frames := 3, cells := 0, slots := 0, locals := 76 } : Room) (zPc [.ref (q 0 0), .int p1, .int p2, .int p3, .int p4] D cI cII (wX cI cII q u)) (vp_Si post) 0 0 (fun _ => False) := by
  refine Met.ofW (cc := cX5_dutyAt) (maxL := 8) (ret := (some .int)) (by decide) rfl ?_
  intro p e s m args below meth c s₁ B hml hv
  obtain ⟨rfl, hP, hK⟩ := hv
  have hx := B.exec
  have hb := B.bytes
  have hr := B.returns
  have hts := atoms_spec (ws := wsX5_dutyAt) B.pre
  have hown : s.vm.findClass RX5 = some m.cls := findClass_of_methodNamed B.named
  have hlocks := B.notSynchronized
  have hl := lv_entry ([.ref (q 0 0), .int p1, .int p2, .int p3, .int p4]) (n := 8) (Nat.le_of_ble_eq_true rfl)
  rw [lg_entry_eq]
  generalize (lg_sl ([.ref (q 0 0), .int p1, .int p2, .int p3, .int p4]) ++ List.replicate (8 - (lg_sl ([.ref (q 0 0), .int p1, .int p2, .int p3, .int p4])).length) Slot.unset).toArray = ls at hl ⊢
  have hl : lv_has ls 8 [(0, .ref (q 0 0)), (1, .int p1), (2, .int p2), (3, .int p3), (4, .int p4)] := hl
  unfold wpX5_dutyAt at h
  refine lv_aload_n hx hb dX5_dutyAt_0 rfl (lv_at hl 0 rfl) ?_
  refine va_get (D := D) (ci := 5) (v := .ref (q 3 0)) (C := RX5) (T := TX5) (N := 8) hx hb hts inX5_dutyAt_5 hown hK hP 0 rfl rfl 2 (by decide) (hts (.fieldLink RX5 26 "CornLaws" "hangings" "LCornLaws$Hangings;") wdX5_dutyAt_0) (fun _ h9 => h9) rfl dX5_dutyAt_1 ?_
  refine lv_iload_n hx hb dX5_dutyAt_4 rfl (lv_at hl 1 rfl) ?_
  refine vp_callSi (W.runV (C := RX1) (As := [.int p1]) (rest := []) ⟨hx, hb, hml, hown, hts⟩ (cX1_rulingOver_ok l D cI cII (q 3) u.2.2.1 p1 _ h) (cwV 1 hts gX5_dutyAt_X1_rulingOver rfl rfl rfl (by decide +kernel) ⟨Nat.le_of_ble_eq_true rfl, Nat.le_of_ble_eq_true rfl⟩) (z_preV hK (z_XH (cII := cII) (u := u) hP) rfl rfl) rfl rfl hl.1 rfl (lv_room (Nat.le_of_ble_eq_true rfl)) dX5_dutyAt_5 ⟨Nat.le_of_ble_eq_true rfl, Nat.le_of_ble_eq_true rfl⟩) (fun r1 h => ?_)
  refine lv_istore (lv' := [(5, .int r1), (0, .ref (q 0 0)), (1, .int p1), (2, .int p2), (3, .int p3), (4, .int p4)]) hx hb dX5_dutyAt_8 hl (by decide) rfl (fun ls hl => ?_)
  refine lv_aload_n hx hb dX5_dutyAt_10 rfl (lv_at hl 1 rfl) ?_
  refine va_get (D := D) (ci := 5) (v := .ref (q 2 0)) (C := RX5) (T := TX5) (N := 8) hx hb hts inX5_dutyAt_5 hown hK hP 0 rfl rfl 1 (by decide) (hts (.fieldLink RX5 19 "CornLaws" "scales" "LCornLaws$Scales;") wdX5_dutyAt_1) (fun _ h9 => h9) rfl dX5_dutyAt_11 ?_
  refine lv_iload hx hb dX5_dutyAt_14 (lv_at hl 5 rfl) ?_
  refine lv_iload hx hb dX5_dutyAt_16 (lv_at hl 0 rfl) ?_
  refine vp_callSi (W.runV (C := RX4) (As := [.int p4, .int r1]) (rest := []) ⟨hx, hb, hml, hown, hts⟩ (cX4_isOf_ok l D cI cII (q 2) u.2.1 p4 r1 _ h) (cwV 2 hts gX5_dutyAt_X4_isOf rfl rfl rfl (by decide +kernel) ⟨Nat.le_of_ble_eq_true rfl, Nat.le_of_ble_eq_true rfl⟩) (z_preV hK (z_XS (cII := cII) (u := u) hP) rfl rfl) rfl rfl hl.1 rfl (lv_room (Nat.le_of_ble_eq_true rfl)) dX5_dutyAt_18 ⟨Nat.le_of_ble_eq_true rfl, Nat.le_of_ble_eq_true rfl⟩) (fun r2 h => ?_)
  refine lv_if_eq (tgt := 29) hx hb dX5_dutyAt_21 (by decide) (fun c3 => ?_) (fun c3 => ?_)
  · replace h := h.1 c3
    refine lv_aload_n hx hb dX5_dutyAt_29 rfl (lv_at hl 1 rfl) ?_
    refine va_get (D := D) (ci := 5) (v := .ref (q 2 0)) (C := RX5) (T := TX5) (N := 8) hx hb hts inX5_dutyAt_5 hown hK hP 0 rfl rfl 1 (by decide) (hts (.fieldLink RX5 19 "CornLaws" "scales" "LCornLaws$Scales;") wdX5_dutyAt_1) (fun _ h9 => h9) rfl dX5_dutyAt_30 ?_
    refine lv_iload hx hb dX5_dutyAt_33 (lv_at hl 0 rfl) ?_
    refine lv_iload_n hx hb dX5_dutyAt_35 rfl (lv_at hl 3 rfl) ?_
    refine vp_callSi (W.runV (C := RX4) (As := [.int r1, .int p2]) (rest := []) ⟨hx, hb, hml, hown, hts⟩ (cX4_inForce_ok l D cI cII (q 2) u.2.1 r1 p2 _ h) (cwV 2 hts gX5_dutyAt_X4_inForce rfl rfl rfl (by decide +kernel) ⟨Nat.le_of_ble_eq_true rfl, Nat.le_of_ble_eq_true rfl⟩) (z_preV hK (z_XS (cII := cII) (u := u) hP) rfl rfl) rfl rfl hl.1 rfl (lv_room (Nat.le_of_ble_eq_true rfl)) dX5_dutyAt_36 ⟨Nat.le_of_ble_eq_true rfl, Nat.le_of_ble_eq_true rfl⟩) (fun r4 h => ?_)
    refine lv_istore (lv' := [(6, .int r4), (5, .int r1), (0, .ref (q 0 0)), (1, .int p1), (2, .int p2), (3, .int p3), (4, .int p4)]) hx hb dX5_dutyAt_39 hl (by decide) rfl (fun ls hl => ?_)
    refine lv_aload_n hx hb dX5_dutyAt_41 rfl (lv_at hl 2 rfl) ?_
    refine va_get (D := D) (ci := 5) (v := .ref (q 1 0)) (C := RX5) (T := TX5) (N := 8) hx hb hts inX5_dutyAt_5 hown hK hP 0 rfl rfl 0 (by decide) (hts (.fieldLink RX5 12 "CornLaws" "returns" "LCornLaws$Returns;") wdX5_dutyAt_2) (fun _ h9 => h9) rfl dX5_dutyAt_42 ?_
    refine lv_iload hx hb dX5_dutyAt_45 (lv_at hl 1 rfl) ?_
    refine lv_iload_n hx hb dX5_dutyAt_47 rfl (lv_at hl 4 rfl) ?_
    refine lv_iload_n hx hb dX5_dutyAt_48 rfl (lv_at hl 5 rfl) ?_
    refine vp_callSi (W.runV (C := RX3) (As := [.int r1, .int p2, .int p3]) (rest := []) ⟨hx, hb, hml, hown, hts⟩ (cX3_averageKnown_ok l D cI cII (q 1) u.1 r1 p2 p3 _ h) (cwV 3 hts gX5_dutyAt_X3_averageKnown rfl rfl rfl (by decide +kernel) ⟨Nat.le_of_ble_eq_true rfl, Nat.le_of_ble_eq_true rfl⟩) (z_preV hK (z_XR (cII := cII) (u := u) hP) rfl rfl) rfl rfl hl.1 rfl (lv_room (Nat.le_of_ble_eq_true rfl)) dX5_dutyAt_49 ⟨Nat.le_of_ble_eq_true rfl, Nat.le_of_ble_eq_true rfl⟩) (fun r5 h => ?_)
    refine lv_istore (lv' := [(7, .int r5), (6, .int r4), (5, .int r1), (0, .ref (q 0 0)), (1, .int p1), (2, .int p2), (3, .int p3), (4, .int p4)]) hx hb dX5_dutyAt_52 hl (by decide) rfl (fun ls hl => ?_)
    refine lv_aload_n hx hb dX5_dutyAt_54 rfl (lv_at hl 3 rfl) ?_
    refine va_get (D := D) (ci := 5) (v := .ref (q 3 0)) (C := RX5) (T := TX5) (N := 8) hx hb hts inX5_dutyAt_5 hown hK hP 0 rfl rfl 2 (by decide) (hts (.fieldLink RX5 26 "CornLaws" "hangings" "LCornLaws$Hangings;") wdX5_dutyAt_0) (fun _ h9 => h9) rfl dX5_dutyAt_55 ?_
    refine lv_iload_n hx hb dX5_dutyAt_58 rfl (lv_at hl 4 rfl) ?_
    refine lv_aload_n hx hb dX5_dutyAt_59 rfl (lv_at hl 3 rfl) ?_
    refine va_get (D := D) (ci := 5) (v := .ref (q 2 0)) (C := RX5) (T := TX5) (N := 8) hx hb hts inX5_dutyAt_5 hown hK hP 0 rfl rfl 1 (by decide) (hts (.fieldLink RX5 19 "CornLaws" "scales" "LCornLaws$Scales;") wdX5_dutyAt_1) (fun _ h9 => h9) rfl dX5_dutyAt_60 ?_
    refine lv_iload hx hb dX5_dutyAt_63 (lv_at hl 1 rfl) ?_
    refine lv_iload hx hb dX5_dutyAt_65 (lv_at hl 0 rfl) ?_
    refine vp_callSi (W.runV (C := RX4) (As := [.int r4, .int r5]) (rest := [.int p1, .ref (q 3 0)]) ⟨hx, hb, hml, hown, hts⟩ (cX4_dutyBy_ok l D cI cII (q 2) u.2.1 r4 r5 _ h) (cwV 2 hts gX5_dutyAt_X4_dutyBy rfl rfl rfl (by decide +kernel) ⟨Nat.le_of_ble_eq_true rfl, Nat.le_of_ble_eq_true rfl⟩) (z_preV hK (z_XS (cII := cII) (u := u) hP) rfl rfl) rfl rfl hl.1 rfl (lv_room (Nat.le_of_ble_eq_true rfl)) dX5_dutyAt_67 ⟨Nat.le_of_ble_eq_true rfl, Nat.le_of_ble_eq_true rfl⟩) (fun r6 h => ?_)
    refine vp_callSi (W.runV (C := RX1) (As := [.int p1, .int r6]) (rest := []) ⟨hx, hb, hml, hown, hts⟩ (cX1_inProportion_ok l D cI cII (q 3) u.2.2.1 p1 r6 _ h) (cwV 2 hts gX5_dutyAt_X1_inProportion rfl rfl rfl (by decide +kernel) ⟨Nat.le_of_ble_eq_true rfl, Nat.le_of_ble_eq_true rfl⟩) (z_preV hK (z_XH (cII := cII) (u := u) hP) rfl rfl) rfl rfl hl.1 rfl (lv_room (Nat.le_of_ble_eq_true rfl)) dX5_dutyAt_70 ⟨Nat.le_of_ble_eq_true rfl, Nat.le_of_ble_eq_true rfl⟩) (fun r7 h => ?_)
    exact W.iret (v := r7) hx hb hr (fun t ht hW => ⟨r7, rfl, h, ht⟩) (fun _ h9 => by cases h9) dX5_dutyAt_73
  · replace h := h.2 c3
    refine lv_iload hx hb dX5_dutyAt_24 (lv_at hl 5 rfl) ?_
    refine lv_goto (tgt := 39) hx hb dX5_dutyAt_26 (by decide) ?_
    refine lv_istore (lv' := [(6, .int p4), (5, .int r1), (0, .ref (q 0 0)), (1, .int p1), (2, .int p2), (3, .int p3), (4, .int p4)]) hx hb dX5_dutyAt_39 hl (by decide) rfl (fun ls hl => ?_)
    refine lv_aload_n hx hb dX5_dutyAt_41 rfl (lv_at hl 2 rfl) ?_
    refine va_get (D := D) (ci := 5) (v := .ref (q 1 0)) (C := RX5) (T := TX5) (N := 8) hx hb hts inX5_dutyAt_5 hown hK hP 0 rfl rfl 0 (by decide) (hts (.fieldLink RX5 12 "CornLaws" "returns" "LCornLaws$Returns;") wdX5_dutyAt_2) (fun _ h9 => h9) rfl dX5_dutyAt_42 ?_
    refine lv_iload hx hb dX5_dutyAt_45 (lv_at hl 1 rfl) ?_
    refine lv_iload_n hx hb dX5_dutyAt_47 rfl (lv_at hl 4 rfl) ?_
    refine lv_iload_n hx hb dX5_dutyAt_48 rfl (lv_at hl 5 rfl) ?_
    refine vp_callSi (W.runV (C := RX3) (As := [.int r1, .int p2, .int p3]) (rest := []) ⟨hx, hb, hml, hown, hts⟩ (cX3_averageKnown_ok l D cI cII (q 1) u.1 r1 p2 p3 _ h) (cwV 3 hts gX5_dutyAt_X3_averageKnown rfl rfl rfl (by decide +kernel) ⟨Nat.le_of_ble_eq_true rfl, Nat.le_of_ble_eq_true rfl⟩) (z_preV hK (z_XR (cII := cII) (u := u) hP) rfl rfl) rfl rfl hl.1 rfl (lv_room (Nat.le_of_ble_eq_true rfl)) dX5_dutyAt_49 ⟨Nat.le_of_ble_eq_true rfl, Nat.le_of_ble_eq_true rfl⟩) (fun r8 h => ?_)
    refine lv_istore (lv' := [(7, .int r8), (6, .int p4), (5, .int r1), (0, .ref (q 0 0)), (1, .int p1), (2, .int p2), (3, .int p3), (4, .int p4)]) hx hb dX5_dutyAt_52 hl (by decide) rfl (fun ls hl => ?_)
    refine lv_aload_n hx hb dX5_dutyAt_54 rfl (lv_at hl 3 rfl) ?_
    refine va_get (D := D) (ci := 5) (v := .ref (q 3 0)) (C := RX5) (T := TX5) (N := 8) hx hb hts inX5_dutyAt_5 hown hK hP 0 rfl rfl 2 (by decide) (hts (.fieldLink RX5 26 "CornLaws" "hangings" "LCornLaws$Hangings;") wdX5_dutyAt_0) (fun _ h9 => h9) rfl dX5_dutyAt_55 ?_
    refine lv_iload_n hx hb dX5_dutyAt_58 rfl (lv_at hl 4 rfl) ?_
    refine lv_aload_n hx hb dX5_dutyAt_59 rfl (lv_at hl 3 rfl) ?_
    refine va_get (D := D) (ci := 5) (v := .ref (q 2 0)) (C := RX5) (T := TX5) (N := 8) hx hb hts inX5_dutyAt_5 hown hK hP 0 rfl rfl 1 (by decide) (hts (.fieldLink RX5 19 "CornLaws" "scales" "LCornLaws$Scales;") wdX5_dutyAt_1) (fun _ h9 => h9) rfl dX5_dutyAt_60 ?_
    refine lv_iload hx hb dX5_dutyAt_63 (lv_at hl 1 rfl) ?_
    refine lv_iload hx hb dX5_dutyAt_65 (lv_at hl 0 rfl) ?_
    refine vp_callSi (W.runV (C := RX4) (As := [.int p4, .int r8]) (rest := [.int p1, .ref (q 3 0)]) ⟨hx, hb, hml, hown, hts⟩ (cX4_dutyBy_ok l D cI cII (q 2) u.2.1 p4 r8 _ h) (cwV 2 hts gX5_dutyAt_X4_dutyBy rfl rfl rfl (by decide +kernel) ⟨Nat.le_of_ble_eq_true rfl, Nat.le_of_ble_eq_true rfl⟩) (z_preV hK (z_XS (cII := cII) (u := u) hP) rfl rfl) rfl rfl hl.1 rfl (lv_room (Nat.le_of_ble_eq_true rfl)) dX5_dutyAt_67 ⟨Nat.le_of_ble_eq_true rfl, Nat.le_of_ble_eq_true rfl⟩) (fun r9 h => ?_)
    refine vp_callSi (W.runV (C := RX1) (As := [.int p1, .int r9]) (rest := []) ⟨hx, hb, hml, hown, hts⟩ (cX1_inProportion_ok l D cI cII (q 3) u.2.2.1 p1 r9 _ h) (cwV 2 hts gX5_dutyAt_X1_inProportion rfl rfl rfl (by decide +kernel) ⟨Nat.le_of_ble_eq_true rfl, Nat.le_of_ble_eq_true rfl⟩) (z_preV hK (z_XH (cII := cII) (u := u) hP) rfl rfl) rfl rfl hl.1 rfl (lv_room (Nat.le_of_ble_eq_true rfl)) dX5_dutyAt_70 ⟨Nat.le_of_ble_eq_true rfl, Nat.le_of_ble_eq_true rfl⟩) (fun r10 h => ?_)
    exact W.iret (v := r10) hx hb hr (fun t ht hW => ⟨r10, rfl, h, ht⟩) (fun _ h9 => by cases h9) dX5_dutyAt_73

/-! X5_chestAnew -/
set_option maxRecDepth 20000 in
theorem wdX5_chestAnew_0 : Cond.fieldLink RX5 40 "CornLaws" "lettings" "LCornLaws$Lettings;" ∈ wsX5_chestAnew := by decide +kernel
set_option maxRecDepth 20000 in
theorem wdX5_chestAnew_1 : Cond.fieldLink RX5 154 "CornLaws$Lettings" "size" "I" ∈ wsX5_chestAnew := by decide +kernel
set_option maxRecDepth 20000 in
theorem wdX5_chestAnew_2 : Cond.fieldLink RX5 203 "CornLaws$Lettings" "grain" "[I" ∈ wsX5_chestAnew := by decide +kernel
set_option maxRecDepth 20000 in
theorem wdX5_chestAnew_3 : Cond.fieldLink RX5 204 "CornLaws$Lettings" "week" "[I" ∈ wsX5_chestAnew := by decide +kernel
set_option maxRecDepth 20000 in
theorem wdX5_chestAnew_4 : Cond.fieldLink RX5 205 "CornLaws$Lettings" "quarters" "[I" ∈ wsX5_chestAnew := by decide +kernel
set_option maxRecDepth 20000 in
theorem inX5_chestAnew_5 : ∀ w ∈ wsX50, w ∈ wsX5_chestAnew := by decide +kernel
set_option maxRecDepth 20000 in
theorem inX5_chestAnew_2 : ∀ w ∈ wsX20, w ∈ wsX5_chestAnew := by decide +kernel
set_option maxHeartbeats 4000000 in
set_option maxRecDepth 100000 in
theorem cX5_chestAnew_ok (l : Launch) (D : va_G) (cI cII : ClassId) (q : Nat → Nat → Nat) (u : XS) (p1 : Int32) (p2 : Int32) (post : Int64 → Prop) (h : wpX5_chestAnew u p1 p2 post) : Met l yX5_chestAnew wsX5_chestAnew ({ frames := 4, cells := 0, slots := 0, locals := 103 } : Room) (zPc [.ref (q 0 0), .int p1, .int p2] D cI cII (wX cI cII q u)) (vp_Sl post) 0 0 (fun _ => False) := by
  refine Met.ofW (cc := cX5_chestAnew) (maxL := 7) (ret := (some .long)) (by decide) rfl ?_
  intro p e s m args below meth c s₁ B hml hv
  obtain ⟨rfl, hP, hK⟩ := hv
  have hx := B.exec
  have hb := B.bytes
  have hr := B.returns
  have hts := atoms_spec (ws := wsX5_chestAnew) B.pre
  have hown : s.vm.findClass RX5 = some m.cls := findClass_of_methodNamed B.named
  have hlocks := B.notSynchronized
  have hl := lv_entry ([.ref (q 0 0), .int p1, .int p2]) (n := 7) (Nat.le_of_ble_eq_true rfl)
  rw [lg_entry_eq]
  generalize (lg_sl ([.ref (q 0 0), .int p1, .int p2]) ++ List.replicate (7 - (lg_sl ([.ref (q 0 0), .int p1, .int p2])).length) Slot.unset).toArray = ls at hl ⊢
  have hl : lv_has ls 7 [(0, .ref (q 0 0)), (1, .int p1), (2, .int p2)] := hl
  unfold wpX5_chestAnew at h
  refine lv_lconst (v := 0) hx hb dX5_chestAnew_0 (by decide) ?_
  refine lv_lstore_n (lv' := [(3, .long 0), (0, .ref (q 0 0)), (1, .int p1), (2, .int p2)]) hx hb dX5_chestAnew_1 rfl hl (by decide) rfl (fun ls hl => ?_)
  refine lv_iconst (v := 0) hx hb dX5_chestAnew_2 (by decide) ?_
  refine lv_istore (lv' := [(5, .int 0), (3, .long 0), (0, .ref (q 0 0)), (1, .int p1), (2, .int p2)]) hx hb dX5_chestAnew_3 hl (by decide) rfl (fun ls hl => ?_)
  have hL5 : ∀ (K5 : Int32 → Int64 → Prop) (hX : ∀ (x5_5 : Int32) (x3_5 : Int64), K5 x5_5 x3_5 → ∀ ls : Array Slot, lv_has ls 7 [(5, .int x5_5), (3, .long x3_5), (0, .ref (q 0 0)), (1, .int p1), (2, .int p2)] → W p l e (headSpec wsX5_chestAnew ({ frames := 4, cells := 0, slots := 0, locals := 103 } : Room)).room s m ([.ref (q 0 0), .int p1, .int p2] : List Value).toArray below meth c s.heap [] 0 0 (MQ below (vp_Sl post) ([.ref (q 0 0), .int p1, .int p2] : List Value).toArray s 0 0 (fun _ => False)) (F0 m 69 ls [])) (n : Nat) (x5_5 : Int32) (x3_5 : Int64), wpX5_chestAnew_L5 u p1 p2 K5 n x5_5 x3_5 → ∀ ls : Array Slot, lv_has ls 7 [(5, .int x5_5), (3, .long x3_5), (0, .ref (q 0 0)), (1, .int p1), (2, .int p2)] → W p l e (headSpec wsX5_chestAnew ({ frames := 4, cells := 0, slots := 0, locals := 103 } : Room)).room s m ([.ref (q 0 0), .int p1, .int p2] : List Value).toArray below meth c s.heap [] 0 0 (MQ below (vp_Sl post) ([.ref (q 0 0), .int p1, .int p2] : List Value).toArray s 0 0 (fun _ => False)) (F0 m 5 ls []) := by
    intro K5 hX n
    induction n with
    | zero => intro x5_5 x3_5 h; exact False.elim h
    | succ n ih =>
      intro x5_5 x3_5 h ls hl
      rw [wpX5_chestAnew_L5] at h
      refine lv_iload hx hb dX5_chestAnew_5 (lv_at hl 0 rfl) ?_
      refine lv_aload_n hx hb dX5_chestAnew_7 rfl (lv_at hl 2 rfl) ?_
      refine va_get (D := D) (ci := 5) (v := .ref (q 5 0)) (C := RX5) (T := TX5) (N := 8) hx hb hts inX5_chestAnew_5 hown hK hP 0 rfl rfl 4 (by decide) (hts (.fieldLink RX5 40 "CornLaws" "lettings" "LCornLaws$Lettings;") wdX5_chestAnew_0) (fun _ h9 => h9) rfl dX5_chestAnew_8 ?_
      refine va_get (D := D) (ci := 2) (v := .int (u.2.2.2.2.1 9 0)) (C := RX2) (T := TX2) (N := 4) hx hb hts inX5_chestAnew_2 hown hK hP 43 rfl rfl 3 (by decide) (hts (.fieldLink RX5 154 "CornLaws$Lettings" "size" "I") wdX5_chestAnew_1) (fun _ h9 => h9) rfl dX5_chestAnew_11 ?_
      refine lv_icmp_ge (tgt := 69) hx hb dX5_chestAnew_14 (by decide) (fun c1 => ?_) (fun c1 => ?_)
      · replace h := h.1 c1
        exact hX x5_5 x3_5 h ls (lv_sub hl [0, 1, 2, 3, 4] rfl)
      · replace h := h.2 c1
        refine lv_aload_n hx hb dX5_chestAnew_17 rfl (lv_at hl 2 rfl) ?_
        refine lv_aload_n hx hb dX5_chestAnew_18 rfl (lv_at hl 2 rfl) ?_
        refine va_get (D := D) (ci := 5) (v := .ref (q 5 0)) (C := RX5) (T := TX5) (N := 8) hx hb hts inX5_chestAnew_5 hown hK hP 0 rfl rfl 4 (by decide) (hts (.fieldLink RX5 40 "CornLaws" "lettings" "LCornLaws$Lettings;") wdX5_chestAnew_0) (fun _ h9 => h9) rfl dX5_chestAnew_19 ?_
        refine va_get (D := D) (ci := 2) (v := .ref (q 5 1)) (C := RX2) (T := TX2) (N := 4) hx hb hts inX5_chestAnew_2 hown hK hP 43 rfl rfl 0 (by decide) (hts (.fieldLink RX5 203 "CornLaws$Lettings" "grain" "[I") wdX5_chestAnew_2) (fun _ h9 => h9) rfl dX5_chestAnew_22 ?_
        refine lv_iload hx hb dX5_chestAnew_25 (lv_at hl 0 rfl) ?_
        obtain ⟨hi2, h⟩ := h
        refine va_iald (f := u.2.2.2.2.1 0) hx hb hK hP 44 0 rfl rfl hi2 dX5_chestAnew_27 ?_
        refine lv_aload_n hx hb dX5_chestAnew_28 rfl (lv_at hl 2 rfl) ?_
        refine va_get (D := D) (ci := 5) (v := .ref (q 5 0)) (C := RX5) (T := TX5) (N := 8) hx hb hts inX5_chestAnew_5 hown hK hP 0 rfl rfl 4 (by decide) (hts (.fieldLink RX5 40 "CornLaws" "lettings" "LCornLaws$Lettings;") wdX5_chestAnew_0) (fun _ h9 => h9) rfl dX5_chestAnew_29 ?_
        refine va_get (D := D) (ci := 2) (v := .ref (q 5 3)) (C := RX2) (T := TX2) (N := 4) hx hb hts inX5_chestAnew_2 hown hK hP 43 rfl rfl 2 (by decide) (hts (.fieldLink RX5 204 "CornLaws$Lettings" "week" "[I") wdX5_chestAnew_3) (fun _ h9 => h9) rfl dX5_chestAnew_32 ?_
        refine lv_iload hx hb dX5_chestAnew_35 (lv_at hl 0 rfl) ?_
        refine va_iald (f := u.2.2.2.2.1 2) hx hb hK hP 46 0 rfl rfl hi2 dX5_chestAnew_37 ?_
        refine lv_iload_n hx hb dX5_chestAnew_38 rfl (lv_at hl 3 rfl) ?_
        refine lv_iload_n hx hb dX5_chestAnew_39 rfl (lv_at hl 4 rfl) ?_
        refine vp_callSi (W.runV (C := RX5) (As := [.int (u.2.2.2.2.1 0 x5_5.toNatClampNeg), .int (u.2.2.2.2.1 2 x5_5.toNatClampNeg), .int p1, .int p2]) (rest := []) ⟨hx, hb, hml, hown, hts⟩ (cX5_dutyAt_ok l D cI cII q u (u.2.2.2.2.1 0 x5_5.toNatClampNeg) (u.2.2.2.2.1 2 x5_5.toNatClampNeg) p1 p2 _ h) (cwV 4 hts gX5_chestAnew_X5_dutyAt rfl rfl rfl (by decide +kernel) ⟨Nat.le_of_ble_eq_true rfl, Nat.le_of_ble_eq_true rfl⟩) (z_preV hK hP rfl rfl) rfl rfl hl.1 rfl (lv_room (Nat.le_of_ble_eq_true rfl)) dX5_chestAnew_40 ⟨Nat.le_of_ble_eq_true rfl, Nat.le_of_ble_eq_true rfl⟩) (fun r3 h => ?_)
        refine lv_istore (lv' := [(6, .int r3), (5, .int x5_5), (3, .long x3_5), (0, .ref (q 0 0)), (1, .int p1), (2, .int p2)]) hx hb dX5_chestAnew_43 hl (by decide) rfl (fun ls hl => ?_)
        refine lv_lload_n hx hb dX5_chestAnew_45 rfl (lv_at hl 2 rfl) ?_
        refine lv_aload_n hx hb dX5_chestAnew_46 rfl (lv_at hl 3 rfl) ?_
        refine va_get (D := D) (ci := 5) (v := .ref (q 5 0)) (C := RX5) (T := TX5) (N := 8) hx hb hts inX5_chestAnew_5 hown hK hP 0 rfl rfl 4 (by decide) (hts (.fieldLink RX5 40 "CornLaws" "lettings" "LCornLaws$Lettings;") wdX5_chestAnew_0) (fun _ h9 => h9) rfl dX5_chestAnew_47 ?_
        refine va_get (D := D) (ci := 2) (v := .ref (q 5 2)) (C := RX2) (T := TX2) (N := 4) hx hb hts inX5_chestAnew_2 hown hK hP 43 rfl rfl 1 (by decide) (hts (.fieldLink RX5 205 "CornLaws$Lettings" "quarters" "[I") wdX5_chestAnew_4) (fun _ h9 => h9) rfl dX5_chestAnew_50 ?_
        refine lv_iload hx hb dX5_chestAnew_53 (lv_at hl 1 rfl) ?_
        refine va_iald (f := u.2.2.2.2.1 1) hx hb hK hP 45 0 rfl rfl hi2 dX5_chestAnew_55 ?_
        refine lv_i2l (v := (u.2.2.2.2.1 1 x5_5.toNatClampNeg).toInt64) hx hb dX5_chestAnew_56 rfl ?_
        refine lv_iload hx hb dX5_chestAnew_57 (lv_at hl 0 rfl) ?_
        refine lv_i2l (v := r3.toInt64) hx hb dX5_chestAnew_59 rfl ?_
        refine lv_lmul hx hb dX5_chestAnew_60 ?_
        refine lv_ladd hx hb dX5_chestAnew_61 ?_
        refine lv_lstore_n (lv' := [(3, .long (x3_5 + (((u.2.2.2.2.1 1 x5_5.toNatClampNeg).toInt64) * r3.toInt64))), (6, .int r3), (5, .int x5_5), (0, .ref (q 0 0)), (1, .int p1), (2, .int p2)]) hx hb dX5_chestAnew_62 rfl hl (by decide) rfl (fun ls hl => ?_)
        refine lv_iinc (v := (x5_5 + 1)) (lv' := [(5, .int (x5_5 + 1)), (3, .long (x3_5 + (((u.2.2.2.2.1 1 x5_5.toNatClampNeg).toInt64) * r3.toInt64))), (6, .int r3), (0, .ref (q 0 0)), (1, .int p1), (2, .int p2)]) hx hb dX5_chestAnew_63 hl (k := 2) rfl rfl (by decide) rfl (fun ls hl => ?_)
        refine lv_goto (tgt := 5) hx hb dX5_chestAnew_66 (by decide) ?_
        exact ih (x5_5 + 1) (x3_5 + (((u.2.2.2.2.1 1 x5_5.toNatClampNeg).toInt64) * r3.toInt64)) h ls (lv_sub hl [0, 1, 3, 4, 5] rfl)
  obtain ⟨n, h⟩ := h
  refine hL5 _ (fun x5_5 x3_5 h ls hl => ?_) n 0 0 h ls hl
  refine lv_lload_n hx hb dX5_chestAnew_69 rfl (lv_at hl 1 rfl) ?_
  exact W.lret (v := x3_5) hx hb hr (fun t ht hW => ⟨x3_5, rfl, h, ht⟩) (fun _ h9 => by cases h9) dX5_chestAnew_70

/-! X5_gainAt -/
set_option maxRecDepth 20000 in
theorem wdX5_gainAt_0 : Cond.fieldLink RX5 33 "CornLaws" "cargoes" "LCornLaws$Cargoes;" ∈ wsX5_gainAt := by decide +kernel
set_option maxRecDepth 20000 in
theorem wdX5_gainAt_1 : Cond.fieldLink RX5 157 "CornLaws$Cargoes" "grain" "[I" ∈ wsX5_gainAt := by decide +kernel
set_option maxRecDepth 20000 in
theorem wdX5_gainAt_2 : Cond.fieldLink RX5 48 "CornLaws" "now" "I" ∈ wsX5_gainAt := by decide +kernel
set_option maxRecDepth 20000 in
theorem wdX5_gainAt_3 : Cond.fieldLink RX5 52 "CornLaws" "spoilRate" "I" ∈ wsX5_gainAt := by decide +kernel
set_option maxRecDepth 20000 in
theorem inX5_gainAt_5 : ∀ w ∈ wsX50, w ∈ wsX5_gainAt := by decide +kernel
set_option maxRecDepth 20000 in
theorem inX5_gainAt_0 : ∀ w ∈ wsX00, w ∈ wsX5_gainAt := by decide +kernel
set_option maxHeartbeats 4000000 in
set_option maxRecDepth 100000 in
theorem cX5_gainAt_ok (l : Launch) (D : va_G) (cI cII : ClassId) (q : Nat → Nat → Nat) (u : XS) (p1 : Int32) (p2 : Int32) (p3 : Int32) (post : Int64 → Prop) (h : wpX5_gainAt u p1 p2 p3 post) : Met l yX5_gainAt wsX5_gainAt ({ frames := 4, cells := 0, slots := 0, locals := 103 } : Room) (zPc [.ref (q 0 0), .int p1, .int p2, .int p3] D cI cII (wX cI cII q u)) (vp_Sl post) 0 0 (fun _ => False) := by
  refine Met.ofW (cc := cX5_gainAt) (maxL := 6) (ret := (some .long)) (by decide) rfl ?_
  intro p e s m args below meth c s₁ B hml hv
  obtain ⟨rfl, hP, hK⟩ := hv
  have hx := B.exec
  have hb := B.bytes
  have hr := B.returns
  have hts := atoms_spec (ws := wsX5_gainAt) B.pre
  have hown : s.vm.findClass RX5 = some m.cls := findClass_of_methodNamed B.named
  have hlocks := B.notSynchronized
  have hl := lv_entry ([.ref (q 0 0), .int p1, .int p2, .int p3]) (n := 6) (Nat.le_of_ble_eq_true rfl)
  rw [lg_entry_eq]
  generalize (lg_sl ([.ref (q 0 0), .int p1, .int p2, .int p3]) ++ List.replicate (6 - (lg_sl ([.ref (q 0 0), .int p1, .int p2, .int p3])).length) Slot.unset).toArray = ls at hl ⊢
  have hl : lv_has ls 6 [(0, .ref (q 0 0)), (1, .int p1), (2, .int p2), (3, .int p3)] := hl
  unfold wpX5_gainAt at h
  refine lv_iload_n hx hb dX5_gainAt_0 rfl (lv_at hl 3 rfl) ?_
  refine lv_aload_n hx hb dX5_gainAt_1 rfl (lv_at hl 0 rfl) ?_
  refine lv_aload_n hx hb dX5_gainAt_2 rfl (lv_at hl 0 rfl) ?_
  refine va_get (D := D) (ci := 5) (v := .ref (q 4 0)) (C := RX5) (T := TX5) (N := 8) hx hb hts inX5_gainAt_5 hown hK hP 0 rfl rfl 3 (by decide) (hts (.fieldLink RX5 33 "CornLaws" "cargoes" "LCornLaws$Cargoes;") wdX5_gainAt_0) (fun _ h9 => h9) rfl dX5_gainAt_3 ?_
  refine va_get (D := D) (ci := 0) (v := .ref (q 4 1)) (C := RX0) (T := TX0) (N := 7) hx hb hts inX5_gainAt_0 hown hK hP 36 rfl rfl 0 (by decide) (hts (.fieldLink RX5 157 "CornLaws$Cargoes" "grain" "[I") wdX5_gainAt_1) (fun _ h9 => h9) rfl dX5_gainAt_6 ?_
  refine lv_iload_n hx hb dX5_gainAt_9 rfl (lv_at hl 1 rfl) ?_
  obtain ⟨hi1, h⟩ := h
  refine va_iald (f := u.2.2.2.1 0) hx hb hK hP 37 0 rfl rfl hi1 dX5_gainAt_10 ?_
  refine lv_iload_n hx hb dX5_gainAt_11 rfl (lv_at hl 2 rfl) ?_
  refine lv_iconst (v := (-1)) hx hb dX5_gainAt_12 (by decide) ?_
  refine lv_iconst (v := (-1)) hx hb dX5_gainAt_13 (by decide) ?_
  refine vp_callSi (W.runV (C := RX5) (As := [.int (u.2.2.2.1 0 p1.toNatClampNeg), .int p2, .int (-1), .int (-1)]) (rest := [.int p3]) ⟨hx, hb, hml, hown, hts⟩ (cX5_dutyAt_ok l D cI cII q u (u.2.2.2.1 0 p1.toNatClampNeg) p2 (-1) (-1) _ h) (cwV 4 hts gX5_gainAt_X5_dutyAt rfl rfl rfl (by decide +kernel) ⟨Nat.le_of_ble_eq_true rfl, Nat.le_of_ble_eq_true rfl⟩) (z_preV hK hP rfl rfl) rfl rfl hl.1 rfl (lv_room (Nat.le_of_ble_eq_true rfl)) dX5_gainAt_14 ⟨Nat.le_of_ble_eq_true rfl, Nat.le_of_ble_eq_true rfl⟩) (fun r2 h => ?_)
  refine lv_isub hx hb dX5_gainAt_17 ?_
  refine lv_i2l (v := (p3 - r2).toInt64) hx hb dX5_gainAt_18 rfl ?_
  refine lv_lstore (lv' := [(4, .long ((p3 - r2).toInt64)), (0, .ref (q 0 0)), (1, .int p1), (2, .int p2), (3, .int p3)]) hx hb dX5_gainAt_19 hl (by decide) rfl (fun ls hl => ?_)
  refine lv_lload hx hb dX5_gainAt_21 (lv_at hl 0 rfl) ?_
  refine lv_aload_n hx hb dX5_gainAt_23 rfl (lv_at hl 1 rfl) ?_
  refine va_get (D := D) (ci := 5) (v := .ref (q 4 0)) (C := RX5) (T := TX5) (N := 8) hx hb hts inX5_gainAt_5 hown hK hP 0 rfl rfl 3 (by decide) (hts (.fieldLink RX5 33 "CornLaws" "cargoes" "LCornLaws$Cargoes;") wdX5_gainAt_0) (fun _ h9 => h9) rfl dX5_gainAt_24 ?_
  refine lv_iload_n hx hb dX5_gainAt_27 rfl (lv_at hl 2 rfl) ?_
  refine lv_iload_n hx hb dX5_gainAt_28 rfl (lv_at hl 3 rfl) ?_
  refine lv_aload_n hx hb dX5_gainAt_29 rfl (lv_at hl 1 rfl) ?_
  refine va_get (D := D) (ci := 5) (v := .int (u.2.2.2.2.2.1 0)) (C := RX5) (T := TX5) (N := 8) hx hb hts inX5_gainAt_5 hown hK hP 0 rfl rfl 5 (by decide) (hts (.fieldLink RX5 48 "CornLaws" "now" "I") wdX5_gainAt_2) (fun _ h9 => h9) rfl dX5_gainAt_30 ?_
  refine lv_isub hx hb dX5_gainAt_33 ?_
  refine lv_aload_n hx hb dX5_gainAt_34 rfl (lv_at hl 1 rfl) ?_
  refine va_get (D := D) (ci := 5) (v := .int (u.2.2.2.2.2.1 1)) (C := RX5) (T := TX5) (N := 8) hx hb hts inX5_gainAt_5 hown hK hP 0 rfl rfl 6 (by decide) (hts (.fieldLink RX5 52 "CornLaws" "spoilRate" "I") wdX5_gainAt_3) (fun _ h9 => h9) rfl dX5_gainAt_35 ?_
  refine vp_callSi (W.runV (C := RX0) (As := [.int p1, .int (p2 - (u.2.2.2.2.2.1 0)), .int (u.2.2.2.2.2.1 1)]) (rest := [.long ((p3 - r2).toInt64)]) ⟨hx, hb, hml, hown, hts⟩ (cX0_leftAfter_ok l D cI cII (q 4) u.2.2.2.1 p1 (p2 - (u.2.2.2.2.2.1 0)) (u.2.2.2.2.2.1 1) _ h) (cwV 3 hts gX5_gainAt_X0_leftAfter rfl rfl rfl (by decide +kernel) ⟨Nat.le_of_ble_eq_true rfl, Nat.le_of_ble_eq_true rfl⟩) (z_preV hK (z_XC (cII := cII) (u := u) hP) rfl rfl) rfl rfl hl.1 rfl (lv_room (Nat.le_of_ble_eq_true rfl)) dX5_gainAt_38 ⟨Nat.le_of_ble_eq_true rfl, Nat.le_of_ble_eq_true rfl⟩) (fun r3 h => ?_)
  refine lv_i2l (v := r3.toInt64) hx hb dX5_gainAt_41 rfl ?_
  refine lv_lmul hx hb dX5_gainAt_42 ?_
  exact W.lret (v := (((p3 - r2).toInt64) * r3.toInt64)) hx hb hr (fun t ht hW => ⟨(((p3 - r2).toInt64) * r3.toInt64), rfl, h, ht⟩) (fun _ h9 => by cases h9) dX5_gainAt_43

/-! X5_weeks -/
set_option maxRecDepth 20000 in
theorem wdX5_weeks_0 : Cond.fieldLink RX5 48 "CornLaws" "now" "I" ∈ wsX5_weeks := by decide +kernel
set_option maxRecDepth 20000 in
theorem wdX5_weeks_1 : Cond.fieldLink RX5 33 "CornLaws" "cargoes" "LCornLaws$Cargoes;" ∈ wsX5_weeks := by decide +kernel
set_option maxRecDepth 20000 in
theorem wdX5_weeks_2 : Cond.fieldLink RX5 52 "CornLaws" "spoilRate" "I" ∈ wsX5_weeks := by decide +kernel
set_option maxRecDepth 20000 in
theorem inX5_weeks_5 : ∀ w ∈ wsX50, w ∈ wsX5_weeks := by decide +kernel
set_option maxHeartbeats 4000000 in
set_option maxRecDepth 100000 in
theorem cX5_weeks_ok (l : Launch) (D : va_G) (cI cII : ClassId) (q : Nat → Nat → Nat) (u : XS) (p1 : Int32) (post : Int32 → XS → Prop) (h : wpX5_weeks u p1 post) : Met l yX5_weeks wsX5_weeks ({ frames := 2, cells := 0, slots := 0, locals := 44 } : Room) (zPm [.ref (q 0 0), .int p1] D cI cII (wX cI cII q u)) (va_Qi post (fun (z : XS) (t : State) => va_P D vwCl (wX cI cII q z) t.heap) (z_in (wX cI cII q u))) 0 0 (z_in (wX cI cII q u)) := by
  refine Met.ofW (cc := cX5_weeks) (maxL := 3) (ret := (some .int)) (by decide) rfl ?_
  intro p e s m args below meth c s₁ B hml hv
  obtain ⟨rfl, hP, hK, hD0⟩ := hv
  have hx := B.exec
  have hb := B.bytes
  have hr := B.returns
  have hts := atoms_spec (ws := wsX5_weeks) B.pre
  have hown : s.vm.findClass RX5 = some m.cls := findClass_of_methodNamed B.named
  have hlocks := B.notSynchronized
  have hD := z_Dself hD0
  generalize hAe : z_in (wX cI cII q u) = A at hD ⊢
  have hS : va_S A s.heap s.heap [] := va_S.rf
  have hl := lv_entry ([.ref (q 0 0), .int p1]) (n := 3) (Nat.le_of_ble_eq_true rfl)
  rw [lg_entry_eq]
  generalize (lg_sl ([.ref (q 0 0), .int p1]) ++ List.replicate (3 - (lg_sl ([.ref (q 0 0), .int p1])).length) Slot.unset).toArray = ls at hl ⊢
  have hl : lv_has ls 3 [(0, .ref (q 0 0)), (1, .int p1)] := hl
  unfold wpX5_weeks at h
  refine lv_iload_n hx hb dX5_weeks_0 rfl (lv_at hl 1 rfl) ?_
  refine lv_iconst (v := 1) hx hb dX5_weeks_1 (by decide) ?_
  refine lv_bipush (v := 20) hx hb dX5_weeks_2 (by decide) ?_
  refine vp_callSi (W.runS (As := [.int p1, .int 1, .int 20]) (rest := []) ⟨hx, hb, hml, hown, hts⟩ (cX5_isOutside_ok l p1 1 20 _ h) (va_cwS 3 hts gX5_weeks_X5_isOutside rfl rfl rfl (by decide +kernel) ⟨Nat.le_of_ble_eq_true rfl, Nat.le_of_ble_eq_true rfl⟩) z_preS rfl rfl hl.1 rfl (lv_room (Nat.le_of_ble_eq_true rfl)) dX5_weeks_4 ⟨Nat.le_of_ble_eq_true rfl, Nat.le_of_ble_eq_true rfl⟩) (fun r1 h => ?_)
  refine lv_if_ne (tgt := 22) hx hb dX5_weeks_7 (by decide) (fun c2 => ?_) (fun c2 => ?_)
  · replace h := h.1 c2
    refine lv_bipush (v := (-2)) hx hb dX5_weeks_22 (by decide) ?_
    exact W.iret (v := (-2)) hx hb hr (fun t ht hW => ⟨⟨(-2), u, rfl, h, by show va_P D vwCl _ t.heap; rw [ht]; exact hP⟩, hS.F ht⟩) hS.2.2 dX5_weeks_24
  · replace h := h.2 c2
    refine lv_aload_n hx hb dX5_weeks_10 rfl (lv_at hl 0 rfl) ?_
    refine va_get (D := D) (ci := 5) (v := .int (u.2.2.2.2.2.1 0)) (C := RX5) (T := TX5) (N := 8) hx hb hts inX5_weeks_5 hown hK hP 0 rfl rfl 5 (by decide) (hts (.fieldLink RX5 48 "CornLaws" "now" "I") wdX5_weeks_0) (fun _ h9 => h9) rfl dX5_weeks_11 ?_
    refine lv_iload_n hx hb dX5_weeks_14 rfl (lv_at hl 1 rfl) ?_
    refine lv_iadd hx hb dX5_weeks_15 ?_
    refine lv_sipush (v := 200) hx hb dX5_weeks_16 (by decide) ?_
    refine lv_icmp_le (tgt := 25) hx hb dX5_weeks_19 (by decide) (fun c3 => ?_) (fun c3 => ?_)
    · replace h := h.1 c3
      refine lv_iconst (v := 0) hx hb dX5_weeks_25 (by decide) ?_
      refine lv_istore_n (lv' := [(2, .int 0), (0, .ref (q 0 0)), (1, .int p1)]) hx hb dX5_weeks_26 rfl hl (by decide) rfl (fun ls hl => ?_)
      have hL27 : ∀ (K27 : Int32 → XS → Prop) (hX : ∀ (x2_27 : Int32) (u_27 : XS) (H : Heap) (locs : List Loc), K27 x2_27 u_27 → va_P D vwCl (wX cI cII q u_27) H → va_D A (wX cI cII q u_27) → va_S A s.heap H locs → ∀ ls : Array Slot, lv_has ls 3 [(2, .int x2_27), (0, .ref (q 0 0)), (1, .int p1)] → W p l e (headSpec wsX5_weeks ({ frames := 2, cells := 0, slots := 0, locals := 44 } : Room)).room s m ([.ref (q 0 0), .int p1] : List Value).toArray below meth c H locs 0 0 (MQ below (va_Qi post (fun (z : XS) (t : State) => va_P D vwCl (wX cI cII q z) t.heap) A) ([.ref (q 0 0), .int p1] : List Value).toArray s 0 0 A) (F0 m 59 ls [])) (n : Nat) (x2_27 : Int32) (u_27 : XS) (H : Heap) (locs : List Loc), wpX5_weeks_L27 p1 K27 n x2_27 u_27 → va_P D vwCl (wX cI cII q u_27) H → va_D A (wX cI cII q u_27) → va_S A s.heap H locs → ∀ ls : Array Slot, lv_has ls 3 [(2, .int x2_27), (0, .ref (q 0 0)), (1, .int p1)] → W p l e (headSpec wsX5_weeks ({ frames := 2, cells := 0, slots := 0, locals := 44 } : Room)).room s m ([.ref (q 0 0), .int p1] : List Value).toArray below meth c H locs 0 0 (MQ below (va_Qi post (fun (z : XS) (t : State) => va_P D vwCl (wX cI cII q z) t.heap) A) ([.ref (q 0 0), .int p1] : List Value).toArray s 0 0 A) (F0 m 27 ls []) := by
        intro K27 hX n
        induction n with
        | zero => intro x2_27 u_27 H locs h; exact False.elim h
        | succ n ih =>
          intro x2_27 u_27 H locs h hP hD hS ls hl
          rw [wpX5_weeks_L27] at h
          refine lv_iload_n hx hb dX5_weeks_27 rfl (lv_at hl 0 rfl) ?_
          refine lv_iload_n hx hb dX5_weeks_28 rfl (lv_at hl 2 rfl) ?_
          refine lv_icmp_ge (tgt := 59) hx hb dX5_weeks_29 (by decide) (fun c4 => ?_) (fun c4 => ?_)
          · replace h := h.1 c4
            exact hX x2_27 u_27 _ _ h hP hD hS ls (lv_sub hl [0, 1, 2] rfl)
          · replace h := h.2 c4
            refine lv_aload_n hx hb dX5_weeks_32 rfl (lv_at hl 1 rfl) ?_
            refine lv_dup hx hb dX5_weeks_33 rfl ?_
            refine va_get (D := D) (ci := 5) (v := .int (u_27.2.2.2.2.2.1 0)) (C := RX5) (T := TX5) (N := 8) hx hb hts inX5_weeks_5 hown hK hP 0 rfl rfl 5 (by decide) (hts (.fieldLink RX5 48 "CornLaws" "now" "I") wdX5_weeks_0) (fun _ h9 => h9) rfl dX5_weeks_34 ?_
            refine lv_iconst (v := 1) hx hb dX5_weeks_37 (by decide) ?_
            refine lv_iadd hx hb dX5_weeks_38 ?_
            refine va_put (D := D) (ci := 5) (v := .int ((u_27.2.2.2.2.2.1 0) + 1)) (ty := .int) (C := RX5) (T := TX5) (N := 8) hx hb hts inX5_weeks_5 tyX5 tyX5_ok nmX5 hown hK hP hD hS 0 rfl rfl 5 (by decide) (hts (.fieldLink RX5 48 "CornLaws" "now" "I") wdX5_weeks_0) (fun _ h9 => h9) rfl (by decide +kernel) rfl rfl (Nat.le_of_ble_eq_true rfl) dX5_weeks_39 (fun H locs hP hD hS => ?_)
            have hP : va_P D vwCl (wX cI cII q (u_27.1, u_27.2.1, u_27.2.2.1, u_27.2.2.2.1, u_27.2.2.2.2.1, (upd u_27.2.2.2.2.2.1 0 (((u_27.2.2.2.2.2.1 0) + 1))), u_27.2.2.2.2.2.2)) H := hP
            have hD : va_D A (wX cI cII q (u_27.1, u_27.2.1, u_27.2.2.1, u_27.2.2.2.1, u_27.2.2.2.2.1, (upd u_27.2.2.2.2.2.1 0 (((u_27.2.2.2.2.2.1 0) + 1))), u_27.2.2.2.2.2.2)) := hD
            refine lv_aload_n hx hb dX5_weeks_42 rfl (lv_at hl 1 rfl) ?_
            refine va_get (D := D) (ci := 5) (v := .ref (q 4 0)) (C := RX5) (T := TX5) (N := 8) hx hb hts inX5_weeks_5 hown hK hP 0 rfl rfl 3 (by decide) (hts (.fieldLink RX5 33 "CornLaws" "cargoes" "LCornLaws$Cargoes;") wdX5_weeks_1) (fun _ h9 => h9) rfl dX5_weeks_43 ?_
            refine lv_aload_n hx hb dX5_weeks_46 rfl (lv_at hl 1 rfl) ?_
            refine va_get (D := D) (ci := 5) (v := .int (u_27.2.2.2.2.2.1 1)) (C := RX5) (T := TX5) (N := 8) hx hb hts inX5_weeks_5 hown hK hP 0 rfl rfl 6 (by decide) (hts (.fieldLink RX5 52 "CornLaws" "spoilRate" "I") wdX5_weeks_2) (fun _ h9 => h9) rfl dX5_weeks_47 ?_
            refine va_callv (va_runV (C := RX0) (As := [.int (u_27.2.2.2.2.2.1 1)]) (rest := []) ⟨hx, hb, hml, hown, hts⟩ (cX0_spoilAll_ok l D cI cII (q 4) u_27.2.2.2.1 (u_27.2.2.2.2.2.1 1) _ h) (cwV 1 hts gX5_weeks_X0_spoilAll rfl rfl rfl (by decide +kernel) ⟨Nat.le_of_ble_eq_true rfl, Nat.le_of_ble_eq_true rfl⟩) (z_preVm hK (z_XC (cII := cII) (u := (u_27.1, u_27.2.1, u_27.2.2.1, u_27.2.2.2.1, u_27.2.2.2.2.1, (upd u_27.2.2.2.2.2.1 0 (((u_27.2.2.2.2.2.1 0) + 1))), u_27.2.2.2.2.2.2)) hP) (z_DXC (cII := cII) (u := (u_27.1, u_27.2.1, u_27.2.2.1, u_27.2.2.2.1, u_27.2.2.2.2.1, (upd u_27.2.2.2.2.2.1 0 (((u_27.2.2.2.2.2.1 0) + 1))), u_27.2.2.2.2.2.2)) hD) rfl rfl) rfl rfl hl.1 rfl (lv_room (Nat.le_of_ble_eq_true rfl)) dX5_weeks_50 ⟨Nat.le_of_ble_eq_true rfl, Nat.le_of_ble_eq_true rfl⟩) hS (fun x9 _ h9 => z_sub (z_DXC (cII := cII) (u := (u_27.1, u_27.2.1, u_27.2.2.1, u_27.2.2.2.1, u_27.2.2.2.2.1, (upd u_27.2.2.2.2.2.1 0 (((u_27.2.2.2.2.2.1 0) + 1))), u_27.2.2.2.2.2.2)) hD) x9 h9) (z_sub (z_DXC (cII := cII) (u := (u_27.1, u_27.2.1, u_27.2.2.1, u_27.2.2.2.1, u_27.2.2.2.2.1, (upd u_27.2.2.2.2.2.1 0 (((u_27.2.2.2.2.2.1 0) + 1))), u_27.2.2.2.2.2.2)) hD)) (fun a5 t H1 locs ht hvm h hB hz1 hk1 hS => ?_)
            have hB : va_P D vwCl (wC cI (q 4) a5) t.heap := hB
            rw [ht] at hB
            have hP := z_jC (u := (u_27.1, u_27.2.1, u_27.2.2.1, u_27.2.2.2.1, u_27.2.2.2.2.1, (upd u_27.2.2.2.2.2.1 0 (((u_27.2.2.2.2.2.1 0) + 1))), u_27.2.2.2.2.2.2)) hP hD hk1 hB
            generalize H1 = H at hP hS ⊢
            have hP : va_P D vwCl (wX cI cII q (u_27.1, u_27.2.1, u_27.2.2.1, a5, u_27.2.2.2.2.1, (upd u_27.2.2.2.2.2.1 0 (((u_27.2.2.2.2.2.1 0) + 1))), u_27.2.2.2.2.2.2)) H := hP
            have hD : va_D A (wX cI cII q (u_27.1, u_27.2.1, u_27.2.2.1, a5, u_27.2.2.2.2.1, (upd u_27.2.2.2.2.2.1 0 (((u_27.2.2.2.2.2.1 0) + 1))), u_27.2.2.2.2.2.2)) := z_Dmap hD rfl
            refine lv_iinc (v := (x2_27 + 1)) (lv' := [(2, .int (x2_27 + 1)), (0, .ref (q 0 0)), (1, .int p1)]) hx hb dX5_weeks_53 hl (k := 0) rfl rfl (by decide) rfl (fun ls hl => ?_)
            refine lv_goto (tgt := 27) hx hb dX5_weeks_56 (by decide) ?_
            exact ih (x2_27 + 1) (u_27.1, u_27.2.1, u_27.2.2.1, a5, u_27.2.2.2.2.1, (upd u_27.2.2.2.2.2.1 0 (((u_27.2.2.2.2.2.1 0) + 1))), u_27.2.2.2.2.2.2) _ _ h hP hD hS ls (lv_sub hl [0, 1, 2] rfl)
      obtain ⟨n, h⟩ := h
      refine hL27 _ (fun x2_27 u_27 H locs h hP hD hS ls hl => ?_) n 0 u s.heap [] h hP hD hS ls hl
      refine lv_aload_n hx hb dX5_weeks_59 rfl (lv_at hl 1 rfl) ?_
      refine va_get (D := D) (ci := 5) (v := .int (u_27.2.2.2.2.2.1 0)) (C := RX5) (T := TX5) (N := 8) hx hb hts inX5_weeks_5 hown hK hP 0 rfl rfl 5 (by decide) (hts (.fieldLink RX5 48 "CornLaws" "now" "I") wdX5_weeks_0) (fun _ h9 => h9) rfl dX5_weeks_60 ?_
      exact W.iret (v := (u_27.2.2.2.2.2.1 0)) hx hb hr (fun t ht hW => ⟨⟨(u_27.2.2.2.2.2.1 0), u_27, rfl, h, by show va_P D vwCl _ t.heap; rw [ht]; exact hP⟩, hS.F ht⟩) hS.2.2 dX5_weeks_63
    · replace h := h.2 c3
      refine lv_bipush (v := (-2)) hx hb dX5_weeks_22 (by decide) ?_
      exact W.iret (v := (-2)) hx hb hr (fun t ht hW => ⟨⟨(-2), u, rfl, h, by show va_P D vwCl _ t.heap; rw [ht]; exact hP⟩, hS.F ht⟩) hS.2.2 dX5_weeks_24

/-! X5_sale -/
set_option maxRecDepth 20000 in
theorem wdX5_sale_0 : Cond.fieldLink RX5 48 "CornLaws" "now" "I" ∈ wsX5_sale := by decide +kernel
set_option maxRecDepth 20000 in
theorem wdX5_sale_1 : Cond.fieldLink RX5 12 "CornLaws" "returns" "LCornLaws$Returns;" ∈ wsX5_sale := by decide +kernel
set_option maxRecDepth 20000 in
theorem wdX5_sale_2 : Cond.fieldLink RX5 63 "CornLaws$Returns" "size" "I" ∈ wsX5_sale := by decide +kernel
set_option maxRecDepth 20000 in
theorem inX5_sale_5 : ∀ w ∈ wsX50, w ∈ wsX5_sale := by decide +kernel
set_option maxRecDepth 20000 in
theorem inX5_sale_3 : ∀ w ∈ wsX30, w ∈ wsX5_sale := by decide +kernel
set_option maxHeartbeats 4000000 in
set_option maxRecDepth 100000 in
theorem cX5_sale_ok (l : Launch) (D : va_G) (cI cII : ClassId) (q : Nat → Nat → Nat) (u : XS) (p1 : Int32) (p2 : Int32) (p3 : Int32) (p4 : Int32) (p5 : Int32) (post : Int32 → XS → Prop) (h : wpX5_sale u p1 p2 p3 p4 p5 post) : Met l yX5_sale wsX5_sale ({ frames := 2, cells := 0, slots := 0, locals := 42 } : Room) (zPm [.ref (q 0 0), .int p1, .int p2, .int p3, .int p4, .int p5] D cI cII (wX cI cII q u)) (va_Qi post (fun (z : XS) (t : State) => va_P D vwCl (wX cI cII q z) t.heap) (z_in (wX cI cII q u))) 0 0 (z_in (wX cI cII q u)) := by
  refine Met.ofW (cc := cX5_sale) (maxL := 6) (ret := (some .int)) (by decide) rfl ?_
  intro p e s m args below meth c s₁ B hml hv
  obtain ⟨rfl, hP, hK, hD0⟩ := hv
  have hx := B.exec
  have hb := B.bytes
  have hr := B.returns
  have hts := atoms_spec (ws := wsX5_sale) B.pre
  have hown : s.vm.findClass RX5 = some m.cls := findClass_of_methodNamed B.named
  have hlocks := B.notSynchronized
  have hD := z_Dself hD0
  generalize hAe : z_in (wX cI cII q u) = A at hD ⊢
  have hS : va_S A s.heap s.heap [] := va_S.rf
  have hl := lv_entry ([.ref (q 0 0), .int p1, .int p2, .int p3, .int p4, .int p5]) (n := 6) (Nat.le_of_ble_eq_true rfl)
  rw [lg_entry_eq]
  generalize (lg_sl ([.ref (q 0 0), .int p1, .int p2, .int p3, .int p4, .int p5]) ++ List.replicate (6 - (lg_sl ([.ref (q 0 0), .int p1, .int p2, .int p3, .int p4, .int p5])).length) Slot.unset).toArray = ls at hl ⊢
  have hl : lv_has ls 6 [(0, .ref (q 0 0)), (1, .int p1), (2, .int p2), (3, .int p3), (4, .int p4), (5, .int p5)] := hl
  unfold wpX5_sale at h
  refine lv_iload_n hx hb dX5_sale_0 rfl (lv_at hl 1 rfl) ?_
  refine lv_iconst (v := 0) hx hb dX5_sale_1 (by decide) ?_
  refine lv_bipush (v := 9) hx hb dX5_sale_2 (by decide) ?_
  refine vp_callSi (W.runS (As := [.int p1, .int 0, .int 9]) (rest := []) ⟨hx, hb, hml, hown, hts⟩ (cX5_isOutside_ok l p1 0 9 _ h) (va_cwS 3 hts gX5_sale_X5_isOutside rfl rfl rfl (by decide +kernel) ⟨Nat.le_of_ble_eq_true rfl, Nat.le_of_ble_eq_true rfl⟩) z_preS rfl rfl hl.1 rfl (lv_room (Nat.le_of_ble_eq_true rfl)) dX5_sale_4 ⟨Nat.le_of_ble_eq_true rfl, Nat.le_of_ble_eq_true rfl⟩) (fun r1 h => ?_)
  refine lv_if_ne (tgt := 53) hx hb dX5_sale_7 (by decide) (fun c2 => ?_) (fun c2 => ?_)
  · replace h := h.1 c2
    refine lv_bipush (v := (-2)) hx hb dX5_sale_53 (by decide) ?_
    exact W.iret (v := (-2)) hx hb hr (fun t ht hW => ⟨⟨(-2), u, rfl, h, by show va_P D vwCl _ t.heap; rw [ht]; exact hP⟩, hS.F ht⟩) hS.2.2 dX5_sale_55
  · replace h := h.2 c2
    refine lv_iload_n hx hb dX5_sale_10 rfl (lv_at hl 2 rfl) ?_
    refine vp_callSi (W.runS (As := [.int p2]) (rest := []) ⟨hx, hb, hml, hown, hts⟩ (cX5_isNoGrain_ok l p2 _ h) (va_cwS 1 hts gX5_sale_X5_isNoGrain rfl rfl rfl (by decide +kernel) ⟨Nat.le_of_ble_eq_true rfl, Nat.le_of_ble_eq_true rfl⟩) z_preS rfl rfl hl.1 rfl (lv_room (Nat.le_of_ble_eq_true rfl)) dX5_sale_11 ⟨Nat.le_of_ble_eq_true rfl, Nat.le_of_ble_eq_true rfl⟩) (fun r3 h => ?_)
    refine lv_if_ne (tgt := 53) hx hb dX5_sale_14 (by decide) (fun c4 => ?_) (fun c4 => ?_)
    · replace h := h.1 c4
      refine lv_bipush (v := (-2)) hx hb dX5_sale_53 (by decide) ?_
      exact W.iret (v := (-2)) hx hb hr (fun t ht hW => ⟨⟨(-2), u, rfl, h, by show va_P D vwCl _ t.heap; rw [ht]; exact hP⟩, hS.F ht⟩) hS.2.2 dX5_sale_55
    · replace h := h.2 c4
      refine lv_iload_n hx hb dX5_sale_17 rfl (lv_at hl 3 rfl) ?_
      refine lv_iconst (v := 0) hx hb dX5_sale_18 (by decide) ?_
      refine lv_aload_n hx hb dX5_sale_19 rfl (lv_at hl 0 rfl) ?_
      refine va_get (D := D) (ci := 5) (v := .int (u.2.2.2.2.2.1 0)) (C := RX5) (T := TX5) (N := 8) hx hb hts inX5_sale_5 hown hK hP 0 rfl rfl 5 (by decide) (hts (.fieldLink RX5 48 "CornLaws" "now" "I") wdX5_sale_0) (fun _ h9 => h9) rfl dX5_sale_20 ?_
      refine vp_callSi (W.runS (As := [.int p3, .int 0, .int (u.2.2.2.2.2.1 0)]) (rest := []) ⟨hx, hb, hml, hown, hts⟩ (cX5_isOutside_ok l p3 0 (u.2.2.2.2.2.1 0) _ h) (va_cwS 3 hts gX5_sale_X5_isOutside rfl rfl rfl (by decide +kernel) ⟨Nat.le_of_ble_eq_true rfl, Nat.le_of_ble_eq_true rfl⟩) z_preS rfl rfl hl.1 rfl (lv_room (Nat.le_of_ble_eq_true rfl)) dX5_sale_23 ⟨Nat.le_of_ble_eq_true rfl, Nat.le_of_ble_eq_true rfl⟩) (fun r5 h => ?_)
      refine lv_if_ne (tgt := 53) hx hb dX5_sale_26 (by decide) (fun c6 => ?_) (fun c6 => ?_)
      · replace h := h.1 c6
        refine lv_bipush (v := (-2)) hx hb dX5_sale_53 (by decide) ?_
        exact W.iret (v := (-2)) hx hb hr (fun t ht hW => ⟨⟨(-2), u, rfl, h, by show va_P D vwCl _ t.heap; rw [ht]; exact hP⟩, hS.F ht⟩) hS.2.2 dX5_sale_55
      · replace h := h.2 c6
        refine lv_iload hx hb dX5_sale_29 (lv_at hl 4 rfl) ?_
        refine lv_iconst (v := 1) hx hb dX5_sale_31 (by decide) ?_
        refine lv_sipush (v := 1000) hx hb dX5_sale_32 (by decide) ?_
        refine vp_callSi (W.runS (As := [.int p4, .int 1, .int 1000]) (rest := []) ⟨hx, hb, hml, hown, hts⟩ (cX5_isOutside_ok l p4 1 1000 _ h) (va_cwS 3 hts gX5_sale_X5_isOutside rfl rfl rfl (by decide +kernel) ⟨Nat.le_of_ble_eq_true rfl, Nat.le_of_ble_eq_true rfl⟩) z_preS rfl rfl hl.1 rfl (lv_room (Nat.le_of_ble_eq_true rfl)) dX5_sale_35 ⟨Nat.le_of_ble_eq_true rfl, Nat.le_of_ble_eq_true rfl⟩) (fun r7 h => ?_)
        refine lv_if_ne (tgt := 53) hx hb dX5_sale_38 (by decide) (fun c8 => ?_) (fun c8 => ?_)
        · replace h := h.1 c8
          refine lv_bipush (v := (-2)) hx hb dX5_sale_53 (by decide) ?_
          exact W.iret (v := (-2)) hx hb hr (fun t ht hW => ⟨⟨(-2), u, rfl, h, by show va_P D vwCl _ t.heap; rw [ht]; exact hP⟩, hS.F ht⟩) hS.2.2 dX5_sale_55
        · replace h := h.2 c8
          refine lv_iload hx hb dX5_sale_41 (lv_at hl 5 rfl) ?_
          refine lv_iconst (v := 1) hx hb dX5_sale_43 (by decide) ?_
          refine lv_sipush (v := 2000) hx hb dX5_sale_44 (by decide) ?_
          refine vp_callSi (W.runS (As := [.int p5, .int 1, .int 2000]) (rest := []) ⟨hx, hb, hml, hown, hts⟩ (cX5_isOutside_ok l p5 1 2000 _ h) (va_cwS 3 hts gX5_sale_X5_isOutside rfl rfl rfl (by decide +kernel) ⟨Nat.le_of_ble_eq_true rfl, Nat.le_of_ble_eq_true rfl⟩) z_preS rfl rfl hl.1 rfl (lv_room (Nat.le_of_ble_eq_true rfl)) dX5_sale_47 ⟨Nat.le_of_ble_eq_true rfl, Nat.le_of_ble_eq_true rfl⟩) (fun r9 h => ?_)
          refine lv_if_eq (tgt := 56) hx hb dX5_sale_50 (by decide) (fun c10 => ?_) (fun c10 => ?_)
          · replace h := h.1 c10
            refine lv_aload_n hx hb dX5_sale_56 rfl (lv_at hl 0 rfl) ?_
            refine va_get (D := D) (ci := 5) (v := .ref (q 1 0)) (C := RX5) (T := TX5) (N := 8) hx hb hts inX5_sale_5 hown hK hP 0 rfl rfl 0 (by decide) (hts (.fieldLink RX5 12 "CornLaws" "returns" "LCornLaws$Returns;") wdX5_sale_1) (fun _ h9 => h9) rfl dX5_sale_57 ?_
            refine va_get (D := D) (ci := 3) (v := .int (u.1 9 0)) (C := RX3) (T := TX3) (N := 8) hx hb hts inX5_sale_3 hown hK hP 1 rfl rfl 7 (by decide) (hts (.fieldLink RX5 63 "CornLaws$Returns" "size" "I") wdX5_sale_2) (fun _ h9 => h9) rfl dX5_sale_60 ?_
            refine lv_bipush (v := 60) hx hb dX5_sale_63 (by decide) ?_
            refine lv_icmp_lt (tgt := 71) hx hb dX5_sale_65 (by decide) (fun c11 => ?_) (fun c11 => ?_)
            · replace h := h.1 c11
              refine lv_aload_n hx hb dX5_sale_71 rfl (lv_at hl 0 rfl) ?_
              refine va_get (D := D) (ci := 5) (v := .ref (q 1 0)) (C := RX5) (T := TX5) (N := 8) hx hb hts inX5_sale_5 hown hK hP 0 rfl rfl 0 (by decide) (hts (.fieldLink RX5 12 "CornLaws" "returns" "LCornLaws$Returns;") wdX5_sale_1) (fun _ h9 => h9) rfl dX5_sale_72 ?_
              refine lv_iload_n hx hb dX5_sale_75 rfl (lv_at hl 1 rfl) ?_
              refine lv_iload_n hx hb dX5_sale_76 rfl (lv_at hl 2 rfl) ?_
              refine lv_iload_n hx hb dX5_sale_77 rfl (lv_at hl 3 rfl) ?_
              refine lv_iload hx hb dX5_sale_78 (lv_at hl 4 rfl) ?_
              refine lv_iload hx hb dX5_sale_80 (lv_at hl 5 rfl) ?_
              refine lv_aload_n hx hb dX5_sale_82 rfl (lv_at hl 0 rfl) ?_
              refine va_get (D := D) (ci := 5) (v := .int (u.2.2.2.2.2.1 0)) (C := RX5) (T := TX5) (N := 8) hx hb hts inX5_sale_5 hown hK hP 0 rfl rfl 5 (by decide) (hts (.fieldLink RX5 48 "CornLaws" "now" "I") wdX5_sale_0) (fun _ h9 => h9) rfl dX5_sale_83 ?_
              refine va_calli (va_runV (C := RX3) (As := [.int p1, .int p2, .int p3, .int p4, .int p5, .int (u.2.2.2.2.2.1 0)]) (rest := []) ⟨hx, hb, hml, hown, hts⟩ (cX3_add_ok l D cI cII (q 1) u.1 p1 p2 p3 p4 p5 (u.2.2.2.2.2.1 0) _ h) (cwV 6 hts gX5_sale_X3_add rfl rfl rfl (by decide +kernel) ⟨Nat.le_of_ble_eq_true rfl, Nat.le_of_ble_eq_true rfl⟩) (z_preVm hK (z_XR (cII := cII) (u := u) hP) (z_DXR (cII := cII) (u := u) hD) rfl rfl) rfl rfl hl.1 rfl (lv_room (Nat.le_of_ble_eq_true rfl)) dX5_sale_86 ⟨Nat.le_of_ble_eq_true rfl, Nat.le_of_ble_eq_true rfl⟩) hS (fun x9 _ h9 => z_sub (z_DXR (cII := cII) (u := u) hD) x9 h9) (z_sub (z_DXR (cII := cII) (u := u) hD)) (fun r13 a12 t H1 locs ht hvm h hB hz1 hk1 hS => ?_)
              have hB : va_P D vwCl (wR cI (q 1) a12) t.heap := hB
              rw [ht] at hB
              have hP := z_jR (u := u) hP hD hk1 hB
              generalize H1 = H at hP hS ⊢
              have hP : va_P D vwCl (wX cI cII q (a12, u.2.1, u.2.2.1, u.2.2.2.1, u.2.2.2.2.1, u.2.2.2.2.2.1, u.2.2.2.2.2.2)) H := hP
              have hD : va_D A (wX cI cII q (a12, u.2.1, u.2.2.1, u.2.2.2.1, u.2.2.2.2.1, u.2.2.2.2.2.1, u.2.2.2.2.2.2)) := z_Dmap hD rfl
              exact W.iret (v := r13) hx hb hr (fun t ht hW => ⟨⟨r13, (a12, u.2.1, u.2.2.1, u.2.2.2.1, u.2.2.2.2.1, u.2.2.2.2.2.1, u.2.2.2.2.2.2), rfl, h, by show va_P D vwCl _ t.heap; rw [ht]; exact hP⟩, hS.F ht⟩) hS.2.2 dX5_sale_89
            · replace h := h.2 c11
              refine lv_bipush (v := (-4)) hx hb dX5_sale_68 (by decide) ?_
              exact W.iret (v := (-4)) hx hb hr (fun t ht hW => ⟨⟨(-4), u, rfl, h, by show va_P D vwCl _ t.heap; rw [ht]; exact hP⟩, hS.F ht⟩) hS.2.2 dX5_sale_70
          · replace h := h.2 c10
            refine lv_bipush (v := (-2)) hx hb dX5_sale_53 (by decide) ?_
            exact W.iret (v := (-2)) hx hb hr (fun t ht hW => ⟨⟨(-2), u, rfl, h, by show va_P D vwCl _ t.heap; rw [ht]; exact hP⟩, hS.F ht⟩) hS.2.2 dX5_sale_55

/-! X5_strike -/
set_option maxRecDepth 20000 in
theorem wdX5_strike_0 : Cond.fieldLink RX5 12 "CornLaws" "returns" "LCornLaws$Returns;" ∈ wsX5_strike := by decide +kernel
set_option maxRecDepth 20000 in
theorem wdX5_strike_1 : Cond.fieldLink RX5 73 "CornLaws$Returns" "struck" "[I" ∈ wsX5_strike := by decide +kernel
set_option maxRecDepth 20000 in
theorem wdX5_strike_2 : Cond.fieldLink RX5 48 "CornLaws" "now" "I" ∈ wsX5_strike := by decide +kernel
set_option maxRecDepth 20000 in
theorem inX5_strike_5 : ∀ w ∈ wsX50, w ∈ wsX5_strike := by decide +kernel
set_option maxRecDepth 20000 in
theorem inX5_strike_3 : ∀ w ∈ wsX30, w ∈ wsX5_strike := by decide +kernel
set_option maxHeartbeats 4000000 in
set_option maxRecDepth 100000 in
theorem cX5_strike_ok (l : Launch) (D : va_G) (cI cII : ClassId) (q : Nat → Nat → Nat) (u : XS) (p1 : Int32) (post : Int32 → XS → Prop) (h : wpX5_strike u p1 post) : Met l yX5_strike wsX5_strike ({ frames := 1, cells := 0, slots := 0, locals := 21 } : Room) (zPm [.ref (q 0 0), .int p1] D cI cII (wX cI cII q u)) (va_Qi post (fun (z : XS) (t : State) => va_P D vwCl (wX cI cII q z) t.heap) (z_in (wX cI cII q u))) 0 0 (z_in (wX cI cII q u)) := by
  refine Met.ofW (cc := cX5_strike) (maxL := 2) (ret := (some .int)) (by decide) rfl ?_
  intro p e s m args below meth c s₁ B hml hv
  obtain ⟨rfl, hP, hK, hD0⟩ := hv
  have hx := B.exec
  have hb := B.bytes
  have hr := B.returns
  have hts := atoms_spec (ws := wsX5_strike) B.pre
  have hown : s.vm.findClass RX5 = some m.cls := findClass_of_methodNamed B.named
  have hlocks := B.notSynchronized
  have hD := z_Dself hD0
  generalize hAe : z_in (wX cI cII q u) = A at hD ⊢
  have hS : va_S A s.heap s.heap [] := va_S.rf
  have hl := lv_entry ([.ref (q 0 0), .int p1]) (n := 2) (Nat.le_of_ble_eq_true rfl)
  rw [lg_entry_eq]
  generalize (lg_sl ([.ref (q 0 0), .int p1]) ++ List.replicate (2 - (lg_sl ([.ref (q 0 0), .int p1])).length) Slot.unset).toArray = ls at hl ⊢
  have hl : lv_has ls 2 [(0, .ref (q 0 0)), (1, .int p1)] := hl
  unfold wpX5_strike at h
  refine lv_aload_n hx hb dX5_strike_0 rfl (lv_at hl 0 rfl) ?_
  refine va_get (D := D) (ci := 5) (v := .ref (q 1 0)) (C := RX5) (T := TX5) (N := 8) hx hb hts inX5_strike_5 hown hK hP 0 rfl rfl 0 (by decide) (hts (.fieldLink RX5 12 "CornLaws" "returns" "LCornLaws$Returns;") wdX5_strike_0) (fun _ h9 => h9) rfl dX5_strike_1 ?_
  refine lv_iload_n hx hb dX5_strike_4 rfl (lv_at hl 1 rfl) ?_
  refine vp_callSi (W.runV (C := RX3) (As := [.int p1]) (rest := []) ⟨hx, hb, hml, hown, hts⟩ (cX3_has_ok l D cI cII (q 1) u.1 p1 _ h) (cwV 1 hts gX5_strike_X3_has rfl rfl rfl (by decide +kernel) ⟨Nat.le_of_ble_eq_true rfl, Nat.le_of_ble_eq_true rfl⟩) (z_preV hK (z_XR (cII := cII) (u := u) hP) rfl rfl) rfl rfl hl.1 rfl (lv_room (Nat.le_of_ble_eq_true rfl)) dX5_strike_5 ⟨Nat.le_of_ble_eq_true rfl, Nat.le_of_ble_eq_true rfl⟩) (fun r1 h => ?_)
  refine lv_if_ne (tgt := 14) hx hb dX5_strike_8 (by decide) (fun c2 => ?_) (fun c2 => ?_)
  · replace h := h.1 c2
    refine lv_aload_n hx hb dX5_strike_14 rfl (lv_at hl 0 rfl) ?_
    refine va_get (D := D) (ci := 5) (v := .ref (q 1 0)) (C := RX5) (T := TX5) (N := 8) hx hb hts inX5_strike_5 hown hK hP 0 rfl rfl 0 (by decide) (hts (.fieldLink RX5 12 "CornLaws" "returns" "LCornLaws$Returns;") wdX5_strike_0) (fun _ h9 => h9) rfl dX5_strike_15 ?_
    refine va_get (D := D) (ci := 3) (v := .ref (q 1 7)) (C := RX3) (T := TX3) (N := 8) hx hb hts inX5_strike_3 hown hK hP 1 rfl rfl 6 (by decide) (hts (.fieldLink RX5 73 "CornLaws$Returns" "struck" "[I") wdX5_strike_1) (fun _ h9 => h9) rfl dX5_strike_18 ?_
    refine lv_iload_n hx hb dX5_strike_21 rfl (lv_at hl 1 rfl) ?_
    obtain ⟨hi3, h⟩ := h
    refine va_iald (f := u.1 6) hx hb hK hP 8 0 rfl rfl hi3 dX5_strike_22 ?_
    refine lv_iconst (v := (-1)) hx hb dX5_strike_23 (by decide) ?_
    refine lv_icmp_eq (tgt := 30) hx hb dX5_strike_24 (by decide) (fun c4 => ?_) (fun c4 => ?_)
    · replace h := h.1 c4
      refine lv_aload_n hx hb dX5_strike_30 rfl (lv_at hl 0 rfl) ?_
      refine va_get (D := D) (ci := 5) (v := .ref (q 1 0)) (C := RX5) (T := TX5) (N := 8) hx hb hts inX5_strike_5 hown hK hP 0 rfl rfl 0 (by decide) (hts (.fieldLink RX5 12 "CornLaws" "returns" "LCornLaws$Returns;") wdX5_strike_0) (fun _ h9 => h9) rfl dX5_strike_31 ?_
      refine va_get (D := D) (ci := 3) (v := .ref (q 1 7)) (C := RX3) (T := TX3) (N := 8) hx hb hts inX5_strike_3 hown hK hP 1 rfl rfl 6 (by decide) (hts (.fieldLink RX5 73 "CornLaws$Returns" "struck" "[I") wdX5_strike_1) (fun _ h9 => h9) rfl dX5_strike_34 ?_
      refine lv_iload_n hx hb dX5_strike_37 rfl (lv_at hl 1 rfl) ?_
      refine lv_aload_n hx hb dX5_strike_38 rfl (lv_at hl 0 rfl) ?_
      refine va_get (D := D) (ci := 5) (v := .int (u.2.2.2.2.2.1 0)) (C := RX5) (T := TX5) (N := 8) hx hb hts inX5_strike_5 hown hK hP 0 rfl rfl 5 (by decide) (hts (.fieldLink RX5 48 "CornLaws" "now" "I") wdX5_strike_2) (fun _ h9 => h9) rfl dX5_strike_39 ?_
      refine va_iast (f := u.1 6) hx hb hK hP hD hS 8 0 rfl rfl hi3 dX5_strike_42 (fun H locs hP hD hS => ?_)
      have hP : va_P D vwCl (wX cI cII q ((va_up u.1 6 (upd (u.1 6) (p1.toNatClampNeg) ((u.2.2.2.2.2.1 0)))), u.2.1, u.2.2.1, u.2.2.2.1, u.2.2.2.2.1, u.2.2.2.2.2.1, u.2.2.2.2.2.2)) H := hP
      have hD : va_D A (wX cI cII q ((va_up u.1 6 (upd (u.1 6) (p1.toNatClampNeg) ((u.2.2.2.2.2.1 0)))), u.2.1, u.2.2.1, u.2.2.2.1, u.2.2.2.2.1, u.2.2.2.2.2.1, u.2.2.2.2.2.2)) := hD
      refine lv_iconst (v := 1) hx hb dX5_strike_43 (by decide) ?_
      exact W.iret (v := 1) hx hb hr (fun t ht hW => ⟨⟨1, ((va_up u.1 6 (upd (u.1 6) (p1.toNatClampNeg) ((u.2.2.2.2.2.1 0)))), u.2.1, u.2.2.1, u.2.2.2.1, u.2.2.2.2.1, u.2.2.2.2.2.1, u.2.2.2.2.2.2), rfl, h, by show va_P D vwCl _ t.heap; rw [ht]; exact hP⟩, hS.F ht⟩) hS.2.2 dX5_strike_44
    · replace h := h.2 c4
      refine lv_bipush (v := (-3)) hx hb dX5_strike_27 (by decide) ?_
      exact W.iret (v := (-3)) hx hb hr (fun t ht hW => ⟨⟨(-3), u, rfl, h, by show va_P D vwCl _ t.heap; rw [ht]; exact hP⟩, hS.F ht⟩) hS.2.2 dX5_strike_29
  · replace h := h.2 c2
    refine lv_bipush (v := (-2)) hx hb dX5_strike_11 (by decide) ?_
    exact W.iret (v := (-2)) hx hb hr (fun t ht hW => ⟨⟨(-2), u, rfl, h, by show va_P D vwCl _ t.heap; rw [ht]; exact hP⟩, hS.F ht⟩) hS.2.2 dX5_strike_13

/-! X5_sold -/
set_option maxRecDepth 20000 in
theorem wdX5_sold_0 : Cond.fieldLink RX5 12 "CornLaws" "returns" "LCornLaws$Returns;" ∈ wsX5_sold := by decide +kernel
set_option maxRecDepth 20000 in
theorem wdX5_sold_1 : Cond.fieldLink RX5 77 "CornLaws$Returns" "town" "[I" ∈ wsX5_sold := by decide +kernel
set_option maxRecDepth 20000 in
theorem wdX5_sold_2 : Cond.fieldLink RX5 80 "CornLaws$Returns" "grain" "[I" ∈ wsX5_sold := by decide +kernel
set_option maxRecDepth 20000 in
theorem wdX5_sold_3 : Cond.fieldLink RX5 83 "CornLaws$Returns" "week" "[I" ∈ wsX5_sold := by decide +kernel
set_option maxRecDepth 20000 in
theorem wdX5_sold_4 : Cond.fieldLink RX5 86 "CornLaws$Returns" "quarters" "[I" ∈ wsX5_sold := by decide +kernel
set_option maxRecDepth 20000 in
theorem wdX5_sold_5 : Cond.fieldLink RX5 89 "CornLaws$Returns" "price" "[I" ∈ wsX5_sold := by decide +kernel
set_option maxRecDepth 20000 in
theorem wdX5_sold_6 : Cond.fieldLink RX5 92 "CornLaws$Returns" "sworn" "[I" ∈ wsX5_sold := by decide +kernel
set_option maxRecDepth 20000 in
theorem wdX5_sold_7 : Cond.fieldLink RX5 73 "CornLaws$Returns" "struck" "[I" ∈ wsX5_sold := by decide +kernel
set_option maxRecDepth 20000 in
theorem inX5_sold_5 : ∀ w ∈ wsX50, w ∈ wsX5_sold := by decide +kernel
set_option maxRecDepth 20000 in
theorem inX5_sold_3 : ∀ w ∈ wsX30, w ∈ wsX5_sold := by decide +kernel
set_option maxHeartbeats 4000000 in
set_option maxRecDepth 100000 in
theorem cX5_sold_ok (l : Launch) (D : va_G) (cI cII : ClassId) (q : Nat → Nat → Nat) (u : XS) (p1 : Int32) (p2 : Int32) (post : Int32 → Prop) (h : wpX5_sold u p1 p2 post) : Met l yX5_sold wsX5_sold ({ frames := 1, cells := 0, slots := 0, locals := 21 } : Room) (zPc [.ref (q 0 0), .int p1, .int p2] D cI cII (wX cI cII q u)) (vp_Si post) 0 0 (fun _ => False) := by
  refine Met.ofW (cc := cX5_sold) (maxL := 3) (ret := (some .int)) (by decide) rfl ?_
  intro p e s m args below meth c s₁ B hml hv
  obtain ⟨rfl, hP, hK⟩ := hv
  have hx := B.exec
  have hb := B.bytes
  have hr := B.returns
  have hts := atoms_spec (ws := wsX5_sold) B.pre
  have hown : s.vm.findClass RX5 = some m.cls := findClass_of_methodNamed B.named
  have hlocks := B.notSynchronized
  have hl := lv_entry ([.ref (q 0 0), .int p1, .int p2]) (n := 3) (Nat.le_of_ble_eq_true rfl)
  rw [lg_entry_eq]
  generalize (lg_sl ([.ref (q 0 0), .int p1, .int p2]) ++ List.replicate (3 - (lg_sl ([.ref (q 0 0), .int p1, .int p2])).length) Slot.unset).toArray = ls at hl ⊢
  have hl : lv_has ls 3 [(0, .ref (q 0 0)), (1, .int p1), (2, .int p2)] := hl
  unfold wpX5_sold at h
  refine lv_aload_n hx hb dX5_sold_0 rfl (lv_at hl 0 rfl) ?_
  refine va_get (D := D) (ci := 5) (v := .ref (q 1 0)) (C := RX5) (T := TX5) (N := 8) hx hb hts inX5_sold_5 hown hK hP 0 rfl rfl 0 (by decide) (hts (.fieldLink RX5 12 "CornLaws" "returns" "LCornLaws$Returns;") wdX5_sold_0) (fun _ h9 => h9) rfl dX5_sold_1 ?_
  refine lv_iload_n hx hb dX5_sold_4 rfl (lv_at hl 1 rfl) ?_
  refine vp_callSi (W.runV (C := RX3) (As := [.int p1]) (rest := []) ⟨hx, hb, hml, hown, hts⟩ (cX3_has_ok l D cI cII (q 1) u.1 p1 _ h) (cwV 1 hts gX5_sold_X3_has rfl rfl rfl (by decide +kernel) ⟨Nat.le_of_ble_eq_true rfl, Nat.le_of_ble_eq_true rfl⟩) (z_preV hK (z_XR (cII := cII) (u := u) hP) rfl rfl) rfl rfl hl.1 rfl (lv_room (Nat.le_of_ble_eq_true rfl)) dX5_sold_5 ⟨Nat.le_of_ble_eq_true rfl, Nat.le_of_ble_eq_true rfl⟩) (fun r1 h => ?_)
  refine lv_if_ne (tgt := 14) hx hb dX5_sold_8 (by decide) (fun c2 => ?_) (fun c2 => ?_)
  · replace h := h.1 c2
    refine lv_iload_n hx hb dX5_sold_14 rfl (lv_at hl 2 rfl) ?_
    rcases z_sw6 p2 with c3 | c3 | c3 | c3 | c3 | c3 | c3 | c3
    · replace h := h.1 c3
      refine lv_tableOut (tgt := 126) hx hb dX5_sold_15 c3 (by decide) ?_
      refine lv_bipush (v := (-2)) hx hb dX5_sold_126 (by decide) ?_
      exact W.iret (v := (-2)) hx hb hr (fun t ht hW => ⟨(-2), rfl, h, ht⟩) (fun _ h9 => by cases h9) dX5_sold_128
    · replace h := h.2.1 c3
      refine lv_tableIn (tgt := 56) (off := 41) hx hb dX5_sold_15 (by rw [c3]; decide) (by rw [c3]; decide) (by rw [c3]; rfl) (by decide) ?_
      refine lv_aload_n hx hb dX5_sold_56 rfl (lv_at hl 0 rfl) ?_
      refine va_get (D := D) (ci := 5) (v := .ref (q 1 0)) (C := RX5) (T := TX5) (N := 8) hx hb hts inX5_sold_5 hown hK hP 0 rfl rfl 0 (by decide) (hts (.fieldLink RX5 12 "CornLaws" "returns" "LCornLaws$Returns;") wdX5_sold_0) (fun _ h9 => h9) rfl dX5_sold_57 ?_
      refine va_get (D := D) (ci := 3) (v := .ref (q 1 1)) (C := RX3) (T := TX3) (N := 8) hx hb hts inX5_sold_3 hown hK hP 1 rfl rfl 0 (by decide) (hts (.fieldLink RX5 77 "CornLaws$Returns" "town" "[I") wdX5_sold_1) (fun _ h9 => h9) rfl dX5_sold_60 ?_
      refine lv_iload_n hx hb dX5_sold_63 rfl (lv_at hl 1 rfl) ?_
      obtain ⟨hi4, h⟩ := h
      refine va_iald (f := u.1 0) hx hb hK hP 2 0 rfl rfl hi4 dX5_sold_64 ?_
      exact W.iret (v := (u.1 0 p1.toNatClampNeg)) hx hb hr (fun t ht hW => ⟨(u.1 0 p1.toNatClampNeg), rfl, h, ht⟩) (fun _ h9 => by cases h9) dX5_sold_65
    · replace h := h.2.2.1 c3
      refine lv_tableIn (tgt := 66) (off := 51) hx hb dX5_sold_15 (by rw [c3]; decide) (by rw [c3]; decide) (by rw [c3]; rfl) (by decide) ?_
      refine lv_aload_n hx hb dX5_sold_66 rfl (lv_at hl 0 rfl) ?_
      refine va_get (D := D) (ci := 5) (v := .ref (q 1 0)) (C := RX5) (T := TX5) (N := 8) hx hb hts inX5_sold_5 hown hK hP 0 rfl rfl 0 (by decide) (hts (.fieldLink RX5 12 "CornLaws" "returns" "LCornLaws$Returns;") wdX5_sold_0) (fun _ h9 => h9) rfl dX5_sold_67 ?_
      refine va_get (D := D) (ci := 3) (v := .ref (q 1 2)) (C := RX3) (T := TX3) (N := 8) hx hb hts inX5_sold_3 hown hK hP 1 rfl rfl 1 (by decide) (hts (.fieldLink RX5 80 "CornLaws$Returns" "grain" "[I") wdX5_sold_2) (fun _ h9 => h9) rfl dX5_sold_70 ?_
      refine lv_iload_n hx hb dX5_sold_73 rfl (lv_at hl 1 rfl) ?_
      obtain ⟨hi5, h⟩ := h
      refine va_iald (f := u.1 1) hx hb hK hP 3 0 rfl rfl hi5 dX5_sold_74 ?_
      exact W.iret (v := (u.1 1 p1.toNatClampNeg)) hx hb hr (fun t ht hW => ⟨(u.1 1 p1.toNatClampNeg), rfl, h, ht⟩) (fun _ h9 => by cases h9) dX5_sold_75
    · replace h := h.2.2.2.1 c3
      refine lv_tableIn (tgt := 76) (off := 61) hx hb dX5_sold_15 (by rw [c3]; decide) (by rw [c3]; decide) (by rw [c3]; rfl) (by decide) ?_
      refine lv_aload_n hx hb dX5_sold_76 rfl (lv_at hl 0 rfl) ?_
      refine va_get (D := D) (ci := 5) (v := .ref (q 1 0)) (C := RX5) (T := TX5) (N := 8) hx hb hts inX5_sold_5 hown hK hP 0 rfl rfl 0 (by decide) (hts (.fieldLink RX5 12 "CornLaws" "returns" "LCornLaws$Returns;") wdX5_sold_0) (fun _ h9 => h9) rfl dX5_sold_77 ?_
      refine va_get (D := D) (ci := 3) (v := .ref (q 1 3)) (C := RX3) (T := TX3) (N := 8) hx hb hts inX5_sold_3 hown hK hP 1 rfl rfl 2 (by decide) (hts (.fieldLink RX5 83 "CornLaws$Returns" "week" "[I") wdX5_sold_3) (fun _ h9 => h9) rfl dX5_sold_80 ?_
      refine lv_iload_n hx hb dX5_sold_83 rfl (lv_at hl 1 rfl) ?_
      obtain ⟨hi6, h⟩ := h
      refine va_iald (f := u.1 2) hx hb hK hP 4 0 rfl rfl hi6 dX5_sold_84 ?_
      exact W.iret (v := (u.1 2 p1.toNatClampNeg)) hx hb hr (fun t ht hW => ⟨(u.1 2 p1.toNatClampNeg), rfl, h, ht⟩) (fun _ h9 => by cases h9) dX5_sold_85
    · replace h := h.2.2.2.2.1 c3
      refine lv_tableIn (tgt := 86) (off := 71) hx hb dX5_sold_15 (by rw [c3]; decide) (by rw [c3]; decide) (by rw [c3]; rfl) (by decide) ?_
      refine lv_aload_n hx hb dX5_sold_86 rfl (lv_at hl 0 rfl) ?_
      refine va_get (D := D) (ci := 5) (v := .ref (q 1 0)) (C := RX5) (T := TX5) (N := 8) hx hb hts inX5_sold_5 hown hK hP 0 rfl rfl 0 (by decide) (hts (.fieldLink RX5 12 "CornLaws" "returns" "LCornLaws$Returns;") wdX5_sold_0) (fun _ h9 => h9) rfl dX5_sold_87 ?_
      refine va_get (D := D) (ci := 3) (v := .ref (q 1 4)) (C := RX3) (T := TX3) (N := 8) hx hb hts inX5_sold_3 hown hK hP 1 rfl rfl 3 (by decide) (hts (.fieldLink RX5 86 "CornLaws$Returns" "quarters" "[I") wdX5_sold_4) (fun _ h9 => h9) rfl dX5_sold_90 ?_
      refine lv_iload_n hx hb dX5_sold_93 rfl (lv_at hl 1 rfl) ?_
      obtain ⟨hi7, h⟩ := h
      refine va_iald (f := u.1 3) hx hb hK hP 5 0 rfl rfl hi7 dX5_sold_94 ?_
      exact W.iret (v := (u.1 3 p1.toNatClampNeg)) hx hb hr (fun t ht hW => ⟨(u.1 3 p1.toNatClampNeg), rfl, h, ht⟩) (fun _ h9 => by cases h9) dX5_sold_95
    · replace h := h.2.2.2.2.2.1 c3
      refine lv_tableIn (tgt := 96) (off := 81) hx hb dX5_sold_15 (by rw [c3]; decide) (by rw [c3]; decide) (by rw [c3]; rfl) (by decide) ?_
      refine lv_aload_n hx hb dX5_sold_96 rfl (lv_at hl 0 rfl) ?_
      refine va_get (D := D) (ci := 5) (v := .ref (q 1 0)) (C := RX5) (T := TX5) (N := 8) hx hb hts inX5_sold_5 hown hK hP 0 rfl rfl 0 (by decide) (hts (.fieldLink RX5 12 "CornLaws" "returns" "LCornLaws$Returns;") wdX5_sold_0) (fun _ h9 => h9) rfl dX5_sold_97 ?_
      refine va_get (D := D) (ci := 3) (v := .ref (q 1 5)) (C := RX3) (T := TX3) (N := 8) hx hb hts inX5_sold_3 hown hK hP 1 rfl rfl 4 (by decide) (hts (.fieldLink RX5 89 "CornLaws$Returns" "price" "[I") wdX5_sold_5) (fun _ h9 => h9) rfl dX5_sold_100 ?_
      refine lv_iload_n hx hb dX5_sold_103 rfl (lv_at hl 1 rfl) ?_
      obtain ⟨hi8, h⟩ := h
      refine va_iald (f := u.1 4) hx hb hK hP 6 0 rfl rfl hi8 dX5_sold_104 ?_
      exact W.iret (v := (u.1 4 p1.toNatClampNeg)) hx hb hr (fun t ht hW => ⟨(u.1 4 p1.toNatClampNeg), rfl, h, ht⟩) (fun _ h9 => by cases h9) dX5_sold_105
    · replace h := h.2.2.2.2.2.2.1 c3
      refine lv_tableIn (tgt := 106) (off := 91) hx hb dX5_sold_15 (by rw [c3]; decide) (by rw [c3]; decide) (by rw [c3]; rfl) (by decide) ?_
      refine lv_aload_n hx hb dX5_sold_106 rfl (lv_at hl 0 rfl) ?_
      refine va_get (D := D) (ci := 5) (v := .ref (q 1 0)) (C := RX5) (T := TX5) (N := 8) hx hb hts inX5_sold_5 hown hK hP 0 rfl rfl 0 (by decide) (hts (.fieldLink RX5 12 "CornLaws" "returns" "LCornLaws$Returns;") wdX5_sold_0) (fun _ h9 => h9) rfl dX5_sold_107 ?_
      refine va_get (D := D) (ci := 3) (v := .ref (q 1 6)) (C := RX3) (T := TX3) (N := 8) hx hb hts inX5_sold_3 hown hK hP 1 rfl rfl 5 (by decide) (hts (.fieldLink RX5 92 "CornLaws$Returns" "sworn" "[I") wdX5_sold_6) (fun _ h9 => h9) rfl dX5_sold_110 ?_
      refine lv_iload_n hx hb dX5_sold_113 rfl (lv_at hl 1 rfl) ?_
      obtain ⟨hi9, h⟩ := h
      refine va_iald (f := u.1 5) hx hb hK hP 7 0 rfl rfl hi9 dX5_sold_114 ?_
      exact W.iret (v := (u.1 5 p1.toNatClampNeg)) hx hb hr (fun t ht hW => ⟨(u.1 5 p1.toNatClampNeg), rfl, h, ht⟩) (fun _ h9 => by cases h9) dX5_sold_115
    · replace h := h.2.2.2.2.2.2.2 c3
      refine lv_tableIn (tgt := 116) (off := 101) hx hb dX5_sold_15 (by rw [c3]; decide) (by rw [c3]; decide) (by rw [c3]; rfl) (by decide) ?_
      refine lv_aload_n hx hb dX5_sold_116 rfl (lv_at hl 0 rfl) ?_
      refine va_get (D := D) (ci := 5) (v := .ref (q 1 0)) (C := RX5) (T := TX5) (N := 8) hx hb hts inX5_sold_5 hown hK hP 0 rfl rfl 0 (by decide) (hts (.fieldLink RX5 12 "CornLaws" "returns" "LCornLaws$Returns;") wdX5_sold_0) (fun _ h9 => h9) rfl dX5_sold_117 ?_
      refine va_get (D := D) (ci := 3) (v := .ref (q 1 7)) (C := RX3) (T := TX3) (N := 8) hx hb hts inX5_sold_3 hown hK hP 1 rfl rfl 6 (by decide) (hts (.fieldLink RX5 73 "CornLaws$Returns" "struck" "[I") wdX5_sold_7) (fun _ h9 => h9) rfl dX5_sold_120 ?_
      refine lv_iload_n hx hb dX5_sold_123 rfl (lv_at hl 1 rfl) ?_
      obtain ⟨hi10, h⟩ := h
      refine va_iald (f := u.1 6) hx hb hK hP 8 0 rfl rfl hi10 dX5_sold_124 ?_
      exact W.iret (v := (u.1 6 p1.toNatClampNeg)) hx hb hr (fun t ht hW => ⟨(u.1 6 p1.toNatClampNeg), rfl, h, ht⟩) (fun _ h9 => by cases h9) dX5_sold_125
  · replace h := h.2 c2
    refine lv_bipush (v := (-2)) hx hb dX5_sold_11 (by decide) ?_
    exact W.iret (v := (-2)) hx hb hr (fun t ht hW => ⟨(-2), rfl, h, ht⟩) (fun _ h9 => by cases h9) dX5_sold_13

/-! X5_weekly -/
set_option maxRecDepth 20000 in
theorem wdX5_weekly_0 : Cond.fieldLink RX5 12 "CornLaws" "returns" "LCornLaws$Returns;" ∈ wsX5_weekly := by decide +kernel
set_option maxRecDepth 20000 in
theorem inX5_weekly_5 : ∀ w ∈ wsX50, w ∈ wsX5_weekly := by decide +kernel
set_option maxHeartbeats 4000000 in
set_option maxRecDepth 100000 in
theorem cX5_weekly_ok (l : Launch) (D : va_G) (cI cII : ClassId) (q : Nat → Nat → Nat) (u : XS) (p1 : Int32) (p2 : Int32) (p3 : Int32) (post : Int32 → Prop) (h : wpX5_weekly u p1 p2 p3 post) : Met l yX5_weekly wsX5_weekly ({ frames := 2, cells := 0, slots := 0, locals := 50 } : Room) (zPc [.ref (q 0 0), .int p1, .int p2, .int p3] D cI cII (wX cI cII q u)) (vp_Si post) 0 0 (fun _ => False) := by
  refine Met.ofW (cc := cX5_weekly) (maxL := 4) (ret := (some .int)) (by decide) rfl ?_
  intro p e s m args below meth c s₁ B hml hv
  obtain ⟨rfl, hP, hK⟩ := hv
  have hx := B.exec
  have hb := B.bytes
  have hr := B.returns
  have hts := atoms_spec (ws := wsX5_weekly) B.pre
  have hown : s.vm.findClass RX5 = some m.cls := findClass_of_methodNamed B.named
  have hlocks := B.notSynchronized
  have hl := lv_entry ([.ref (q 0 0), .int p1, .int p2, .int p3]) (n := 4) (Nat.le_of_ble_eq_true rfl)
  rw [lg_entry_eq]
  generalize (lg_sl ([.ref (q 0 0), .int p1, .int p2, .int p3]) ++ List.replicate (4 - (lg_sl ([.ref (q 0 0), .int p1, .int p2, .int p3])).length) Slot.unset).toArray = ls at hl ⊢
  have hl : lv_has ls 4 [(0, .ref (q 0 0)), (1, .int p1), (2, .int p2), (3, .int p3)] := hl
  unfold wpX5_weekly at h
  refine lv_iload_n hx hb dX5_weekly_0 rfl (lv_at hl 1 rfl) ?_
  refine vp_callSi (W.runS (As := [.int p1]) (rest := []) ⟨hx, hb, hml, hown, hts⟩ (cX5_isNoGrain_ok l p1 _ h) (va_cwS 1 hts gX5_weekly_X5_isNoGrain rfl rfl rfl (by decide +kernel) ⟨Nat.le_of_ble_eq_true rfl, Nat.le_of_ble_eq_true rfl⟩) z_preS rfl rfl hl.1 rfl (lv_room (Nat.le_of_ble_eq_true rfl)) dX5_weekly_1 ⟨Nat.le_of_ble_eq_true rfl, Nat.le_of_ble_eq_true rfl⟩) (fun r1 h => ?_)
  refine lv_if_ne (tgt := 29) hx hb dX5_weekly_4 (by decide) (fun c2 => ?_) (fun c2 => ?_)
  · replace h := h.1 c2
    refine lv_bipush (v := (-2)) hx hb dX5_weekly_29 (by decide) ?_
    exact W.iret (v := (-2)) hx hb hr (fun t ht hW => ⟨(-2), rfl, h, ht⟩) (fun _ h9 => by cases h9) dX5_weekly_31
  · replace h := h.2 c2
    refine lv_iload_n hx hb dX5_weekly_7 rfl (lv_at hl 2 rfl) ?_
    refine lv_iconst (v := 0) hx hb dX5_weekly_8 (by decide) ?_
    refine lv_sipush (v := 200) hx hb dX5_weekly_9 (by decide) ?_
    refine vp_callSi (W.runS (As := [.int p2, .int 0, .int 200]) (rest := []) ⟨hx, hb, hml, hown, hts⟩ (cX5_isOutside_ok l p2 0 200 _ h) (va_cwS 3 hts gX5_weekly_X5_isOutside rfl rfl rfl (by decide +kernel) ⟨Nat.le_of_ble_eq_true rfl, Nat.le_of_ble_eq_true rfl⟩) z_preS rfl rfl hl.1 rfl (lv_room (Nat.le_of_ble_eq_true rfl)) dX5_weekly_12 ⟨Nat.le_of_ble_eq_true rfl, Nat.le_of_ble_eq_true rfl⟩) (fun r3 h => ?_)
    refine lv_if_ne (tgt := 29) hx hb dX5_weekly_15 (by decide) (fun c4 => ?_) (fun c4 => ?_)
    · replace h := h.1 c4
      refine lv_bipush (v := (-2)) hx hb dX5_weekly_29 (by decide) ?_
      exact W.iret (v := (-2)) hx hb hr (fun t ht hW => ⟨(-2), rfl, h, ht⟩) (fun _ h9 => by cases h9) dX5_weekly_31
    · replace h := h.2 c4
      refine lv_iload_n hx hb dX5_weekly_18 rfl (lv_at hl 3 rfl) ?_
      refine lv_iconst (v := 0) hx hb dX5_weekly_19 (by decide) ?_
      refine lv_sipush (v := 200) hx hb dX5_weekly_20 (by decide) ?_
      refine vp_callSi (W.runS (As := [.int p3, .int 0, .int 200]) (rest := []) ⟨hx, hb, hml, hown, hts⟩ (cX5_isOutside_ok l p3 0 200 _ h) (va_cwS 3 hts gX5_weekly_X5_isOutside rfl rfl rfl (by decide +kernel) ⟨Nat.le_of_ble_eq_true rfl, Nat.le_of_ble_eq_true rfl⟩) z_preS rfl rfl hl.1 rfl (lv_room (Nat.le_of_ble_eq_true rfl)) dX5_weekly_23 ⟨Nat.le_of_ble_eq_true rfl, Nat.le_of_ble_eq_true rfl⟩) (fun r5 h => ?_)
      refine lv_if_eq (tgt := 32) hx hb dX5_weekly_26 (by decide) (fun c6 => ?_) (fun c6 => ?_)
      · replace h := h.1 c6
        refine lv_aload_n hx hb dX5_weekly_32 rfl (lv_at hl 0 rfl) ?_
        refine va_get (D := D) (ci := 5) (v := .ref (q 1 0)) (C := RX5) (T := TX5) (N := 8) hx hb hts inX5_weekly_5 hown hK hP 0 rfl rfl 0 (by decide) (hts (.fieldLink RX5 12 "CornLaws" "returns" "LCornLaws$Returns;") wdX5_weekly_0) (fun _ h9 => h9) rfl dX5_weekly_33 ?_
        refine lv_iload_n hx hb dX5_weekly_36 rfl (lv_at hl 1 rfl) ?_
        refine lv_iload_n hx hb dX5_weekly_37 rfl (lv_at hl 2 rfl) ?_
        refine lv_iload_n hx hb dX5_weekly_38 rfl (lv_at hl 3 rfl) ?_
        refine lv_iconst (v := (-1)) hx hb dX5_weekly_39 (by decide) ?_
        refine vp_callSi (W.runV (C := RX3) (As := [.int p1, .int p2, .int p3, .int (-1)]) (rest := []) ⟨hx, hb, hml, hown, hts⟩ (cX3_weeklyKnown_ok l D cI cII (q 1) u.1 p1 p2 p3 (-1) _ h) (cwV 4 hts gX5_weekly_X3_weeklyKnown rfl rfl rfl (by decide +kernel) ⟨Nat.le_of_ble_eq_true rfl, Nat.le_of_ble_eq_true rfl⟩) (z_preV hK (z_XR (cII := cII) (u := u) hP) rfl rfl) rfl rfl hl.1 rfl (lv_room (Nat.le_of_ble_eq_true rfl)) dX5_weekly_40 ⟨Nat.le_of_ble_eq_true rfl, Nat.le_of_ble_eq_true rfl⟩) (fun r7 h => ?_)
        exact W.iret (v := r7) hx hb hr (fun t ht hW => ⟨r7, rfl, h, ht⟩) (fun _ h9 => by cases h9) dX5_weekly_43
      · replace h := h.2 c6
        refine lv_bipush (v := (-2)) hx hb dX5_weekly_29 (by decide) ?_
        exact W.iret (v := (-2)) hx hb hr (fun t ht hW => ⟨(-2), rfl, h, ht⟩) (fun _ h9 => by cases h9) dX5_weekly_31

/-! X5_average -/
set_option maxRecDepth 20000 in
theorem wdX5_average_0 : Cond.fieldLink RX5 12 "CornLaws" "returns" "LCornLaws$Returns;" ∈ wsX5_average := by decide +kernel
set_option maxRecDepth 20000 in
theorem inX5_average_5 : ∀ w ∈ wsX50, w ∈ wsX5_average := by decide +kernel
set_option maxHeartbeats 4000000 in
set_option maxRecDepth 100000 in
theorem cX5_average_ok (l : Launch) (D : va_G) (cI cII : ClassId) (q : Nat → Nat → Nat) (u : XS) (p1 : Int32) (p2 : Int32) (post : Int32 → Prop) (h : wpX5_average u p1 p2 post) : Met l yX5_average wsX5_average ({ frames := 3, cells := 0, slots := 0, locals := 76 } : Room) (zPc [.ref (q 0 0), .int p1, .int p2] D cI cII (wX cI cII q u)) (vp_Si post) 0 0 (fun _ => False) := by
  refine Met.ofW (cc := cX5_average) (maxL := 3) (ret := (some .int)) (by decide) rfl ?_
  intro p e s m args below meth c s₁ B hml hv
  obtain ⟨rfl, hP, hK⟩ := hv
  have hx := B.exec
  have hb := B.bytes
  have hr := B.returns
  have hts := atoms_spec (ws := wsX5_average) B.pre
  have hown : s.vm.findClass RX5 = some m.cls := findClass_of_methodNamed B.named
  have hlocks := B.notSynchronized
  have hl := lv_entry ([.ref (q 0 0), .int p1, .int p2]) (n := 3) (Nat.le_of_ble_eq_true rfl)
  rw [lg_entry_eq]
  generalize (lg_sl ([.ref (q 0 0), .int p1, .int p2]) ++ List.replicate (3 - (lg_sl ([.ref (q 0 0), .int p1, .int p2])).length) Slot.unset).toArray = ls at hl ⊢
  have hl : lv_has ls 3 [(0, .ref (q 0 0)), (1, .int p1), (2, .int p2)] := hl
  unfold wpX5_average at h
  refine lv_iload_n hx hb dX5_average_0 rfl (lv_at hl 1 rfl) ?_
  refine vp_callSi (W.runS (As := [.int p1]) (rest := []) ⟨hx, hb, hml, hown, hts⟩ (cX5_isNoGrain_ok l p1 _ h) (va_cwS 1 hts gX5_average_X5_isNoGrain rfl rfl rfl (by decide +kernel) ⟨Nat.le_of_ble_eq_true rfl, Nat.le_of_ble_eq_true rfl⟩) z_preS rfl rfl hl.1 rfl (lv_room (Nat.le_of_ble_eq_true rfl)) dX5_average_1 ⟨Nat.le_of_ble_eq_true rfl, Nat.le_of_ble_eq_true rfl⟩) (fun r1 h => ?_)
  refine lv_if_ne (tgt := 18) hx hb dX5_average_4 (by decide) (fun c2 => ?_) (fun c2 => ?_)
  · replace h := h.1 c2
    refine lv_bipush (v := (-2)) hx hb dX5_average_18 (by decide) ?_
    exact W.iret (v := (-2)) hx hb hr (fun t ht hW => ⟨(-2), rfl, h, ht⟩) (fun _ h9 => by cases h9) dX5_average_20
  · replace h := h.2 c2
    refine lv_iload_n hx hb dX5_average_7 rfl (lv_at hl 2 rfl) ?_
    refine lv_iconst (v := 0) hx hb dX5_average_8 (by decide) ?_
    refine lv_sipush (v := 220) hx hb dX5_average_9 (by decide) ?_
    refine vp_callSi (W.runS (As := [.int p2, .int 0, .int 220]) (rest := []) ⟨hx, hb, hml, hown, hts⟩ (cX5_isOutside_ok l p2 0 220 _ h) (va_cwS 3 hts gX5_average_X5_isOutside rfl rfl rfl (by decide +kernel) ⟨Nat.le_of_ble_eq_true rfl, Nat.le_of_ble_eq_true rfl⟩) z_preS rfl rfl hl.1 rfl (lv_room (Nat.le_of_ble_eq_true rfl)) dX5_average_12 ⟨Nat.le_of_ble_eq_true rfl, Nat.le_of_ble_eq_true rfl⟩) (fun r3 h => ?_)
    refine lv_if_eq (tgt := 21) hx hb dX5_average_15 (by decide) (fun c4 => ?_) (fun c4 => ?_)
    · replace h := h.1 c4
      refine lv_aload_n hx hb dX5_average_21 rfl (lv_at hl 0 rfl) ?_
      refine va_get (D := D) (ci := 5) (v := .ref (q 1 0)) (C := RX5) (T := TX5) (N := 8) hx hb hts inX5_average_5 hown hK hP 0 rfl rfl 0 (by decide) (hts (.fieldLink RX5 12 "CornLaws" "returns" "LCornLaws$Returns;") wdX5_average_0) (fun _ h9 => h9) rfl dX5_average_22 ?_
      refine lv_iload_n hx hb dX5_average_25 rfl (lv_at hl 1 rfl) ?_
      refine lv_iload_n hx hb dX5_average_26 rfl (lv_at hl 2 rfl) ?_
      refine lv_iconst (v := (-1)) hx hb dX5_average_27 (by decide) ?_
      refine vp_callSi (W.runV (C := RX3) (As := [.int p1, .int p2, .int (-1)]) (rest := []) ⟨hx, hb, hml, hown, hts⟩ (cX3_averageKnown_ok l D cI cII (q 1) u.1 p1 p2 (-1) _ h) (cwV 3 hts gX5_average_X3_averageKnown rfl rfl rfl (by decide +kernel) ⟨Nat.le_of_ble_eq_true rfl, Nat.le_of_ble_eq_true rfl⟩) (z_preV hK (z_XR (cII := cII) (u := u) hP) rfl rfl) rfl rfl hl.1 rfl (lv_room (Nat.le_of_ble_eq_true rfl)) dX5_average_28 ⟨Nat.le_of_ble_eq_true rfl, Nat.le_of_ble_eq_true rfl⟩) (fun r5 h => ?_)
      exact W.iret (v := r5) hx hb hr (fun t ht hW => ⟨r5, rfl, h, ht⟩) (fun _ h9 => by cases h9) dX5_average_31
    · replace h := h.2 c4
      refine lv_bipush (v := (-2)) hx hb dX5_average_18 (by decide) ?_
      exact W.iret (v := (-2)) hx hb hr (fun t ht hW => ⟨(-2), rfl, h, ht⟩) (fun _ h9 => by cases h9) dX5_average_20

/-! X5_towns -/
set_option maxRecDepth 20000 in
theorem wdX5_towns_0 : Cond.fieldLink RX5 12 "CornLaws" "returns" "LCornLaws$Returns;" ∈ wsX5_towns := by decide +kernel
set_option maxRecDepth 20000 in
theorem inX5_towns_5 : ∀ w ∈ wsX50, w ∈ wsX5_towns := by decide +kernel
set_option maxHeartbeats 4000000 in
set_option maxRecDepth 100000 in
theorem cX5_towns_ok (l : Launch) (D : va_G) (cI cII : ClassId) (q : Nat → Nat → Nat) (u : XS) (p1 : Int32) (p2 : Int32) (post : Int32 → Prop) (h : wpX5_towns u p1 p2 post) : Met l yX5_towns wsX5_towns ({ frames := 2, cells := 0, slots := 0, locals := 46 } : Room) (zPc [.ref (q 0 0), .int p1, .int p2] D cI cII (wX cI cII q u)) (vp_Si post) 0 0 (fun _ => False) := by
  refine Met.ofW (cc := cX5_towns) (maxL := 3) (ret := (some .int)) (by decide) rfl ?_
  intro p e s m args below meth c s₁ B hml hv
  obtain ⟨rfl, hP, hK⟩ := hv
  have hx := B.exec
  have hb := B.bytes
  have hr := B.returns
  have hts := atoms_spec (ws := wsX5_towns) B.pre
  have hown : s.vm.findClass RX5 = some m.cls := findClass_of_methodNamed B.named
  have hlocks := B.notSynchronized
  have hl := lv_entry ([.ref (q 0 0), .int p1, .int p2]) (n := 3) (Nat.le_of_ble_eq_true rfl)
  rw [lg_entry_eq]
  generalize (lg_sl ([.ref (q 0 0), .int p1, .int p2]) ++ List.replicate (3 - (lg_sl ([.ref (q 0 0), .int p1, .int p2])).length) Slot.unset).toArray = ls at hl ⊢
  have hl : lv_has ls 3 [(0, .ref (q 0 0)), (1, .int p1), (2, .int p2)] := hl
  unfold wpX5_towns at h
  refine lv_iload_n hx hb dX5_towns_0 rfl (lv_at hl 1 rfl) ?_
  refine lv_iconst (v := 0) hx hb dX5_towns_1 (by decide) ?_
  refine lv_sipush (v := 200) hx hb dX5_towns_2 (by decide) ?_
  refine vp_callSi (W.runS (As := [.int p1, .int 0, .int 200]) (rest := []) ⟨hx, hb, hml, hown, hts⟩ (cX5_isOutside_ok l p1 0 200 _ h) (va_cwS 3 hts gX5_towns_X5_isOutside rfl rfl rfl (by decide +kernel) ⟨Nat.le_of_ble_eq_true rfl, Nat.le_of_ble_eq_true rfl⟩) z_preS rfl rfl hl.1 rfl (lv_room (Nat.le_of_ble_eq_true rfl)) dX5_towns_5 ⟨Nat.le_of_ble_eq_true rfl, Nat.le_of_ble_eq_true rfl⟩) (fun r1 h => ?_)
  refine lv_if_ne (tgt := 22) hx hb dX5_towns_8 (by decide) (fun c2 => ?_) (fun c2 => ?_)
  · replace h := h.1 c2
    refine lv_bipush (v := (-2)) hx hb dX5_towns_22 (by decide) ?_
    exact W.iret (v := (-2)) hx hb hr (fun t ht hW => ⟨(-2), rfl, h, ht⟩) (fun _ h9 => by cases h9) dX5_towns_24
  · replace h := h.2 c2
    refine lv_iload_n hx hb dX5_towns_11 rfl (lv_at hl 2 rfl) ?_
    refine lv_iconst (v := 0) hx hb dX5_towns_12 (by decide) ?_
    refine lv_sipush (v := 200) hx hb dX5_towns_13 (by decide) ?_
    refine vp_callSi (W.runS (As := [.int p2, .int 0, .int 200]) (rest := []) ⟨hx, hb, hml, hown, hts⟩ (cX5_isOutside_ok l p2 0 200 _ h) (va_cwS 3 hts gX5_towns_X5_isOutside rfl rfl rfl (by decide +kernel) ⟨Nat.le_of_ble_eq_true rfl, Nat.le_of_ble_eq_true rfl⟩) z_preS rfl rfl hl.1 rfl (lv_room (Nat.le_of_ble_eq_true rfl)) dX5_towns_16 ⟨Nat.le_of_ble_eq_true rfl, Nat.le_of_ble_eq_true rfl⟩) (fun r3 h => ?_)
    refine lv_if_eq (tgt := 25) hx hb dX5_towns_19 (by decide) (fun c4 => ?_) (fun c4 => ?_)
    · replace h := h.1 c4
      refine lv_aload_n hx hb dX5_towns_25 rfl (lv_at hl 0 rfl) ?_
      refine va_get (D := D) (ci := 5) (v := .ref (q 1 0)) (C := RX5) (T := TX5) (N := 8) hx hb hts inX5_towns_5 hown hK hP 0 rfl rfl 0 (by decide) (hts (.fieldLink RX5 12 "CornLaws" "returns" "LCornLaws$Returns;") wdX5_towns_0) (fun _ h9 => h9) rfl dX5_towns_26 ?_
      refine lv_iload_n hx hb dX5_towns_29 rfl (lv_at hl 1 rfl) ?_
      refine lv_iload_n hx hb dX5_towns_30 rfl (lv_at hl 2 rfl) ?_
      refine vp_callSi (W.runV (C := RX3) (As := [.int p1, .int p2]) (rest := []) ⟨hx, hb, hml, hown, hts⟩ (cX3_townsKnown_ok l D cI cII (q 1) u.1 p1 p2 _ h) (cwV 2 hts gX5_towns_X3_townsKnown rfl rfl rfl (by decide +kernel) ⟨Nat.le_of_ble_eq_true rfl, Nat.le_of_ble_eq_true rfl⟩) (z_preV hK (z_XR (cII := cII) (u := u) hP) rfl rfl) rfl rfl hl.1 rfl (lv_room (Nat.le_of_ble_eq_true rfl)) dX5_towns_31 ⟨Nat.le_of_ble_eq_true rfl, Nat.le_of_ble_eq_true rfl⟩) (fun r5 h => ?_)
      exact W.iret (v := r5) hx hb hr (fun t ht hW => ⟨r5, rfl, h, ht⟩) (fun _ h9 => by cases h9) dX5_towns_34
    · replace h := h.2 c4
      refine lv_bipush (v := (-2)) hx hb dX5_towns_22 (by decide) ?_
      exact W.iret (v := (-2)) hx hb hr (fun t ht hW => ⟨(-2), rfl, h, ht⟩) (fun _ h9 => by cases h9) dX5_towns_24
