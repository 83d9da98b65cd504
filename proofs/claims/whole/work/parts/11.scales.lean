/-! X4_has -/
set_option maxRecDepth 20000 in
theorem wdX4_has_0 : Cond.fieldLink RX4 32 "CornLaws$Scales" "size" "I" ∈ wsX4_has := by decide +kernel
set_option maxRecDepth 20000 in
theorem inX4_has_4 : ∀ w ∈ wsX40, w ∈ wsX4_has := by decide +kernel
set_option maxHeartbeats 4000000 in
set_option maxRecDepth 100000 in
theorem cX4_has_ok (l : Launch) (D : va_G) (cI cII : ClassId) (q : Nat → Nat) (a : RS) (p1 : Int32) (post : Int32 → Prop) (h : wpX4_has a p1 post) : Met l yX4_has wsX4_has ({ frames := 0, cells := 0, slots := 0, locals := 0 } : Room) (zPc [.ref (q 0), .int p1] D cI cII (wS cI cII q a)) (vp_Si post) 0 0 (fun _ => False) := by
  refine Met.ofW (cc := cX4_has) (maxL := 2) (ret := (some .boolean)) (by decide) rfl ?_
  intro p e s m args below meth c s₁ B hml hv
  obtain ⟨rfl, hP, hK⟩ := hv
  have hx := B.exec
  have hb := B.bytes
  have hr := B.returns
  have hts := atoms_spec (ws := wsX4_has) B.pre
  have hown : s.vm.findClass RX4 = some m.cls := findClass_of_methodNamed B.named
  have hlocks := B.notSynchronized
  have hl := lv_entry ([.ref (q 0), .int p1]) (n := 2) (Nat.le_of_ble_eq_true rfl)
  rw [lg_entry_eq]
  generalize (lg_sl ([.ref (q 0), .int p1]) ++ List.replicate (2 - (lg_sl ([.ref (q 0), .int p1])).length) Slot.unset).toArray = ls at hl ⊢
  have hl : lv_has ls 2 [(0, .ref (q 0)), (1, .int p1)] := hl
  unfold wpX4_has at h
  refine lv_iload_n hx hb dX4_has_0 rfl (lv_at hl 1 rfl) ?_
  refine lv_if_lt (tgt := 16) hx hb dX4_has_1 (by decide) (fun c1 => ?_) (fun c1 => ?_)
  · replace h := h.1 c1
    refine lv_iconst (v := 0) hx hb dX4_has_16 (by decide) ?_
    exact W.zret (v := 0) (ty := .boolean) hx hb hr (by decide) (fun t ht hW => ⟨0, rfl, h, ht⟩) (fun _ h9 => by cases h9) dX4_has_17
  · replace h := h.2 c1
    refine lv_iload_n hx hb dX4_has_4 rfl (lv_at hl 1 rfl) ?_
    refine lv_aload_n hx hb dX4_has_5 rfl (lv_at hl 0 rfl) ?_
    refine va_get (D := D) (ci := 4) (v := .int (a 9 0)) (C := RX4) (T := TX4) (N := 7) hx hb hts inX4_has_4 hown hK hP 0 rfl rfl 6 (by decide) (hts (.fieldLink RX4 32 "CornLaws$Scales" "size" "I") wdX4_has_0) (fun _ h9 => h9) rfl dX4_has_6 ?_
    refine lv_icmp_ge (tgt := 16) hx hb dX4_has_9 (by decide) (fun c2 => ?_) (fun c2 => ?_)
    · replace h := h.1 c2
      refine lv_iconst (v := 0) hx hb dX4_has_16 (by decide) ?_
      exact W.zret (v := 0) (ty := .boolean) hx hb hr (by decide) (fun t ht hW => ⟨0, rfl, h, ht⟩) (fun _ h9 => by cases h9) dX4_has_17
    · replace h := h.2 c2
      refine lv_iconst (v := 1) hx hb dX4_has_12 (by decide) ?_
      refine lv_goto (tgt := 17) hx hb dX4_has_13 (by decide) ?_
      exact W.zret (v := 1) (ty := .boolean) hx hb hr (by decide) (fun t ht hW => ⟨1, rfl, h, ht⟩) (fun _ h9 => by cases h9) dX4_has_17

/-! X4_isOf -/
set_option maxRecDepth 20000 in
theorem wdX4_isOf_0 : Cond.fieldLink RX4 9 "CornLaws$Scales" "grain" "[I" ∈ wsX4_isOf := by decide +kernel
set_option maxRecDepth 20000 in
theorem inX4_isOf_4 : ∀ w ∈ wsX40, w ∈ wsX4_isOf := by decide +kernel
set_option maxHeartbeats 4000000 in
set_option maxRecDepth 100000 in
theorem cX4_isOf_ok (l : Launch) (D : va_G) (cI cII : ClassId) (q : Nat → Nat) (a : RS) (p1 : Int32) (p2 : Int32) (post : Int32 → Prop) (h : wpX4_isOf a p1 p2 post) : Met l yX4_isOf wsX4_isOf ({ frames := 1, cells := 0, slots := 0, locals := 21 } : Room) (zPc [.ref (q 0), .int p1, .int p2] D cI cII (wS cI cII q a)) (vp_Si post) 0 0 (fun _ => False) := by
  refine Met.ofW (cc := cX4_isOf) (maxL := 3) (ret := (some .boolean)) (by decide) rfl ?_
  intro p e s m args below meth c s₁ B hml hv
  obtain ⟨rfl, hP, hK⟩ := hv
  have hx := B.exec
  have hb := B.bytes
  have hr := B.returns
  have hts := atoms_spec (ws := wsX4_isOf) B.pre
  have hown : s.vm.findClass RX4 = some m.cls := findClass_of_methodNamed B.named
  have hlocks := B.notSynchronized
  have hl := lv_entry ([.ref (q 0), .int p1, .int p2]) (n := 3) (Nat.le_of_ble_eq_true rfl)
  rw [lg_entry_eq]
  generalize (lg_sl ([.ref (q 0), .int p1, .int p2]) ++ List.replicate (3 - (lg_sl ([.ref (q 0), .int p1, .int p2])).length) Slot.unset).toArray = ls at hl ⊢
  have hl : lv_has ls 3 [(0, .ref (q 0)), (1, .int p1), (2, .int p2)] := hl
  unfold wpX4_isOf at h
  refine lv_aload_n hx hb dX4_isOf_0 rfl (lv_at hl 0 rfl) ?_
  refine lv_iload_n hx hb dX4_isOf_1 rfl (lv_at hl 1 rfl) ?_
  refine vp_callSi (W.runV (C := RX4) (As := [.int p1]) (rest := []) ⟨hx, hb, hml, hown, hts⟩ (cX4_has_ok l D cI cII q a p1 _ h) (cwV 1 hts gX4_isOf_X4_has rfl rfl rfl (by decide +kernel) ⟨Nat.le_of_ble_eq_true rfl, Nat.le_of_ble_eq_true rfl⟩) (z_preV hK hP rfl rfl) rfl rfl hl.1 rfl (lv_room (Nat.le_of_ble_eq_true rfl)) dX4_isOf_2 ⟨Nat.le_of_ble_eq_true rfl, Nat.le_of_ble_eq_true rfl⟩) (fun r1 h => ?_)
  refine lv_if_eq (tgt := 22) hx hb dX4_isOf_5 (by decide) (fun c2 => ?_) (fun c2 => ?_)
  · replace h := h.1 c2
    refine lv_iconst (v := 0) hx hb dX4_isOf_22 (by decide) ?_
    exact W.zret (v := 0) (ty := .boolean) hx hb hr (by decide) (fun t ht hW => ⟨0, rfl, h, ht⟩) (fun _ h9 => by cases h9) dX4_isOf_23
  · replace h := h.2 c2
    refine lv_aload_n hx hb dX4_isOf_8 rfl (lv_at hl 0 rfl) ?_
    refine va_get (D := D) (ci := 4) (v := .ref (q 1)) (C := RX4) (T := TX4) (N := 7) hx hb hts inX4_isOf_4 hown hK hP 0 rfl rfl 0 (by decide) (hts (.fieldLink RX4 9 "CornLaws$Scales" "grain" "[I") wdX4_isOf_0) (fun _ h9 => h9) rfl dX4_isOf_9 ?_
    refine lv_iload_n hx hb dX4_isOf_12 rfl (lv_at hl 1 rfl) ?_
    obtain ⟨hi3, h⟩ := h
    refine va_iald (f := a 0) hx hb hK hP 1 0 rfl rfl hi3 dX4_isOf_13 ?_
    refine lv_iload_n hx hb dX4_isOf_14 rfl (lv_at hl 2 rfl) ?_
    refine lv_icmp_ne (tgt := 22) hx hb dX4_isOf_15 (by decide) (fun c4 => ?_) (fun c4 => ?_)
    · replace h := h.1 c4
      refine lv_iconst (v := 0) hx hb dX4_isOf_22 (by decide) ?_
      exact W.zret (v := 0) (ty := .boolean) hx hb hr (by decide) (fun t ht hW => ⟨0, rfl, h, ht⟩) (fun _ h9 => by cases h9) dX4_isOf_23
    · replace h := h.2 c4
      refine lv_iconst (v := 1) hx hb dX4_isOf_18 (by decide) ?_
      refine lv_goto (tgt := 23) hx hb dX4_isOf_19 (by decide) ?_
      exact W.zret (v := 1) (ty := .boolean) hx hb hr (by decide) (fun t ht hW => ⟨1, rfl, h, ht⟩) (fun _ h9 => by cases h9) dX4_isOf_23

/-! X4_add -/
set_option maxRecDepth 20000 in
theorem wdX4_add_0 : Cond.fieldLink RX4 32 "CornLaws$Scales" "size" "I" ∈ wsX4_add := by decide +kernel
set_option maxRecDepth 20000 in
theorem wdX4_add_1 : Cond.fieldLink RX4 9 "CornLaws$Scales" "grain" "[I" ∈ wsX4_add := by decide +kernel
set_option maxRecDepth 20000 in
theorem wdX4_add_2 : Cond.fieldLink RX4 15 "CornLaws$Scales" "week" "[I" ∈ wsX4_add := by decide +kernel
set_option maxRecDepth 20000 in
theorem wdX4_add_3 : Cond.fieldLink RX4 18 "CornLaws$Scales" "told" "[I" ∈ wsX4_add := by decide +kernel
set_option maxRecDepth 20000 in
theorem inX4_add_4 : ∀ w ∈ wsX40, w ∈ wsX4_add := by decide +kernel
set_option maxHeartbeats 4000000 in
set_option maxRecDepth 100000 in
theorem cX4_add_ok (l : Launch) (D : va_G) (cI cII : ClassId) (q : Nat → Nat) (a : RS) (p1 : Int32) (p2 : Int32) (p3 : Int32) (post : Int32 → RS → Prop) (h : wpX4_add a p1 p2 p3 post) : Met l yX4_add wsX4_add ({ frames := 0, cells := 0, slots := 0, locals := 0 } : Room) (zPm [.ref (q 0), .int p1, .int p2, .int p3] D cI cII (wS cI cII q a)) (va_Qi post (fun (z : RS) (t : State) => va_P D vwCl (wS cI cII q z) t.heap) (z_in (wS cI cII q a))) 0 0 (z_in (wS cI cII q a)) := by
  refine Met.ofW (cc := cX4_add) (maxL := 5) (ret := (some .int)) (by decide) rfl ?_
  intro p e s m args below meth c s₁ B hml hv
  obtain ⟨rfl, hP, hK, hD0⟩ := hv
  have hx := B.exec
  have hb := B.bytes
  have hr := B.returns
  have hts := atoms_spec (ws := wsX4_add) B.pre
  have hown : s.vm.findClass RX4 = some m.cls := findClass_of_methodNamed B.named
  have hlocks := B.notSynchronized
  have hD := z_Dself hD0
  generalize hAe : z_in (wS cI cII q a) = A at hD ⊢
  have hS : va_S A s.heap s.heap [] := va_S.rf
  have hl := lv_entry ([.ref (q 0), .int p1, .int p2, .int p3]) (n := 5) (Nat.le_of_ble_eq_true rfl)
  rw [lg_entry_eq]
  generalize (lg_sl ([.ref (q 0), .int p1, .int p2, .int p3]) ++ List.replicate (5 - (lg_sl ([.ref (q 0), .int p1, .int p2, .int p3])).length) Slot.unset).toArray = ls at hl ⊢
  have hl : lv_has ls 5 [(0, .ref (q 0)), (1, .int p1), (2, .int p2), (3, .int p3)] := hl
  unfold wpX4_add at h
  refine lv_aload_n hx hb dX4_add_0 rfl (lv_at hl 0 rfl) ?_
  refine va_get (D := D) (ci := 4) (v := .int (a 9 0)) (C := RX4) (T := TX4) (N := 7) hx hb hts inX4_add_4 hown hK hP 0 rfl rfl 6 (by decide) (hts (.fieldLink RX4 32 "CornLaws$Scales" "size" "I") wdX4_add_0) (fun _ h9 => h9) rfl dX4_add_1 ?_
  refine lv_istore (lv' := [(4, .int (a 9 0)), (0, .ref (q 0)), (1, .int p1), (2, .int p2), (3, .int p3)]) hx hb dX4_add_4 hl (by decide) rfl (fun ls hl => ?_)
  refine lv_aload_n hx hb dX4_add_6 rfl (lv_at hl 1 rfl) ?_
  refine va_get (D := D) (ci := 4) (v := .ref (q 1)) (C := RX4) (T := TX4) (N := 7) hx hb hts inX4_add_4 hown hK hP 0 rfl rfl 0 (by decide) (hts (.fieldLink RX4 9 "CornLaws$Scales" "grain" "[I") wdX4_add_1) (fun _ h9 => h9) rfl dX4_add_7 ?_
  refine lv_iload hx hb dX4_add_10 (lv_at hl 0 rfl) ?_
  refine lv_iload_n hx hb dX4_add_12 rfl (lv_at hl 2 rfl) ?_
  obtain ⟨hi1, h⟩ := h
  refine va_iast (f := a 0) hx hb hK hP hD hS 1 0 rfl rfl hi1 dX4_add_13 (fun H locs hP hD hS => ?_)
  have hP : va_P D vwCl (wS cI cII q (va_up a 0 (upd (a 0) ((a 9 0).toNatClampNeg) (p1)))) H := hP
  have hD : va_D A (wS cI cII q (va_up a 0 (upd (a 0) ((a 9 0).toNatClampNeg) (p1)))) := hD
  refine lv_aload_n hx hb dX4_add_14 rfl (lv_at hl 1 rfl) ?_
  refine va_get (D := D) (ci := 4) (v := .ref (q 2)) (C := RX4) (T := TX4) (N := 7) hx hb hts inX4_add_4 hown hK hP 0 rfl rfl 1 (by decide) (hts (.fieldLink RX4 15 "CornLaws$Scales" "week" "[I") wdX4_add_2) (fun _ h9 => h9) rfl dX4_add_15 ?_
  refine lv_iload hx hb dX4_add_18 (lv_at hl 0 rfl) ?_
  refine lv_iload_n hx hb dX4_add_20 rfl (lv_at hl 3 rfl) ?_
  refine va_iast (f := a 1) hx hb hK hP hD hS 2 0 rfl rfl hi1 dX4_add_21 (fun H locs hP hD hS => ?_)
  have hP : va_P D vwCl (wS cI cII q (va_up (va_up a 0 (upd (a 0) ((a 9 0).toNatClampNeg) (p1))) 1 (upd (a 1) ((a 9 0).toNatClampNeg) (p2)))) H := hP
  have hD : va_D A (wS cI cII q (va_up (va_up a 0 (upd (a 0) ((a 9 0).toNatClampNeg) (p1))) 1 (upd (a 1) ((a 9 0).toNatClampNeg) (p2)))) := hD
  refine lv_aload_n hx hb dX4_add_22 rfl (lv_at hl 1 rfl) ?_
  refine va_get (D := D) (ci := 4) (v := .ref (q 3)) (C := RX4) (T := TX4) (N := 7) hx hb hts inX4_add_4 hown hK hP 0 rfl rfl 2 (by decide) (hts (.fieldLink RX4 18 "CornLaws$Scales" "told" "[I") wdX4_add_3) (fun _ h9 => h9) rfl dX4_add_23 ?_
  refine lv_iload hx hb dX4_add_26 (lv_at hl 0 rfl) ?_
  refine lv_iload_n hx hb dX4_add_28 rfl (lv_at hl 4 rfl) ?_
  refine va_iast (f := a 2) hx hb hK hP hD hS 3 0 rfl rfl hi1 dX4_add_29 (fun H locs hP hD hS => ?_)
  have hP : va_P D vwCl (wS cI cII q (va_up (va_up (va_up a 0 (upd (a 0) ((a 9 0).toNatClampNeg) (p1))) 1 (upd (a 1) ((a 9 0).toNatClampNeg) (p2))) 2 (upd (a 2) ((a 9 0).toNatClampNeg) (p3)))) H := hP
  have hD : va_D A (wS cI cII q (va_up (va_up (va_up a 0 (upd (a 0) ((a 9 0).toNatClampNeg) (p1))) 1 (upd (a 1) ((a 9 0).toNatClampNeg) (p2))) 2 (upd (a 2) ((a 9 0).toNatClampNeg) (p3)))) := hD
  refine lv_aload_n hx hb dX4_add_30 rfl (lv_at hl 1 rfl) ?_
  refine lv_iload hx hb dX4_add_31 (lv_at hl 0 rfl) ?_
  refine lv_iconst (v := 1) hx hb dX4_add_33 (by decide) ?_
  refine lv_iadd hx hb dX4_add_34 ?_
  refine va_put (D := D) (ci := 4) (v := .int ((a 9 0) + 1)) (ty := .int) (C := RX4) (T := TX4) (N := 7) hx hb hts inX4_add_4 tyX4 tyX4_ok nmX4 hown hK hP hD hS 0 rfl rfl 6 (by decide) (hts (.fieldLink RX4 32 "CornLaws$Scales" "size" "I") wdX4_add_0) (fun _ h9 => h9) rfl (by decide +kernel) rfl rfl (Nat.le_of_ble_eq_true rfl) dX4_add_35 (fun H locs hP hD hS => ?_)
  have hP : va_P D vwCl (wS cI cII q (va_up (va_up (va_up (va_up a 0 (upd (a 0) ((a 9 0).toNatClampNeg) (p1))) 1 (upd (a 1) ((a 9 0).toNatClampNeg) (p2))) 2 (upd (a 2) ((a 9 0).toNatClampNeg) (p3))) 9 (upd (a 9) 0 (((a 9 0) + 1))))) H := hP
  have hD : va_D A (wS cI cII q (va_up (va_up (va_up (va_up a 0 (upd (a 0) ((a 9 0).toNatClampNeg) (p1))) 1 (upd (a 1) ((a 9 0).toNatClampNeg) (p2))) 2 (upd (a 2) ((a 9 0).toNatClampNeg) (p3))) 9 (upd (a 9) 0 (((a 9 0) + 1))))) := hD
  refine lv_iload hx hb dX4_add_38 (lv_at hl 0 rfl) ?_
  exact W.iret (v := (a 9 0)) hx hb hr (fun t ht hW => ⟨⟨(a 9 0), (va_up (va_up (va_up (va_up a 0 (upd (a 0) ((a 9 0).toNatClampNeg) (p1))) 1 (upd (a 1) ((a 9 0).toNatClampNeg) (p2))) 2 (upd (a 2) ((a 9 0).toNatClampNeg) (p3))) 9 (upd (a 9) 0 (((a 9 0) + 1)))), rfl, h, by show va_P D vwCl _ t.heap; rw [ht]; exact hP⟩, hS.F ht⟩) hS.2.2 dX4_add_40

/-! X4_lastPrice -/
set_option maxRecDepth 20000 in
theorem wdX4_lastPrice_0 : Cond.fieldLink RX4 21 "CornLaws$Scales" "steps" "[I" ∈ wsX4_lastPrice := by decide +kernel
set_option maxRecDepth 20000 in
theorem wdX4_lastPrice_1 : Cond.fieldLink RX4 26 "CornLaws$Scales" "stepPrice" "[[I" ∈ wsX4_lastPrice := by decide +kernel
set_option maxRecDepth 20000 in
theorem inX4_lastPrice_4 : ∀ w ∈ wsX40, w ∈ wsX4_lastPrice := by decide +kernel
set_option maxHeartbeats 4000000 in
set_option maxRecDepth 100000 in
theorem cX4_lastPrice_ok (l : Launch) (D : va_G) (cI cII : ClassId) (q : Nat → Nat) (a : RS) (p1 : Int32) (post : Int32 → Prop) (h : wpX4_lastPrice a p1 post) : Met l yX4_lastPrice wsX4_lastPrice ({ frames := 0, cells := 0, slots := 0, locals := 0 } : Room) (zPc [.ref (q 0), .int p1] D cI cII (wS cI cII q a)) (vp_Si post) 0 0 (fun _ => False) := by
  refine Met.ofW (cc := cX4_lastPrice) (maxL := 2) (ret := (some .int)) (by decide) rfl ?_
  intro p e s m args below meth c s₁ B hml hv
  obtain ⟨rfl, hP, hK⟩ := hv
  have hx := B.exec
  have hb := B.bytes
  have hr := B.returns
  have hts := atoms_spec (ws := wsX4_lastPrice) B.pre
  have hown : s.vm.findClass RX4 = some m.cls := findClass_of_methodNamed B.named
  have hlocks := B.notSynchronized
  have hl := lv_entry ([.ref (q 0), .int p1]) (n := 2) (Nat.le_of_ble_eq_true rfl)
  rw [lg_entry_eq]
  generalize (lg_sl ([.ref (q 0), .int p1]) ++ List.replicate (2 - (lg_sl ([.ref (q 0), .int p1])).length) Slot.unset).toArray = ls at hl ⊢
  have hl : lv_has ls 2 [(0, .ref (q 0)), (1, .int p1)] := hl
  unfold wpX4_lastPrice at h
  refine lv_aload_n hx hb dX4_lastPrice_0 rfl (lv_at hl 0 rfl) ?_
  refine va_get (D := D) (ci := 4) (v := .ref (q 4)) (C := RX4) (T := TX4) (N := 7) hx hb hts inX4_lastPrice_4 hown hK hP 0 rfl rfl 3 (by decide) (hts (.fieldLink RX4 21 "CornLaws$Scales" "steps" "[I") wdX4_lastPrice_0) (fun _ h9 => h9) rfl dX4_lastPrice_1 ?_
  refine lv_iload_n hx hb dX4_lastPrice_4 rfl (lv_at hl 1 rfl) ?_
  obtain ⟨hi1, h⟩ := h
  refine va_iald (f := a 3) hx hb hK hP 4 0 rfl rfl hi1 dX4_lastPrice_5 ?_
  refine lv_if_ne (tgt := 13) hx hb dX4_lastPrice_6 (by decide) (fun c2 => ?_) (fun c2 => ?_)
  · replace h := h.1 c2
    refine lv_aload_n hx hb dX4_lastPrice_13 rfl (lv_at hl 0 rfl) ?_
    refine va_get (D := D) (ci := 4) (v := .ref (q 5)) (C := RX4) (T := TX4) (N := 7) hx hb hts inX4_lastPrice_4 hown hK hP 0 rfl rfl 4 (by decide) (hts (.fieldLink RX4 26 "CornLaws$Scales" "stepPrice" "[[I") wdX4_lastPrice_1) (fun _ h9 => h9) rfl dX4_lastPrice_14 ?_
    refine lv_iload_n hx hb dX4_lastPrice_17 rfl (lv_at hl 1 rfl) ?_
    refine z_aald (b := 10) hx hb hK hP 5 1 rfl rfl hi1 dX4_lastPrice_18 ?_
    refine lv_aload_n hx hb dX4_lastPrice_19 rfl (lv_at hl 0 rfl) ?_
    refine va_get (D := D) (ci := 4) (v := .ref (q 4)) (C := RX4) (T := TX4) (N := 7) hx hb hts inX4_lastPrice_4 hown hK hP 0 rfl rfl 3 (by decide) (hts (.fieldLink RX4 21 "CornLaws$Scales" "steps" "[I") wdX4_lastPrice_0) (fun _ h9 => h9) rfl dX4_lastPrice_20 ?_
    refine lv_iload_n hx hb dX4_lastPrice_23 rfl (lv_at hl 1 rfl) ?_
    refine va_iald (f := a 3) hx hb hK hP 4 0 rfl rfl hi1 dX4_lastPrice_24 ?_
    refine lv_iconst (v := 1) hx hb dX4_lastPrice_25 (by decide) ?_
    refine lv_isub hx hb dX4_lastPrice_26 ?_
    obtain ⟨hi3, h⟩ := h
    refine va_iald (f := a (10 + p1.toNatClampNeg)) hx hb hK hP (7 + p1.toNatClampNeg) 0 (z_row10 (z_lt hi1)) rfl hi3 dX4_lastPrice_27 ?_
    exact W.iret (v := (a (10 + p1.toNatClampNeg) ((a 3 p1.toNatClampNeg) - 1).toNatClampNeg)) hx hb hr (fun t ht hW => ⟨(a (10 + p1.toNatClampNeg) ((a 3 p1.toNatClampNeg) - 1).toNatClampNeg), rfl, h, ht⟩) (fun _ h9 => by cases h9) dX4_lastPrice_28
  · replace h := h.2 c2
    refine lv_iconst (v := (-1)) hx hb dX4_lastPrice_9 (by decide) ?_
    refine lv_goto (tgt := 28) hx hb dX4_lastPrice_10 (by decide) ?_
    exact W.iret (v := (-1)) hx hb hr (fun t ht hW => ⟨(-1), rfl, h, ht⟩) (fun _ h9 => by cases h9) dX4_lastPrice_28

/-! X4_isSettled -/
set_option maxRecDepth 20000 in
theorem wdX4_isSettled_0 : Cond.fieldLink RX4 15 "CornLaws$Scales" "week" "[I" ∈ wsX4_isSettled := by decide +kernel
set_option maxRecDepth 20000 in
theorem wdX4_isSettled_1 : Cond.fieldLink RX4 18 "CornLaws$Scales" "told" "[I" ∈ wsX4_isSettled := by decide +kernel
set_option maxRecDepth 20000 in
theorem inX4_isSettled_4 : ∀ w ∈ wsX40, w ∈ wsX4_isSettled := by decide +kernel
set_option maxHeartbeats 4000000 in
set_option maxRecDepth 100000 in
theorem cX4_isSettled_ok (l : Launch) (D : va_G) (cI cII : ClassId) (q : Nat → Nat) (a : RS) (p1 : Int32) (p2 : Int32) (post : Int32 → Prop) (h : wpX4_isSettled a p1 p2 post) : Met l yX4_isSettled wsX4_isSettled ({ frames := 0, cells := 0, slots := 0, locals := 0 } : Room) (zPc [.ref (q 0), .int p1, .int p2] D cI cII (wS cI cII q a)) (vp_Si post) 0 0 (fun _ => False) := by
  refine Met.ofW (cc := cX4_isSettled) (maxL := 3) (ret := (some .boolean)) (by decide) rfl ?_
  intro p e s m args below meth c s₁ B hml hv
  obtain ⟨rfl, hP, hK⟩ := hv
  have hx := B.exec
  have hb := B.bytes
  have hr := B.returns
  have hts := atoms_spec (ws := wsX4_isSettled) B.pre
  have hown : s.vm.findClass RX4 = some m.cls := findClass_of_methodNamed B.named
  have hlocks := B.notSynchronized
  have hl := lv_entry ([.ref (q 0), .int p1, .int p2]) (n := 3) (Nat.le_of_ble_eq_true rfl)
  rw [lg_entry_eq]
  generalize (lg_sl ([.ref (q 0), .int p1, .int p2]) ++ List.replicate (3 - (lg_sl ([.ref (q 0), .int p1, .int p2])).length) Slot.unset).toArray = ls at hl ⊢
  have hl : lv_has ls 3 [(0, .ref (q 0)), (1, .int p1), (2, .int p2)] := hl
  unfold wpX4_isSettled at h
  refine lv_aload_n hx hb dX4_isSettled_0 rfl (lv_at hl 0 rfl) ?_
  refine va_get (D := D) (ci := 4) (v := .ref (q 2)) (C := RX4) (T := TX4) (N := 7) hx hb hts inX4_isSettled_4 hown hK hP 0 rfl rfl 1 (by decide) (hts (.fieldLink RX4 15 "CornLaws$Scales" "week" "[I") wdX4_isSettled_0) (fun _ h9 => h9) rfl dX4_isSettled_1 ?_
  refine lv_iload_n hx hb dX4_isSettled_4 rfl (lv_at hl 1 rfl) ?_
  obtain ⟨hi1, h⟩ := h
  refine va_iald (f := a 1) hx hb hK hP 2 0 rfl rfl hi1 dX4_isSettled_5 ?_
  refine lv_iload_n hx hb dX4_isSettled_6 rfl (lv_at hl 2 rfl) ?_
  refine lv_icmp_gt (tgt := 24) hx hb dX4_isSettled_7 (by decide) (fun c2 => ?_) (fun c2 => ?_)
  · replace h := h.1 c2
    refine lv_iconst (v := 0) hx hb dX4_isSettled_24 (by decide) ?_
    exact W.zret (v := 0) (ty := .boolean) hx hb hr (by decide) (fun t ht hW => ⟨0, rfl, h, ht⟩) (fun _ h9 => by cases h9) dX4_isSettled_25
  · replace h := h.2 c2
    refine lv_aload_n hx hb dX4_isSettled_10 rfl (lv_at hl 0 rfl) ?_
    refine va_get (D := D) (ci := 4) (v := .ref (q 3)) (C := RX4) (T := TX4) (N := 7) hx hb hts inX4_isSettled_4 hown hK hP 0 rfl rfl 2 (by decide) (hts (.fieldLink RX4 18 "CornLaws$Scales" "told" "[I") wdX4_isSettled_1) (fun _ h9 => h9) rfl dX4_isSettled_11 ?_
    refine lv_iload_n hx hb dX4_isSettled_14 rfl (lv_at hl 1 rfl) ?_
    refine va_iald (f := a 2) hx hb hK hP 3 0 rfl rfl hi1 dX4_isSettled_15 ?_
    refine lv_iload_n hx hb dX4_isSettled_16 rfl (lv_at hl 2 rfl) ?_
    refine lv_icmp_eq (tgt := 24) hx hb dX4_isSettled_17 (by decide) (fun c3 => ?_) (fun c3 => ?_)
    · replace h := h.1 c3
      refine lv_iconst (v := 0) hx hb dX4_isSettled_24 (by decide) ?_
      exact W.zret (v := 0) (ty := .boolean) hx hb hr (by decide) (fun t ht hW => ⟨0, rfl, h, ht⟩) (fun _ h9 => by cases h9) dX4_isSettled_25
    · replace h := h.2 c3
      refine lv_iconst (v := 1) hx hb dX4_isSettled_20 (by decide) ?_
      refine lv_goto (tgt := 25) hx hb dX4_isSettled_21 (by decide) ?_
      exact W.zret (v := 1) (ty := .boolean) hx hb hr (by decide) (fun t ht hW => ⟨1, rfl, h, ht⟩) (fun _ h9 => by cases h9) dX4_isSettled_25

/-! X4_addStep -/
set_option maxRecDepth 20000 in
theorem wdX4_addStep_0 : Cond.fieldLink RX4 26 "CornLaws$Scales" "stepPrice" "[[I" ∈ wsX4_addStep := by decide +kernel
set_option maxRecDepth 20000 in
theorem wdX4_addStep_1 : Cond.fieldLink RX4 21 "CornLaws$Scales" "steps" "[I" ∈ wsX4_addStep := by decide +kernel
set_option maxRecDepth 20000 in
theorem wdX4_addStep_2 : Cond.fieldLink RX4 29 "CornLaws$Scales" "stepDuty" "[[I" ∈ wsX4_addStep := by decide +kernel
set_option maxRecDepth 20000 in
theorem inX4_addStep_4 : ∀ w ∈ wsX40, w ∈ wsX4_addStep := by decide +kernel
set_option maxHeartbeats 4000000 in
set_option maxRecDepth 100000 in
theorem cX4_addStep_ok (l : Launch) (D : va_G) (cI cII : ClassId) (q : Nat → Nat) (a : RS) (p1 : Int32) (p2 : Int32) (p3 : Int32) (post : Int32 → RS → Prop) (h : wpX4_addStep a p1 p2 p3 post) : Met l yX4_addStep wsX4_addStep ({ frames := 0, cells := 0, slots := 0, locals := 0 } : Room) (zPm [.ref (q 0), .int p1, .int p2, .int p3] D cI cII (wS cI cII q a)) (va_Qi post (fun (z : RS) (t : State) => va_P D vwCl (wS cI cII q z) t.heap) (z_in (wS cI cII q a))) 0 0 (z_in (wS cI cII q a)) := by
  refine Met.ofW (cc := cX4_addStep) (maxL := 4) (ret := (some .int)) (by decide) rfl ?_
  intro p e s m args below meth c s₁ B hml hv
  obtain ⟨rfl, hP, hK, hD0⟩ := hv
  have hx := B.exec
  have hb := B.bytes
  have hr := B.returns
  have hts := atoms_spec (ws := wsX4_addStep) B.pre
  have hown : s.vm.findClass RX4 = some m.cls := findClass_of_methodNamed B.named
  have hlocks := B.notSynchronized
  have hD := z_Dself hD0
  generalize hAe : z_in (wS cI cII q a) = A at hD ⊢
  have hS : va_S A s.heap s.heap [] := va_S.rf
  have hl := lv_entry ([.ref (q 0), .int p1, .int p2, .int p3]) (n := 4) (Nat.le_of_ble_eq_true rfl)
  rw [lg_entry_eq]
  generalize (lg_sl ([.ref (q 0), .int p1, .int p2, .int p3]) ++ List.replicate (4 - (lg_sl ([.ref (q 0), .int p1, .int p2, .int p3])).length) Slot.unset).toArray = ls at hl ⊢
  have hl : lv_has ls 4 [(0, .ref (q 0)), (1, .int p1), (2, .int p2), (3, .int p3)] := hl
  unfold wpX4_addStep at h
  refine lv_aload_n hx hb dX4_addStep_0 rfl (lv_at hl 0 rfl) ?_
  refine va_get (D := D) (ci := 4) (v := .ref (q 5)) (C := RX4) (T := TX4) (N := 7) hx hb hts inX4_addStep_4 hown hK hP 0 rfl rfl 4 (by decide) (hts (.fieldLink RX4 26 "CornLaws$Scales" "stepPrice" "[[I") wdX4_addStep_0) (fun _ h9 => h9) rfl dX4_addStep_1 ?_
  refine lv_iload_n hx hb dX4_addStep_4 rfl (lv_at hl 1 rfl) ?_
  obtain ⟨hi1, h⟩ := h
  refine z_aald (b := 10) hx hb hK hP 5 1 rfl rfl hi1 dX4_addStep_5 ?_
  refine lv_aload_n hx hb dX4_addStep_6 rfl (lv_at hl 0 rfl) ?_
  refine va_get (D := D) (ci := 4) (v := .ref (q 4)) (C := RX4) (T := TX4) (N := 7) hx hb hts inX4_addStep_4 hown hK hP 0 rfl rfl 3 (by decide) (hts (.fieldLink RX4 21 "CornLaws$Scales" "steps" "[I") wdX4_addStep_1) (fun _ h9 => h9) rfl dX4_addStep_7 ?_
  refine lv_iload_n hx hb dX4_addStep_10 rfl (lv_at hl 1 rfl) ?_
  refine va_iald (f := a 3) hx hb hK hP 4 0 rfl rfl hi1 dX4_addStep_11 ?_
  refine lv_iload_n hx hb dX4_addStep_12 rfl (lv_at hl 2 rfl) ?_
  obtain ⟨hi2, h⟩ := h
  refine va_iast (f := a (10 + p1.toNatClampNeg)) hx hb hK hP hD hS (7 + p1.toNatClampNeg) 0 (z_row10 (z_lt hi1)) rfl hi2 dX4_addStep_13 (fun H locs hP hD hS => ?_)
  rw [z_set10 (z_lt hi1)] at hP hD
  obtain ⟨a3, ea3⟩ : ∃ z, z = va_up a (10 + p1.toNatClampNeg) (upd (a (10 + p1.toNatClampNeg)) (a 3 p1.toNatClampNeg).toNatClampNeg (p2)) := ⟨_, rfl⟩
  rw [← ea3] at hP hD
  replace h := h a3 ea3
  refine lv_aload_n hx hb dX4_addStep_14 rfl (lv_at hl 0 rfl) ?_
  refine va_get (D := D) (ci := 4) (v := .ref (q 6)) (C := RX4) (T := TX4) (N := 7) hx hb hts inX4_addStep_4 hown hK hP 0 rfl rfl 5 (by decide) (hts (.fieldLink RX4 29 "CornLaws$Scales" "stepDuty" "[[I") wdX4_addStep_2) (fun _ h9 => h9) rfl dX4_addStep_15 ?_
  refine lv_iload_n hx hb dX4_addStep_18 rfl (lv_at hl 1 rfl) ?_
  refine z_aald (b := 20) hx hb hK hP 6 1 rfl rfl hi1 dX4_addStep_19 ?_
  refine lv_aload_n hx hb dX4_addStep_20 rfl (lv_at hl 0 rfl) ?_
  refine va_get (D := D) (ci := 4) (v := .ref (q 4)) (C := RX4) (T := TX4) (N := 7) hx hb hts inX4_addStep_4 hown hK hP 0 rfl rfl 3 (by decide) (hts (.fieldLink RX4 21 "CornLaws$Scales" "steps" "[I") wdX4_addStep_1) (fun _ h9 => h9) rfl dX4_addStep_21 ?_
  refine lv_iload_n hx hb dX4_addStep_24 rfl (lv_at hl 1 rfl) ?_
  refine va_iald (f := a3 3) hx hb hK hP 4 0 rfl rfl hi1 dX4_addStep_25 ?_
  refine lv_iload_n hx hb dX4_addStep_26 rfl (lv_at hl 3 rfl) ?_
  obtain ⟨hi4, h⟩ := h
  refine va_iast (f := a3 (20 + p1.toNatClampNeg)) hx hb hK hP hD hS (15 + p1.toNatClampNeg) 0 (z_row20 (z_lt hi1)) rfl hi4 dX4_addStep_27 (fun H locs hP hD hS => ?_)
  rw [z_set20 (z_lt hi1)] at hP hD
  obtain ⟨a5, ea5⟩ : ∃ z, z = va_up a3 (20 + p1.toNatClampNeg) (upd (a3 (20 + p1.toNatClampNeg)) (a3 3 p1.toNatClampNeg).toNatClampNeg (p3)) := ⟨_, rfl⟩
  rw [← ea5] at hP hD
  replace h := h a5 ea5
  refine lv_aload_n hx hb dX4_addStep_28 rfl (lv_at hl 0 rfl) ?_
  refine va_get (D := D) (ci := 4) (v := .ref (q 4)) (C := RX4) (T := TX4) (N := 7) hx hb hts inX4_addStep_4 hown hK hP 0 rfl rfl 3 (by decide) (hts (.fieldLink RX4 21 "CornLaws$Scales" "steps" "[I") wdX4_addStep_1) (fun _ h9 => h9) rfl dX4_addStep_29 ?_
  refine lv_iload_n hx hb dX4_addStep_32 rfl (lv_at hl 1 rfl) ?_
  refine lv_dup2_11 hx hb dX4_addStep_33 rfl rfl ?_
  refine va_iald (f := a5 3) hx hb hK hP 4 0 rfl rfl hi1 dX4_addStep_34 ?_
  refine lv_iconst (v := 1) hx hb dX4_addStep_35 (by decide) ?_
  refine lv_iadd hx hb dX4_addStep_36 ?_
  refine va_iast (f := a5 3) hx hb hK hP hD hS 4 0 rfl rfl hi1 dX4_addStep_37 (fun H locs hP hD hS => ?_)
  have hP : va_P D vwCl (wS cI cII q (va_up a5 3 (upd (a5 3) (p1.toNatClampNeg) (((a5 3 p1.toNatClampNeg) + 1))))) H := hP
  have hD : va_D A (wS cI cII q (va_up a5 3 (upd (a5 3) (p1.toNatClampNeg) (((a5 3 p1.toNatClampNeg) + 1))))) := hD
  refine lv_aload_n hx hb dX4_addStep_38 rfl (lv_at hl 0 rfl) ?_
  refine va_get (D := D) (ci := 4) (v := .ref (q 4)) (C := RX4) (T := TX4) (N := 7) hx hb hts inX4_addStep_4 hown hK hP 0 rfl rfl 3 (by decide) (hts (.fieldLink RX4 21 "CornLaws$Scales" "steps" "[I") wdX4_addStep_1) (fun _ h9 => h9) rfl dX4_addStep_39 ?_
  refine lv_iload_n hx hb dX4_addStep_42 rfl (lv_at hl 1 rfl) ?_
  refine va_iald (f := upd (a5 3) (p1.toNatClampNeg) (((a5 3 p1.toNatClampNeg) + 1))) hx hb hK hP 4 0 rfl rfl hi1 dX4_addStep_43 ?_
  exact W.iret (v := ((upd (a5 3) (p1.toNatClampNeg) (((a5 3 p1.toNatClampNeg) + 1))) p1.toNatClampNeg)) hx hb hr (fun t ht hW => ⟨⟨((upd (a5 3) (p1.toNatClampNeg) (((a5 3 p1.toNatClampNeg) + 1))) p1.toNatClampNeg), (va_up a5 3 (upd (a5 3) (p1.toNatClampNeg) (((a5 3 p1.toNatClampNeg) + 1)))), rfl, h, by show va_P D vwCl _ t.heap; rw [ht]; exact hP⟩, hS.F ht⟩) hS.2.2 dX4_addStep_44

/-! X4_inForce -/
set_option maxRecDepth 20000 in
theorem wdX4_inForce_0 : Cond.fieldLink RX4 32 "CornLaws$Scales" "size" "I" ∈ wsX4_inForce := by decide +kernel
set_option maxRecDepth 20000 in
theorem wdX4_inForce_1 : Cond.fieldLink RX4 9 "CornLaws$Scales" "grain" "[I" ∈ wsX4_inForce := by decide +kernel
set_option maxRecDepth 20000 in
theorem wdX4_inForce_2 : Cond.fieldLink RX4 15 "CornLaws$Scales" "week" "[I" ∈ wsX4_inForce := by decide +kernel
set_option maxRecDepth 20000 in
theorem wdX4_inForce_3 : Cond.fieldLink RX4 21 "CornLaws$Scales" "steps" "[I" ∈ wsX4_inForce := by decide +kernel
set_option maxRecDepth 20000 in
theorem inX4_inForce_4 : ∀ w ∈ wsX40, w ∈ wsX4_inForce := by decide +kernel
set_option maxHeartbeats 4000000 in
set_option maxRecDepth 100000 in
theorem cX4_inForce_ok (l : Launch) (D : va_G) (cI cII : ClassId) (q : Nat → Nat) (a : RS) (p1 : Int32) (p2 : Int32) (post : Int32 → Prop) (h : wpX4_inForce a p1 p2 post) : Met l yX4_inForce wsX4_inForce ({ frames := 0, cells := 0, slots := 0, locals := 0 } : Room) (zPc [.ref (q 0), .int p1, .int p2] D cI cII (wS cI cII q a)) (vp_Si post) 0 0 (fun _ => False) := by
  refine Met.ofW (cc := cX4_inForce) (maxL := 6) (ret := (some .int)) (by decide) rfl ?_
  intro p e s m args below meth c s₁ B hml hv
  obtain ⟨rfl, hP, hK⟩ := hv
  have hx := B.exec
  have hb := B.bytes
  have hr := B.returns
  have hts := atoms_spec (ws := wsX4_inForce) B.pre
  have hown : s.vm.findClass RX4 = some m.cls := findClass_of_methodNamed B.named
  have hlocks := B.notSynchronized
  have hl := lv_entry ([.ref (q 0), .int p1, .int p2]) (n := 6) (Nat.le_of_ble_eq_true rfl)
  rw [lg_entry_eq]
  generalize (lg_sl ([.ref (q 0), .int p1, .int p2]) ++ List.replicate (6 - (lg_sl ([.ref (q 0), .int p1, .int p2])).length) Slot.unset).toArray = ls at hl ⊢
  have hl : lv_has ls 6 [(0, .ref (q 0)), (1, .int p1), (2, .int p2)] := hl
  unfold wpX4_inForce at h
  refine lv_iconst (v := (-1)) hx hb dX4_inForce_0 (by decide) ?_
  refine lv_istore_n (lv' := [(3, .int (-1)), (0, .ref (q 0)), (1, .int p1), (2, .int p2)]) hx hb dX4_inForce_1 rfl hl (by decide) rfl (fun ls hl => ?_)
  refine lv_iconst (v := 0) hx hb dX4_inForce_2 (by decide) ?_
  refine lv_istore (lv' := [(4, .int 0), (3, .int (-1)), (0, .ref (q 0)), (1, .int p1), (2, .int p2)]) hx hb dX4_inForce_3 hl (by decide) rfl (fun ls hl => ?_)
  have hL5 : ∀ (K5 : Int32 → Int32 → Prop) (hX : ∀ (x4_5 : Int32) (x3_5 : Int32), K5 x4_5 x3_5 → ∀ ls : Array Slot, lv_has ls 6 [(4, .int x4_5), (3, .int x3_5), (0, .ref (q 0)), (1, .int p1), (2, .int p2)] → W p l e (headSpec wsX4_inForce ({ frames := 0, cells := 0, slots := 0, locals := 0 } : Room)).room s m ([.ref (q 0), .int p1, .int p2] : List Value).toArray below meth c s.heap [] 0 0 (MQ below (vp_Si post) ([.ref (q 0), .int p1, .int p2] : List Value).toArray s 0 0 (fun _ => False)) (F0 m 88 ls [])) (n : Nat) (x4_5 : Int32) (x3_5 : Int32), wpX4_inForce_L5 a p1 p2 K5 n x4_5 x3_5 → ∀ ls : Array Slot, lv_has ls 6 [(4, .int x4_5), (3, .int x3_5), (0, .ref (q 0)), (1, .int p1), (2, .int p2)] → W p l e (headSpec wsX4_inForce ({ frames := 0, cells := 0, slots := 0, locals := 0 } : Room)).room s m ([.ref (q 0), .int p1, .int p2] : List Value).toArray below meth c s.heap [] 0 0 (MQ below (vp_Si post) ([.ref (q 0), .int p1, .int p2] : List Value).toArray s 0 0 (fun _ => False)) (F0 m 5 ls []) := by
    intro K5 hX n
    induction n with
    | zero => intro x4_5 x3_5 h; exact False.elim h
    | succ n ih =>
      intro x4_5 x3_5 h ls hl
      rw [wpX4_inForce_L5] at h
      refine lv_iload hx hb dX4_inForce_5 (lv_at hl 0 rfl) ?_
      refine lv_aload_n hx hb dX4_inForce_7 rfl (lv_at hl 2 rfl) ?_
      refine va_get (D := D) (ci := 4) (v := .int (a 9 0)) (C := RX4) (T := TX4) (N := 7) hx hb hts inX4_inForce_4 hown hK hP 0 rfl rfl 6 (by decide) (hts (.fieldLink RX4 32 "CornLaws$Scales" "size" "I") wdX4_inForce_0) (fun _ h9 => h9) rfl dX4_inForce_8 ?_
      refine lv_icmp_ge (tgt := 88) hx hb dX4_inForce_11 (by decide) (fun c1 => ?_) (fun c1 => ?_)
      · replace h := h.1 c1
        exact hX x4_5 x3_5 h ls (lv_sub hl [0, 1, 2, 3, 4] rfl)
      · replace h := h.2 c1
        refine lv_aload_n hx hb dX4_inForce_14 rfl (lv_at hl 2 rfl) ?_
        refine va_get (D := D) (ci := 4) (v := .ref (q 1)) (C := RX4) (T := TX4) (N := 7) hx hb hts inX4_inForce_4 hown hK hP 0 rfl rfl 0 (by decide) (hts (.fieldLink RX4 9 "CornLaws$Scales" "grain" "[I") wdX4_inForce_1) (fun _ h9 => h9) rfl dX4_inForce_15 ?_
        refine lv_iload hx hb dX4_inForce_18 (lv_at hl 0 rfl) ?_
        obtain ⟨hi2, h⟩ := h
        refine va_iald (f := a 0) hx hb hK hP 1 0 rfl rfl hi2 dX4_inForce_20 ?_
        refine lv_iload_n hx hb dX4_inForce_21 rfl (lv_at hl 3 rfl) ?_
        refine lv_icmp_ne (tgt := 50) hx hb dX4_inForce_22 (by decide) (fun c3 => ?_) (fun c3 => ?_)
        · replace h := h.1 c3
          refine lv_iconst (v := 0) hx hb dX4_inForce_50 (by decide) ?_
          refine lv_istore (lv' := [(5, .int 0), (4, .int x4_5), (3, .int x3_5), (0, .ref (q 0)), (1, .int p1), (2, .int p2)]) hx hb dX4_inForce_51 hl (by decide) rfl (fun ls hl => ?_)
          refine lv_iload hx hb dX4_inForce_53 (lv_at hl 0 rfl) ?_
          refine lv_if_eq (tgt := 82) hx hb dX4_inForce_55 (by decide) (fun c4 => ?_) (fun c4 => ?_)
          · replace h := h.1 c4
            refine lv_iinc (v := (x4_5 + 1)) (lv' := [(4, .int (x4_5 + 1)), (5, .int 0), (3, .int x3_5), (0, .ref (q 0)), (1, .int p1), (2, .int p2)]) hx hb dX4_inForce_82 hl (k := 1) rfl rfl (by decide) rfl (fun ls hl => ?_)
            refine lv_goto (tgt := 5) hx hb dX4_inForce_85 (by decide) ?_
            exact ih (x4_5 + 1) x3_5 h ls (lv_sub hl [0, 2, 3, 4, 5] rfl)
          · replace h := h.2 c4
            refine lv_iload_n hx hb dX4_inForce_58 rfl (lv_at hl 2 rfl) ?_
            refine lv_iconst (v := (-1)) hx hb dX4_inForce_59 (by decide) ?_
            refine lv_icmp_eq (tgt := 79) hx hb dX4_inForce_60 (by decide) (fun c5 => ?_) (fun c5 => ?_)
            · replace h := h.1 c5
              refine lv_iload hx hb dX4_inForce_79 (lv_at hl 1 rfl) ?_
              refine lv_istore_n (lv' := [(3, .int x4_5), (5, .int 0), (4, .int x4_5), (0, .ref (q 0)), (1, .int p1), (2, .int p2)]) hx hb dX4_inForce_81 rfl hl (by decide) rfl (fun ls hl => ?_)
              refine lv_iinc (v := (x4_5 + 1)) (lv' := [(4, .int (x4_5 + 1)), (3, .int x4_5), (5, .int 0), (0, .ref (q 0)), (1, .int p1), (2, .int p2)]) hx hb dX4_inForce_82 hl (k := 2) rfl rfl (by decide) rfl (fun ls hl => ?_)
              refine lv_goto (tgt := 5) hx hb dX4_inForce_85 (by decide) ?_
              exact ih (x4_5 + 1) x4_5 h ls (lv_sub hl [0, 1, 3, 4, 5] rfl)
            · replace h := h.2 c5
              refine lv_aload_n hx hb dX4_inForce_63 rfl (lv_at hl 3 rfl) ?_
              refine va_get (D := D) (ci := 4) (v := .ref (q 2)) (C := RX4) (T := TX4) (N := 7) hx hb hts inX4_inForce_4 hown hK hP 0 rfl rfl 1 (by decide) (hts (.fieldLink RX4 15 "CornLaws$Scales" "week" "[I") wdX4_inForce_2) (fun _ h9 => h9) rfl dX4_inForce_64 ?_
              refine lv_iload hx hb dX4_inForce_67 (lv_at hl 1 rfl) ?_
              refine va_iald (f := a 1) hx hb hK hP 2 0 rfl rfl hi2 dX4_inForce_69 ?_
              refine lv_aload_n hx hb dX4_inForce_70 rfl (lv_at hl 3 rfl) ?_
              refine va_get (D := D) (ci := 4) (v := .ref (q 2)) (C := RX4) (T := TX4) (N := 7) hx hb hts inX4_inForce_4 hown hK hP 0 rfl rfl 1 (by decide) (hts (.fieldLink RX4 15 "CornLaws$Scales" "week" "[I") wdX4_inForce_2) (fun _ h9 => h9) rfl dX4_inForce_71 ?_
              refine lv_iload_n hx hb dX4_inForce_74 rfl (lv_at hl 2 rfl) ?_
              obtain ⟨hi6, h⟩ := h
              refine va_iald (f := a 1) hx hb hK hP 2 0 rfl rfl hi6 dX4_inForce_75 ?_
              refine lv_icmp_lt (tgt := 82) hx hb dX4_inForce_76 (by decide) (fun c7 => ?_) (fun c7 => ?_)
              · replace h := h.1 c7
                refine lv_iinc (v := (x4_5 + 1)) (lv' := [(4, .int (x4_5 + 1)), (5, .int 0), (3, .int x3_5), (0, .ref (q 0)), (1, .int p1), (2, .int p2)]) hx hb dX4_inForce_82 hl (k := 1) rfl rfl (by decide) rfl (fun ls hl => ?_)
                refine lv_goto (tgt := 5) hx hb dX4_inForce_85 (by decide) ?_
                exact ih (x4_5 + 1) x3_5 h ls (lv_sub hl [0, 2, 3, 4, 5] rfl)
              · replace h := h.2 c7
                refine lv_iload hx hb dX4_inForce_79 (lv_at hl 1 rfl) ?_
                refine lv_istore_n (lv' := [(3, .int x4_5), (5, .int 0), (4, .int x4_5), (0, .ref (q 0)), (1, .int p1), (2, .int p2)]) hx hb dX4_inForce_81 rfl hl (by decide) rfl (fun ls hl => ?_)
                refine lv_iinc (v := (x4_5 + 1)) (lv' := [(4, .int (x4_5 + 1)), (3, .int x4_5), (5, .int 0), (0, .ref (q 0)), (1, .int p1), (2, .int p2)]) hx hb dX4_inForce_82 hl (k := 2) rfl rfl (by decide) rfl (fun ls hl => ?_)
                refine lv_goto (tgt := 5) hx hb dX4_inForce_85 (by decide) ?_
                exact ih (x4_5 + 1) x4_5 h ls (lv_sub hl [0, 1, 3, 4, 5] rfl)
        · replace h := h.2 c3
          refine lv_aload_n hx hb dX4_inForce_25 rfl (lv_at hl 2 rfl) ?_
          refine va_get (D := D) (ci := 4) (v := .ref (q 4)) (C := RX4) (T := TX4) (N := 7) hx hb hts inX4_inForce_4 hown hK hP 0 rfl rfl 3 (by decide) (hts (.fieldLink RX4 21 "CornLaws$Scales" "steps" "[I") wdX4_inForce_3) (fun _ h9 => h9) rfl dX4_inForce_26 ?_
          refine lv_iload hx hb dX4_inForce_29 (lv_at hl 0 rfl) ?_
          refine va_iald (f := a 3) hx hb hK hP 4 0 rfl rfl hi2 dX4_inForce_31 ?_
          refine lv_if_le (tgt := 50) hx hb dX4_inForce_32 (by decide) (fun c8 => ?_) (fun c8 => ?_)
          · replace h := h.1 c8
            refine lv_iconst (v := 0) hx hb dX4_inForce_50 (by decide) ?_
            refine lv_istore (lv' := [(5, .int 0), (4, .int x4_5), (3, .int x3_5), (0, .ref (q 0)), (1, .int p1), (2, .int p2)]) hx hb dX4_inForce_51 hl (by decide) rfl (fun ls hl => ?_)
            refine lv_iload hx hb dX4_inForce_53 (lv_at hl 0 rfl) ?_
            refine lv_if_eq (tgt := 82) hx hb dX4_inForce_55 (by decide) (fun c9 => ?_) (fun c9 => ?_)
            · replace h := h.1 c9
              refine lv_iinc (v := (x4_5 + 1)) (lv' := [(4, .int (x4_5 + 1)), (5, .int 0), (3, .int x3_5), (0, .ref (q 0)), (1, .int p1), (2, .int p2)]) hx hb dX4_inForce_82 hl (k := 1) rfl rfl (by decide) rfl (fun ls hl => ?_)
              refine lv_goto (tgt := 5) hx hb dX4_inForce_85 (by decide) ?_
              exact ih (x4_5 + 1) x3_5 h ls (lv_sub hl [0, 2, 3, 4, 5] rfl)
            · replace h := h.2 c9
              refine lv_iload_n hx hb dX4_inForce_58 rfl (lv_at hl 2 rfl) ?_
              refine lv_iconst (v := (-1)) hx hb dX4_inForce_59 (by decide) ?_
              refine lv_icmp_eq (tgt := 79) hx hb dX4_inForce_60 (by decide) (fun c10 => ?_) (fun c10 => ?_)
              · replace h := h.1 c10
                refine lv_iload hx hb dX4_inForce_79 (lv_at hl 1 rfl) ?_
                refine lv_istore_n (lv' := [(3, .int x4_5), (5, .int 0), (4, .int x4_5), (0, .ref (q 0)), (1, .int p1), (2, .int p2)]) hx hb dX4_inForce_81 rfl hl (by decide) rfl (fun ls hl => ?_)
                refine lv_iinc (v := (x4_5 + 1)) (lv' := [(4, .int (x4_5 + 1)), (3, .int x4_5), (5, .int 0), (0, .ref (q 0)), (1, .int p1), (2, .int p2)]) hx hb dX4_inForce_82 hl (k := 2) rfl rfl (by decide) rfl (fun ls hl => ?_)
                refine lv_goto (tgt := 5) hx hb dX4_inForce_85 (by decide) ?_
                exact ih (x4_5 + 1) x4_5 h ls (lv_sub hl [0, 1, 3, 4, 5] rfl)
              · replace h := h.2 c10
                refine lv_aload_n hx hb dX4_inForce_63 rfl (lv_at hl 3 rfl) ?_
                refine va_get (D := D) (ci := 4) (v := .ref (q 2)) (C := RX4) (T := TX4) (N := 7) hx hb hts inX4_inForce_4 hown hK hP 0 rfl rfl 1 (by decide) (hts (.fieldLink RX4 15 "CornLaws$Scales" "week" "[I") wdX4_inForce_2) (fun _ h9 => h9) rfl dX4_inForce_64 ?_
                refine lv_iload hx hb dX4_inForce_67 (lv_at hl 1 rfl) ?_
                refine va_iald (f := a 1) hx hb hK hP 2 0 rfl rfl hi2 dX4_inForce_69 ?_
                refine lv_aload_n hx hb dX4_inForce_70 rfl (lv_at hl 3 rfl) ?_
                refine va_get (D := D) (ci := 4) (v := .ref (q 2)) (C := RX4) (T := TX4) (N := 7) hx hb hts inX4_inForce_4 hown hK hP 0 rfl rfl 1 (by decide) (hts (.fieldLink RX4 15 "CornLaws$Scales" "week" "[I") wdX4_inForce_2) (fun _ h9 => h9) rfl dX4_inForce_71 ?_
                refine lv_iload_n hx hb dX4_inForce_74 rfl (lv_at hl 2 rfl) ?_
                obtain ⟨hi11, h⟩ := h
                refine va_iald (f := a 1) hx hb hK hP 2 0 rfl rfl hi11 dX4_inForce_75 ?_
                refine lv_icmp_lt (tgt := 82) hx hb dX4_inForce_76 (by decide) (fun c12 => ?_) (fun c12 => ?_)
                · replace h := h.1 c12
                  refine lv_iinc (v := (x4_5 + 1)) (lv' := [(4, .int (x4_5 + 1)), (5, .int 0), (3, .int x3_5), (0, .ref (q 0)), (1, .int p1), (2, .int p2)]) hx hb dX4_inForce_82 hl (k := 1) rfl rfl (by decide) rfl (fun ls hl => ?_)
                  refine lv_goto (tgt := 5) hx hb dX4_inForce_85 (by decide) ?_
                  exact ih (x4_5 + 1) x3_5 h ls (lv_sub hl [0, 2, 3, 4, 5] rfl)
                · replace h := h.2 c12
                  refine lv_iload hx hb dX4_inForce_79 (lv_at hl 1 rfl) ?_
                  refine lv_istore_n (lv' := [(3, .int x4_5), (5, .int 0), (4, .int x4_5), (0, .ref (q 0)), (1, .int p1), (2, .int p2)]) hx hb dX4_inForce_81 rfl hl (by decide) rfl (fun ls hl => ?_)
                  refine lv_iinc (v := (x4_5 + 1)) (lv' := [(4, .int (x4_5 + 1)), (3, .int x4_5), (5, .int 0), (0, .ref (q 0)), (1, .int p1), (2, .int p2)]) hx hb dX4_inForce_82 hl (k := 2) rfl rfl (by decide) rfl (fun ls hl => ?_)
                  refine lv_goto (tgt := 5) hx hb dX4_inForce_85 (by decide) ?_
                  exact ih (x4_5 + 1) x4_5 h ls (lv_sub hl [0, 1, 3, 4, 5] rfl)
          · replace h := h.2 c8
            refine lv_aload_n hx hb dX4_inForce_35 rfl (lv_at hl 2 rfl) ?_
            refine va_get (D := D) (ci := 4) (v := .ref (q 2)) (C := RX4) (T := TX4) (N := 7) hx hb hts inX4_inForce_4 hown hK hP 0 rfl rfl 1 (by decide) (hts (.fieldLink RX4 15 "CornLaws$Scales" "week" "[I") wdX4_inForce_2) (fun _ h9 => h9) rfl dX4_inForce_36 ?_
            refine lv_iload hx hb dX4_inForce_39 (lv_at hl 0 rfl) ?_
            refine va_iald (f := a 1) hx hb hK hP 2 0 rfl rfl hi2 dX4_inForce_41 ?_
            refine lv_iload_n hx hb dX4_inForce_42 rfl (lv_at hl 4 rfl) ?_
            refine lv_icmp_gt (tgt := 50) hx hb dX4_inForce_43 (by decide) (fun c13 => ?_) (fun c13 => ?_)
            · replace h := h.1 c13
              refine lv_iconst (v := 0) hx hb dX4_inForce_50 (by decide) ?_
              refine lv_istore (lv' := [(5, .int 0), (4, .int x4_5), (3, .int x3_5), (0, .ref (q 0)), (1, .int p1), (2, .int p2)]) hx hb dX4_inForce_51 hl (by decide) rfl (fun ls hl => ?_)
              refine lv_iload hx hb dX4_inForce_53 (lv_at hl 0 rfl) ?_
              refine lv_if_eq (tgt := 82) hx hb dX4_inForce_55 (by decide) (fun c14 => ?_) (fun c14 => ?_)
              · replace h := h.1 c14
                refine lv_iinc (v := (x4_5 + 1)) (lv' := [(4, .int (x4_5 + 1)), (5, .int 0), (3, .int x3_5), (0, .ref (q 0)), (1, .int p1), (2, .int p2)]) hx hb dX4_inForce_82 hl (k := 1) rfl rfl (by decide) rfl (fun ls hl => ?_)
                refine lv_goto (tgt := 5) hx hb dX4_inForce_85 (by decide) ?_
                exact ih (x4_5 + 1) x3_5 h ls (lv_sub hl [0, 2, 3, 4, 5] rfl)
              · replace h := h.2 c14
                refine lv_iload_n hx hb dX4_inForce_58 rfl (lv_at hl 2 rfl) ?_
                refine lv_iconst (v := (-1)) hx hb dX4_inForce_59 (by decide) ?_
                refine lv_icmp_eq (tgt := 79) hx hb dX4_inForce_60 (by decide) (fun c15 => ?_) (fun c15 => ?_)
                · replace h := h.1 c15
                  refine lv_iload hx hb dX4_inForce_79 (lv_at hl 1 rfl) ?_
                  refine lv_istore_n (lv' := [(3, .int x4_5), (5, .int 0), (4, .int x4_5), (0, .ref (q 0)), (1, .int p1), (2, .int p2)]) hx hb dX4_inForce_81 rfl hl (by decide) rfl (fun ls hl => ?_)
                  refine lv_iinc (v := (x4_5 + 1)) (lv' := [(4, .int (x4_5 + 1)), (3, .int x4_5), (5, .int 0), (0, .ref (q 0)), (1, .int p1), (2, .int p2)]) hx hb dX4_inForce_82 hl (k := 2) rfl rfl (by decide) rfl (fun ls hl => ?_)
                  refine lv_goto (tgt := 5) hx hb dX4_inForce_85 (by decide) ?_
                  exact ih (x4_5 + 1) x4_5 h ls (lv_sub hl [0, 1, 3, 4, 5] rfl)
                · replace h := h.2 c15
                  refine lv_aload_n hx hb dX4_inForce_63 rfl (lv_at hl 3 rfl) ?_
                  refine va_get (D := D) (ci := 4) (v := .ref (q 2)) (C := RX4) (T := TX4) (N := 7) hx hb hts inX4_inForce_4 hown hK hP 0 rfl rfl 1 (by decide) (hts (.fieldLink RX4 15 "CornLaws$Scales" "week" "[I") wdX4_inForce_2) (fun _ h9 => h9) rfl dX4_inForce_64 ?_
                  refine lv_iload hx hb dX4_inForce_67 (lv_at hl 1 rfl) ?_
                  refine va_iald (f := a 1) hx hb hK hP 2 0 rfl rfl hi2 dX4_inForce_69 ?_
                  refine lv_aload_n hx hb dX4_inForce_70 rfl (lv_at hl 3 rfl) ?_
                  refine va_get (D := D) (ci := 4) (v := .ref (q 2)) (C := RX4) (T := TX4) (N := 7) hx hb hts inX4_inForce_4 hown hK hP 0 rfl rfl 1 (by decide) (hts (.fieldLink RX4 15 "CornLaws$Scales" "week" "[I") wdX4_inForce_2) (fun _ h9 => h9) rfl dX4_inForce_71 ?_
                  refine lv_iload_n hx hb dX4_inForce_74 rfl (lv_at hl 2 rfl) ?_
                  obtain ⟨hi16, h⟩ := h
                  refine va_iald (f := a 1) hx hb hK hP 2 0 rfl rfl hi16 dX4_inForce_75 ?_
                  refine lv_icmp_lt (tgt := 82) hx hb dX4_inForce_76 (by decide) (fun c17 => ?_) (fun c17 => ?_)
                  · replace h := h.1 c17
                    refine lv_iinc (v := (x4_5 + 1)) (lv' := [(4, .int (x4_5 + 1)), (5, .int 0), (3, .int x3_5), (0, .ref (q 0)), (1, .int p1), (2, .int p2)]) hx hb dX4_inForce_82 hl (k := 1) rfl rfl (by decide) rfl (fun ls hl => ?_)
                    refine lv_goto (tgt := 5) hx hb dX4_inForce_85 (by decide) ?_
                    exact ih (x4_5 + 1) x3_5 h ls (lv_sub hl [0, 2, 3, 4, 5] rfl)
                  · replace h := h.2 c17
                    refine lv_iload hx hb dX4_inForce_79 (lv_at hl 1 rfl) ?_
                    refine lv_istore_n (lv' := [(3, .int x4_5), (5, .int 0), (4, .int x4_5), (0, .ref (q 0)), (1, .int p1), (2, .int p2)]) hx hb dX4_inForce_81 rfl hl (by decide) rfl (fun ls hl => ?_)
                    refine lv_iinc (v := (x4_5 + 1)) (lv' := [(4, .int (x4_5 + 1)), (3, .int x4_5), (5, .int 0), (0, .ref (q 0)), (1, .int p1), (2, .int p2)]) hx hb dX4_inForce_82 hl (k := 2) rfl rfl (by decide) rfl (fun ls hl => ?_)
                    refine lv_goto (tgt := 5) hx hb dX4_inForce_85 (by decide) ?_
                    exact ih (x4_5 + 1) x4_5 h ls (lv_sub hl [0, 1, 3, 4, 5] rfl)
            · replace h := h.2 c13
              refine lv_iconst (v := 1) hx hb dX4_inForce_46 (by decide) ?_
              refine lv_goto (tgt := 51) hx hb dX4_inForce_47 (by decide) ?_
              refine lv_istore (lv' := [(5, .int 1), (4, .int x4_5), (3, .int x3_5), (0, .ref (q 0)), (1, .int p1), (2, .int p2)]) hx hb dX4_inForce_51 hl (by decide) rfl (fun ls hl => ?_)
              refine lv_iload hx hb dX4_inForce_53 (lv_at hl 0 rfl) ?_
              refine lv_if_eq (tgt := 82) hx hb dX4_inForce_55 (by decide) (fun c18 => ?_) (fun c18 => ?_)
              · replace h := h.1 c18
                refine lv_iinc (v := (x4_5 + 1)) (lv' := [(4, .int (x4_5 + 1)), (5, .int 1), (3, .int x3_5), (0, .ref (q 0)), (1, .int p1), (2, .int p2)]) hx hb dX4_inForce_82 hl (k := 1) rfl rfl (by decide) rfl (fun ls hl => ?_)
                refine lv_goto (tgt := 5) hx hb dX4_inForce_85 (by decide) ?_
                exact ih (x4_5 + 1) x3_5 h ls (lv_sub hl [0, 2, 3, 4, 5] rfl)
              · replace h := h.2 c18
                refine lv_iload_n hx hb dX4_inForce_58 rfl (lv_at hl 2 rfl) ?_
                refine lv_iconst (v := (-1)) hx hb dX4_inForce_59 (by decide) ?_
                refine lv_icmp_eq (tgt := 79) hx hb dX4_inForce_60 (by decide) (fun c19 => ?_) (fun c19 => ?_)
                · replace h := h.1 c19
                  refine lv_iload hx hb dX4_inForce_79 (lv_at hl 1 rfl) ?_
                  refine lv_istore_n (lv' := [(3, .int x4_5), (5, .int 1), (4, .int x4_5), (0, .ref (q 0)), (1, .int p1), (2, .int p2)]) hx hb dX4_inForce_81 rfl hl (by decide) rfl (fun ls hl => ?_)
                  refine lv_iinc (v := (x4_5 + 1)) (lv' := [(4, .int (x4_5 + 1)), (3, .int x4_5), (5, .int 1), (0, .ref (q 0)), (1, .int p1), (2, .int p2)]) hx hb dX4_inForce_82 hl (k := 2) rfl rfl (by decide) rfl (fun ls hl => ?_)
                  refine lv_goto (tgt := 5) hx hb dX4_inForce_85 (by decide) ?_
                  exact ih (x4_5 + 1) x4_5 h ls (lv_sub hl [0, 1, 3, 4, 5] rfl)
                · replace h := h.2 c19
                  refine lv_aload_n hx hb dX4_inForce_63 rfl (lv_at hl 3 rfl) ?_
                  refine va_get (D := D) (ci := 4) (v := .ref (q 2)) (C := RX4) (T := TX4) (N := 7) hx hb hts inX4_inForce_4 hown hK hP 0 rfl rfl 1 (by decide) (hts (.fieldLink RX4 15 "CornLaws$Scales" "week" "[I") wdX4_inForce_2) (fun _ h9 => h9) rfl dX4_inForce_64 ?_
                  refine lv_iload hx hb dX4_inForce_67 (lv_at hl 1 rfl) ?_
                  refine va_iald (f := a 1) hx hb hK hP 2 0 rfl rfl hi2 dX4_inForce_69 ?_
                  refine lv_aload_n hx hb dX4_inForce_70 rfl (lv_at hl 3 rfl) ?_
                  refine va_get (D := D) (ci := 4) (v := .ref (q 2)) (C := RX4) (T := TX4) (N := 7) hx hb hts inX4_inForce_4 hown hK hP 0 rfl rfl 1 (by decide) (hts (.fieldLink RX4 15 "CornLaws$Scales" "week" "[I") wdX4_inForce_2) (fun _ h9 => h9) rfl dX4_inForce_71 ?_
                  refine lv_iload_n hx hb dX4_inForce_74 rfl (lv_at hl 2 rfl) ?_
                  obtain ⟨hi20, h⟩ := h
                  refine va_iald (f := a 1) hx hb hK hP 2 0 rfl rfl hi20 dX4_inForce_75 ?_
                  refine lv_icmp_lt (tgt := 82) hx hb dX4_inForce_76 (by decide) (fun c21 => ?_) (fun c21 => ?_)
                  · replace h := h.1 c21
                    refine lv_iinc (v := (x4_5 + 1)) (lv' := [(4, .int (x4_5 + 1)), (5, .int 1), (3, .int x3_5), (0, .ref (q 0)), (1, .int p1), (2, .int p2)]) hx hb dX4_inForce_82 hl (k := 1) rfl rfl (by decide) rfl (fun ls hl => ?_)
                    refine lv_goto (tgt := 5) hx hb dX4_inForce_85 (by decide) ?_
                    exact ih (x4_5 + 1) x3_5 h ls (lv_sub hl [0, 2, 3, 4, 5] rfl)
                  · replace h := h.2 c21
                    refine lv_iload hx hb dX4_inForce_79 (lv_at hl 1 rfl) ?_
                    refine lv_istore_n (lv' := [(3, .int x4_5), (5, .int 1), (4, .int x4_5), (0, .ref (q 0)), (1, .int p1), (2, .int p2)]) hx hb dX4_inForce_81 rfl hl (by decide) rfl (fun ls hl => ?_)
                    refine lv_iinc (v := (x4_5 + 1)) (lv' := [(4, .int (x4_5 + 1)), (3, .int x4_5), (5, .int 1), (0, .ref (q 0)), (1, .int p1), (2, .int p2)]) hx hb dX4_inForce_82 hl (k := 2) rfl rfl (by decide) rfl (fun ls hl => ?_)
                    refine lv_goto (tgt := 5) hx hb dX4_inForce_85 (by decide) ?_
                    exact ih (x4_5 + 1) x4_5 h ls (lv_sub hl [0, 1, 3, 4, 5] rfl)
  obtain ⟨n, h⟩ := h
  refine hL5 _ (fun x4_5 x3_5 h ls hl => ?_) n 0 (-1) h ls hl
  refine lv_iload_n hx hb dX4_inForce_88 rfl (lv_at hl 1 rfl) ?_
  exact W.iret (v := x3_5) hx hb hr (fun t ht hW => ⟨x3_5, rfl, h, ht⟩) (fun _ h9 => by cases h9) dX4_inForce_89

/-! X4_dutyBy -/
set_option maxRecDepth 20000 in
theorem wdX4_dutyBy_0 : Cond.fieldLink RX4 21 "CornLaws$Scales" "steps" "[I" ∈ wsX4_dutyBy := by decide +kernel
set_option maxRecDepth 20000 in
theorem wdX4_dutyBy_1 : Cond.fieldLink RX4 29 "CornLaws$Scales" "stepDuty" "[[I" ∈ wsX4_dutyBy := by decide +kernel
set_option maxRecDepth 20000 in
theorem wdX4_dutyBy_2 : Cond.fieldLink RX4 26 "CornLaws$Scales" "stepPrice" "[[I" ∈ wsX4_dutyBy := by decide +kernel
set_option maxRecDepth 20000 in
theorem inX4_dutyBy_4 : ∀ w ∈ wsX40, w ∈ wsX4_dutyBy := by decide +kernel
set_option maxHeartbeats 4000000 in
set_option maxRecDepth 100000 in
theorem cX4_dutyBy_ok (l : Launch) (D : va_G) (cI cII : ClassId) (q : Nat → Nat) (a : RS) (p1 : Int32) (p2 : Int32) (post : Int32 → Prop) (h : wpX4_dutyBy a p1 p2 post) : Met l yX4_dutyBy wsX4_dutyBy ({ frames := 1, cells := 0, slots := 0, locals := 21 } : Room) (zPc [.ref (q 0), .int p1, .int p2] D cI cII (wS cI cII q a)) (vp_Si post) 0 0 (fun _ => False) := by
  refine Met.ofW (cc := cX4_dutyBy) (maxL := 5) (ret := (some .int)) (by decide) rfl ?_
  intro p e s m args below meth c s₁ B hml hv
  obtain ⟨rfl, hP, hK⟩ := hv
  have hx := B.exec
  have hb := B.bytes
  have hr := B.returns
  have hts := atoms_spec (ws := wsX4_dutyBy) B.pre
  have hown : s.vm.findClass RX4 = some m.cls := findClass_of_methodNamed B.named
  have hlocks := B.notSynchronized
  have hl := lv_entry ([.ref (q 0), .int p1, .int p2]) (n := 5) (Nat.le_of_ble_eq_true rfl)
  rw [lg_entry_eq]
  generalize (lg_sl ([.ref (q 0), .int p1, .int p2]) ++ List.replicate (5 - (lg_sl ([.ref (q 0), .int p1, .int p2])).length) Slot.unset).toArray = ls at hl ⊢
  have hl : lv_has ls 5 [(0, .ref (q 0)), (1, .int p1), (2, .int p2)] := hl
  unfold wpX4_dutyBy at h
  refine lv_aload_n hx hb dX4_dutyBy_0 rfl (lv_at hl 0 rfl) ?_
  refine lv_iload_n hx hb dX4_dutyBy_1 rfl (lv_at hl 1 rfl) ?_
  refine vp_callSi (W.runV (C := RX4) (As := [.int p1]) (rest := []) ⟨hx, hb, hml, hown, hts⟩ (cX4_has_ok l D cI cII q a p1 _ h) (cwV 1 hts gX4_dutyBy_X4_has rfl rfl rfl (by decide +kernel) ⟨Nat.le_of_ble_eq_true rfl, Nat.le_of_ble_eq_true rfl⟩) (z_preV hK hP rfl rfl) rfl rfl hl.1 rfl (lv_room (Nat.le_of_ble_eq_true rfl)) dX4_dutyBy_2 ⟨Nat.le_of_ble_eq_true rfl, Nat.le_of_ble_eq_true rfl⟩) (fun r1 h => ?_)
  refine lv_if_eq (tgt := 17) hx hb dX4_dutyBy_5 (by decide) (fun c2 => ?_) (fun c2 => ?_)
  · replace h := h.1 c2
    refine lv_iconst (v := 0) hx hb dX4_dutyBy_17 (by decide) ?_
    exact W.iret (v := 0) hx hb hr (fun t ht hW => ⟨0, rfl, h, ht⟩) (fun _ h9 => by cases h9) dX4_dutyBy_18
  · replace h := h.2 c2
    refine lv_aload_n hx hb dX4_dutyBy_8 rfl (lv_at hl 0 rfl) ?_
    refine va_get (D := D) (ci := 4) (v := .ref (q 4)) (C := RX4) (T := TX4) (N := 7) hx hb hts inX4_dutyBy_4 hown hK hP 0 rfl rfl 3 (by decide) (hts (.fieldLink RX4 21 "CornLaws$Scales" "steps" "[I") wdX4_dutyBy_0) (fun _ h9 => h9) rfl dX4_dutyBy_9 ?_
    refine lv_iload_n hx hb dX4_dutyBy_12 rfl (lv_at hl 1 rfl) ?_
    obtain ⟨hi3, h⟩ := h
    refine va_iald (f := a 3) hx hb hK hP 4 0 rfl rfl hi3 dX4_dutyBy_13 ?_
    refine lv_if_ne (tgt := 19) hx hb dX4_dutyBy_14 (by decide) (fun c4 => ?_) (fun c4 => ?_)
    · replace h := h.1 c4
      refine lv_aload_n hx hb dX4_dutyBy_19 rfl (lv_at hl 0 rfl) ?_
      refine va_get (D := D) (ci := 4) (v := .ref (q 6)) (C := RX4) (T := TX4) (N := 7) hx hb hts inX4_dutyBy_4 hown hK hP 0 rfl rfl 5 (by decide) (hts (.fieldLink RX4 29 "CornLaws$Scales" "stepDuty" "[[I") wdX4_dutyBy_1) (fun _ h9 => h9) rfl dX4_dutyBy_20 ?_
      refine lv_iload_n hx hb dX4_dutyBy_23 rfl (lv_at hl 1 rfl) ?_
      refine z_aald (b := 20) hx hb hK hP 6 1 rfl rfl hi3 dX4_dutyBy_24 ?_
      refine lv_iconst (v := 0) hx hb dX4_dutyBy_25 (by decide) ?_
      refine va_iald (f := a (20 + p1.toNatClampNeg)) hx hb hK hP (15 + p1.toNatClampNeg) 0 (z_row20 (z_lt hi3)) rfl (by unfold vp_in; decide) dX4_dutyBy_26 ?_
      refine lv_istore_n (lv' := [(3, .int (a (20 + p1.toNatClampNeg) (0 : Int32).toNatClampNeg)), (0, .ref (q 0)), (1, .int p1), (2, .int p2)]) hx hb dX4_dutyBy_27 rfl hl (by decide) rfl (fun ls hl => ?_)
      refine lv_iconst (v := 1) hx hb dX4_dutyBy_28 (by decide) ?_
      refine lv_istore (lv' := [(4, .int 1), (3, .int (a (20 + p1.toNatClampNeg) (0 : Int32).toNatClampNeg)), (0, .ref (q 0)), (1, .int p1), (2, .int p2)]) hx hb dX4_dutyBy_29 hl (by decide) rfl (fun ls hl => ?_)
      have hL31 : ∀ (K31 : Int32 → Int32 → Prop) (hX : ∀ (x4_31 : Int32) (x3_31 : Int32), K31 x4_31 x3_31 → ∀ ls : Array Slot, lv_has ls 5 [(4, .int x4_31), (3, .int x3_31), (0, .ref (q 0)), (1, .int p1), (2, .int p2)] → W p l e (headSpec wsX4_dutyBy ({ frames := 1, cells := 0, slots := 0, locals := 21 } : Room)).room s m ([.ref (q 0), .int p1, .int p2] : List Value).toArray below meth c s.heap [] 0 0 (MQ below (vp_Si post) ([.ref (q 0), .int p1, .int p2] : List Value).toArray s 0 0 (fun _ => False)) (F0 m 71 ls [])) (n : Nat) (x4_31 : Int32) (x3_31 : Int32), wpX4_dutyBy_L31 a p1 p2 K31 n x4_31 x3_31 → ∀ ls : Array Slot, lv_has ls 5 [(4, .int x4_31), (3, .int x3_31), (0, .ref (q 0)), (1, .int p1), (2, .int p2)] → W p l e (headSpec wsX4_dutyBy ({ frames := 1, cells := 0, slots := 0, locals := 21 } : Room)).room s m ([.ref (q 0), .int p1, .int p2] : List Value).toArray below meth c s.heap [] 0 0 (MQ below (vp_Si post) ([.ref (q 0), .int p1, .int p2] : List Value).toArray s 0 0 (fun _ => False)) (F0 m 31 ls []) := by
        intro K31 hX n
        induction n with
        | zero => intro x4_31 x3_31 h; exact False.elim h
        | succ n ih =>
          intro x4_31 x3_31 h ls hl
          rw [wpX4_dutyBy_L31] at h
          refine lv_iload hx hb dX4_dutyBy_31 (lv_at hl 0 rfl) ?_
          refine lv_aload_n hx hb dX4_dutyBy_33 rfl (lv_at hl 2 rfl) ?_
          refine va_get (D := D) (ci := 4) (v := .ref (q 4)) (C := RX4) (T := TX4) (N := 7) hx hb hts inX4_dutyBy_4 hown hK hP 0 rfl rfl 3 (by decide) (hts (.fieldLink RX4 21 "CornLaws$Scales" "steps" "[I") wdX4_dutyBy_0) (fun _ h9 => h9) rfl dX4_dutyBy_34 ?_
          refine lv_iload_n hx hb dX4_dutyBy_37 rfl (lv_at hl 3 rfl) ?_
          refine va_iald (f := a 3) hx hb hK hP 4 0 rfl rfl hi3 dX4_dutyBy_38 ?_
          refine lv_icmp_ge (tgt := 71) hx hb dX4_dutyBy_39 (by decide) (fun c5 => ?_) (fun c5 => ?_)
          · replace h := h.1 c5
            exact hX x4_31 x3_31 h ls (lv_sub hl [0, 1, 2, 3, 4] rfl)
          · replace h := h.2 c5
            refine lv_aload_n hx hb dX4_dutyBy_42 rfl (lv_at hl 2 rfl) ?_
            refine va_get (D := D) (ci := 4) (v := .ref (q 5)) (C := RX4) (T := TX4) (N := 7) hx hb hts inX4_dutyBy_4 hown hK hP 0 rfl rfl 4 (by decide) (hts (.fieldLink RX4 26 "CornLaws$Scales" "stepPrice" "[[I") wdX4_dutyBy_2) (fun _ h9 => h9) rfl dX4_dutyBy_43 ?_
            refine lv_iload_n hx hb dX4_dutyBy_46 rfl (lv_at hl 3 rfl) ?_
            refine z_aald (b := 10) hx hb hK hP 5 1 rfl rfl hi3 dX4_dutyBy_47 ?_
            refine lv_iload hx hb dX4_dutyBy_48 (lv_at hl 0 rfl) ?_
            obtain ⟨hi6, h⟩ := h
            refine va_iald (f := a (10 + p1.toNatClampNeg)) hx hb hK hP (7 + p1.toNatClampNeg) 0 (z_row10 (z_lt hi3)) rfl hi6 dX4_dutyBy_50 ?_
            refine lv_iload_n hx hb dX4_dutyBy_51 rfl (lv_at hl 4 rfl) ?_
            refine lv_icmp_gt (tgt := 65) hx hb dX4_dutyBy_52 (by decide) (fun c7 => ?_) (fun c7 => ?_)
            · replace h := h.1 c7
              refine lv_iinc (v := (x4_31 + 1)) (lv' := [(4, .int (x4_31 + 1)), (3, .int x3_31), (0, .ref (q 0)), (1, .int p1), (2, .int p2)]) hx hb dX4_dutyBy_65 hl (k := 0) rfl rfl (by decide) rfl (fun ls hl => ?_)
              refine lv_goto (tgt := 31) hx hb dX4_dutyBy_68 (by decide) ?_
              exact ih (x4_31 + 1) x3_31 h ls (lv_sub hl [0, 1, 2, 3, 4] rfl)
            · replace h := h.2 c7
              refine lv_aload_n hx hb dX4_dutyBy_55 rfl (lv_at hl 2 rfl) ?_
              refine va_get (D := D) (ci := 4) (v := .ref (q 6)) (C := RX4) (T := TX4) (N := 7) hx hb hts inX4_dutyBy_4 hown hK hP 0 rfl rfl 5 (by decide) (hts (.fieldLink RX4 29 "CornLaws$Scales" "stepDuty" "[[I") wdX4_dutyBy_1) (fun _ h9 => h9) rfl dX4_dutyBy_56 ?_
              refine lv_iload_n hx hb dX4_dutyBy_59 rfl (lv_at hl 3 rfl) ?_
              refine z_aald (b := 20) hx hb hK hP 6 1 rfl rfl hi3 dX4_dutyBy_60 ?_
              refine lv_iload hx hb dX4_dutyBy_61 (lv_at hl 0 rfl) ?_
              refine va_iald (f := a (20 + p1.toNatClampNeg)) hx hb hK hP (15 + p1.toNatClampNeg) 0 (z_row20 (z_lt hi3)) rfl hi6 dX4_dutyBy_63 ?_
              refine lv_istore_n (lv' := [(3, .int (a (20 + p1.toNatClampNeg) x4_31.toNatClampNeg)), (4, .int x4_31), (0, .ref (q 0)), (1, .int p1), (2, .int p2)]) hx hb dX4_dutyBy_64 rfl hl (by decide) rfl (fun ls hl => ?_)
              refine lv_iinc (v := (x4_31 + 1)) (lv' := [(4, .int (x4_31 + 1)), (3, .int (a (20 + p1.toNatClampNeg) x4_31.toNatClampNeg)), (0, .ref (q 0)), (1, .int p1), (2, .int p2)]) hx hb dX4_dutyBy_65 hl (k := 1) rfl rfl (by decide) rfl (fun ls hl => ?_)
              refine lv_goto (tgt := 31) hx hb dX4_dutyBy_68 (by decide) ?_
              exact ih (x4_31 + 1) (a (20 + p1.toNatClampNeg) x4_31.toNatClampNeg) h ls (lv_sub hl [0, 1, 2, 3, 4] rfl)
      obtain ⟨n, h⟩ := h
      refine hL31 _ (fun x4_31 x3_31 h ls hl => ?_) n 1 (a (20 + p1.toNatClampNeg) (0 : Int32).toNatClampNeg) h ls hl
      refine lv_iload_n hx hb dX4_dutyBy_71 rfl (lv_at hl 1 rfl) ?_
      exact W.iret (v := x3_31) hx hb hr (fun t ht hW => ⟨x3_31, rfl, h, ht⟩) (fun _ h9 => by cases h9) dX4_dutyBy_72
    · replace h := h.2 c4
      refine lv_iconst (v := 0) hx hb dX4_dutyBy_17 (by decide) ?_
      exact W.iret (v := 0) hx hb hr (fun t ht hW => ⟨0, rfl, h, ht⟩) (fun _ h9 => by cases h9) dX4_dutyBy_18
