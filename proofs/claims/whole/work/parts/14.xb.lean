/-! X5_scale -/
set_option maxRecDepth 20000 in
theorem wdX5_scale_0 : Cond.fieldLink RX5 48 "CornLaws" "now" "I" ∈ wsX5_scale := by decide +kernel
set_option maxRecDepth 20000 in
theorem wdX5_scale_1 : Cond.fieldLink RX5 19 "CornLaws" "scales" "LCornLaws$Scales;" ∈ wsX5_scale := by decide +kernel
set_option maxRecDepth 20000 in
theorem wdX5_scale_2 : Cond.fieldLink RX5 107 "CornLaws$Scales" "size" "I" ∈ wsX5_scale := by decide +kernel
set_option maxRecDepth 20000 in
theorem inX5_scale_5 : ∀ w ∈ wsX50, w ∈ wsX5_scale := by decide +kernel
set_option maxRecDepth 20000 in
theorem inX5_scale_4 : ∀ w ∈ wsX40, w ∈ wsX5_scale := by decide +kernel
set_option maxHeartbeats 4000000 in
set_option maxRecDepth 100000 in
theorem cX5_scale_ok (l : Launch) (D : va_G) (cI cII : ClassId) (q : Nat → Nat → Nat) (u : XS) (p1 : Int32) (p2 : Int32) (post : Int32 → XS → Prop) (h : wpX5_scale u p1 p2 post) : Met l yX5_scale wsX5_scale ({ frames := 2, cells := 0, slots := 0, locals := 42 } : Room) (zPm [.ref (q 0 0), .int p1, .int p2] D cI cII (wX cI cII q u)) (va_Qi post (fun (z : XS) (t : State) => va_P D vwCl (wX cI cII q z) t.heap) (z_in (wX cI cII q u))) 0 0 (z_in (wX cI cII q u)) := by
  refine Met.ofW (cc := cX5_scale) (maxL := 3) (ret := (some .int)) (by decide) rfl ?_
  intro p e s m args below meth c s₁ B hml hv
  obtain ⟨rfl, hP, hK, hD0⟩ := hv
  have hx := B.exec
  have hb := B.bytes
  have hr := B.returns
  have hts := atoms_spec (ws := wsX5_scale) B.pre
  have hown : s.vm.findClass RX5 = some m.cls := findClass_of_methodNamed B.named
  have hlocks := B.notSynchronized
  have hD := z_Dself hD0
  generalize hAe : z_in (wX cI cII q u) = A at hD ⊢
  have hS : va_S A s.heap s.heap [] := va_S.rf
  have hl := lv_entry ([.ref (q 0 0), .int p1, .int p2]) (n := 3) (Nat.le_of_ble_eq_true rfl)
  rw [lg_entry_eq]
  generalize (lg_sl ([.ref (q 0 0), .int p1, .int p2]) ++ List.replicate (3 - (lg_sl ([.ref (q 0 0), .int p1, .int p2])).length) Slot.unset).toArray = ls at hl ⊢
  have hl : lv_has ls 3 [(0, .ref (q 0 0)), (1, .int p1), (2, .int p2)] := hl
  unfold wpX5_scale at h
  refine lv_iload_n hx hb dX5_scale_0 rfl (lv_at hl 1 rfl) ?_
  refine vp_callSi (W.runS (As := [.int p1]) (rest := []) ⟨hx, hb, hml, hown, hts⟩ (cX5_isNoGrain_ok l p1 _ h) (va_cwS 1 hts gX5_scale_X5_isNoGrain rfl rfl rfl (by decide +kernel) ⟨Nat.le_of_ble_eq_true rfl, Nat.le_of_ble_eq_true rfl⟩) z_preS rfl rfl hl.1 rfl (lv_room (Nat.le_of_ble_eq_true rfl)) dX5_scale_1 ⟨Nat.le_of_ble_eq_true rfl, Nat.le_of_ble_eq_true rfl⟩) (fun r1 h => ?_)
  refine lv_if_ne (tgt := 21) hx hb dX5_scale_4 (by decide) (fun c2 => ?_) (fun c2 => ?_)
  · replace h := h.1 c2
    refine lv_bipush (v := (-2)) hx hb dX5_scale_21 (by decide) ?_
    exact W.iret (v := (-2)) hx hb hr (fun t ht hW => ⟨⟨(-2), u, rfl, h, by show va_P D vwCl _ t.heap; rw [ht]; exact hP⟩, hS.F ht⟩) hS.2.2 dX5_scale_23
  · replace h := h.2 c2
    refine lv_iload_n hx hb dX5_scale_7 rfl (lv_at hl 2 rfl) ?_
    refine lv_aload_n hx hb dX5_scale_8 rfl (lv_at hl 0 rfl) ?_
    refine va_get (D := D) (ci := 5) (v := .int (u.2.2.2.2.2.1 0)) (C := RX5) (T := TX5) (N := 8) hx hb hts inX5_scale_5 hown hK hP 0 rfl rfl 5 (by decide) (hts (.fieldLink RX5 48 "CornLaws" "now" "I") wdX5_scale_0) (fun _ h9 => h9) rfl dX5_scale_9 ?_
    refine lv_sipush (v := 200) hx hb dX5_scale_12 (by decide) ?_
    refine vp_callSi (W.runS (As := [.int p2, .int (u.2.2.2.2.2.1 0), .int 200]) (rest := []) ⟨hx, hb, hml, hown, hts⟩ (cX5_isOutside_ok l p2 (u.2.2.2.2.2.1 0) 200 _ h) (va_cwS 3 hts gX5_scale_X5_isOutside rfl rfl rfl (by decide +kernel) ⟨Nat.le_of_ble_eq_true rfl, Nat.le_of_ble_eq_true rfl⟩) z_preS rfl rfl hl.1 rfl (lv_room (Nat.le_of_ble_eq_true rfl)) dX5_scale_15 ⟨Nat.le_of_ble_eq_true rfl, Nat.le_of_ble_eq_true rfl⟩) (fun r3 h => ?_)
    refine lv_if_eq (tgt := 24) hx hb dX5_scale_18 (by decide) (fun c4 => ?_) (fun c4 => ?_)
    · replace h := h.1 c4
      refine lv_aload_n hx hb dX5_scale_24 rfl (lv_at hl 0 rfl) ?_
      refine va_get (D := D) (ci := 5) (v := .ref (q 2 0)) (C := RX5) (T := TX5) (N := 8) hx hb hts inX5_scale_5 hown hK hP 0 rfl rfl 1 (by decide) (hts (.fieldLink RX5 19 "CornLaws" "scales" "LCornLaws$Scales;") wdX5_scale_1) (fun _ h9 => h9) rfl dX5_scale_25 ?_
      refine va_get (D := D) (ci := 4) (v := .int (u.2.1 9 0)) (C := RX4) (T := TX4) (N := 7) hx hb hts inX5_scale_4 hown hK hP 9 rfl rfl 6 (by decide) (hts (.fieldLink RX5 107 "CornLaws$Scales" "size" "I") wdX5_scale_2) (fun _ h9 => h9) rfl dX5_scale_28 ?_
      refine lv_bipush (v := 8) hx hb dX5_scale_31 (by decide) ?_
      refine lv_icmp_lt (tgt := 39) hx hb dX5_scale_33 (by decide) (fun c5 => ?_) (fun c5 => ?_)
      · replace h := h.1 c5
        refine lv_aload_n hx hb dX5_scale_39 rfl (lv_at hl 0 rfl) ?_
        refine va_get (D := D) (ci := 5) (v := .ref (q 2 0)) (C := RX5) (T := TX5) (N := 8) hx hb hts inX5_scale_5 hown hK hP 0 rfl rfl 1 (by decide) (hts (.fieldLink RX5 19 "CornLaws" "scales" "LCornLaws$Scales;") wdX5_scale_1) (fun _ h9 => h9) rfl dX5_scale_40 ?_
        refine lv_iload_n hx hb dX5_scale_43 rfl (lv_at hl 1 rfl) ?_
        refine lv_iload_n hx hb dX5_scale_44 rfl (lv_at hl 2 rfl) ?_
        refine lv_aload_n hx hb dX5_scale_45 rfl (lv_at hl 0 rfl) ?_
        refine va_get (D := D) (ci := 5) (v := .int (u.2.2.2.2.2.1 0)) (C := RX5) (T := TX5) (N := 8) hx hb hts inX5_scale_5 hown hK hP 0 rfl rfl 5 (by decide) (hts (.fieldLink RX5 48 "CornLaws" "now" "I") wdX5_scale_0) (fun _ h9 => h9) rfl dX5_scale_46 ?_
        refine va_calli (va_runV (C := RX4) (As := [.int p1, .int p2, .int (u.2.2.2.2.2.1 0)]) (rest := []) ⟨hx, hb, hml, hown, hts⟩ (cX4_add_ok l D cI cII (q 2) u.2.1 p1 p2 (u.2.2.2.2.2.1 0) _ h) (cwV 3 hts gX5_scale_X4_add rfl rfl rfl (by decide +kernel) ⟨Nat.le_of_ble_eq_true rfl, Nat.le_of_ble_eq_true rfl⟩) (z_preVm hK (z_XS (cII := cII) (u := u) hP) (z_DXS (cII := cII) (u := u) hD) rfl rfl) rfl rfl hl.1 rfl (lv_room (Nat.le_of_ble_eq_true rfl)) dX5_scale_49 ⟨Nat.le_of_ble_eq_true rfl, Nat.le_of_ble_eq_true rfl⟩) hS (fun x9 _ h9 => z_sub (z_DXS (cII := cII) (u := u) hD) x9 h9) (z_sub (z_DXS (cII := cII) (u := u) hD)) (fun r7 a6 t H1 locs ht hvm h hB hz1 hk1 hS => ?_)
        have hB : va_P D vwCl (wS cI cII (q 2) a6) t.heap := hB
        rw [ht] at hB
        have hP := z_jS (u := u) hP hD hk1 hB
        generalize H1 = H at hP hS ⊢
        have hP : va_P D vwCl (wX cI cII q (u.1, a6, u.2.2.1, u.2.2.2.1, u.2.2.2.2.1, u.2.2.2.2.2.1, u.2.2.2.2.2.2)) H := hP
        have hD : va_D A (wX cI cII q (u.1, a6, u.2.2.1, u.2.2.2.1, u.2.2.2.2.1, u.2.2.2.2.2.1, u.2.2.2.2.2.2)) := z_Dmap hD rfl
        exact W.iret (v := r7) hx hb hr (fun t ht hW => ⟨⟨r7, (u.1, a6, u.2.2.1, u.2.2.2.1, u.2.2.2.2.1, u.2.2.2.2.2.1, u.2.2.2.2.2.2), rfl, h, by show va_P D vwCl _ t.heap; rw [ht]; exact hP⟩, hS.F ht⟩) hS.2.2 dX5_scale_52
      · replace h := h.2 c5
        refine lv_bipush (v := (-4)) hx hb dX5_scale_36 (by decide) ?_
        exact W.iret (v := (-4)) hx hb hr (fun t ht hW => ⟨⟨(-4), u, rfl, h, by show va_P D vwCl _ t.heap; rw [ht]; exact hP⟩, hS.F ht⟩) hS.2.2 dX5_scale_38
    · replace h := h.2 c4
      refine lv_bipush (v := (-2)) hx hb dX5_scale_21 (by decide) ?_
      exact W.iret (v := (-2)) hx hb hr (fun t ht hW => ⟨⟨(-2), u, rfl, h, by show va_P D vwCl _ t.heap; rw [ht]; exact hP⟩, hS.F ht⟩) hS.2.2 dX5_scale_23

/-! X5_step -/
set_option maxRecDepth 20000 in
theorem wdX5_step_0 : Cond.fieldLink RX5 19 "CornLaws" "scales" "LCornLaws$Scales;" ∈ wsX5_step := by decide +kernel
set_option maxRecDepth 20000 in
theorem wdX5_step_1 : Cond.fieldLink RX5 48 "CornLaws" "now" "I" ∈ wsX5_step := by decide +kernel
set_option maxRecDepth 20000 in
theorem wdX5_step_2 : Cond.fieldLink RX5 119 "CornLaws$Scales" "steps" "[I" ∈ wsX5_step := by decide +kernel
set_option maxRecDepth 20000 in
theorem inX5_step_5 : ∀ w ∈ wsX50, w ∈ wsX5_step := by decide +kernel
set_option maxRecDepth 20000 in
theorem inX5_step_4 : ∀ w ∈ wsX40, w ∈ wsX5_step := by decide +kernel
set_option maxHeartbeats 4000000 in
set_option maxRecDepth 100000 in
theorem cX5_step_ok (l : Launch) (D : va_G) (cI cII : ClassId) (q : Nat → Nat → Nat) (u : XS) (p1 : Int32) (p2 : Int32) (p3 : Int32) (post : Int32 → XS → Prop) (h : wpX5_step u p1 p2 p3 post) : Met l yX5_step wsX5_step ({ frames := 1, cells := 0, slots := 0, locals := 23 } : Room) (zPm [.ref (q 0 0), .int p1, .int p2, .int p3] D cI cII (wX cI cII q u)) (va_Qi post (fun (z : XS) (t : State) => va_P D vwCl (wX cI cII q z) t.heap) (z_in (wX cI cII q u))) 0 0 (z_in (wX cI cII q u)) := by
  refine Met.ofW (cc := cX5_step) (maxL := 4) (ret := (some .int)) (by decide) rfl ?_
  intro p e s m args below meth c s₁ B hml hv
  obtain ⟨rfl, hP, hK, hD0⟩ := hv
  have hx := B.exec
  have hb := B.bytes
  have hr := B.returns
  have hts := atoms_spec (ws := wsX5_step) B.pre
  have hown : s.vm.findClass RX5 = some m.cls := findClass_of_methodNamed B.named
  have hlocks := B.notSynchronized
  have hD := z_Dself hD0
  generalize hAe : z_in (wX cI cII q u) = A at hD ⊢
  have hS : va_S A s.heap s.heap [] := va_S.rf
  have hl := lv_entry ([.ref (q 0 0), .int p1, .int p2, .int p3]) (n := 4) (Nat.le_of_ble_eq_true rfl)
  rw [lg_entry_eq]
  generalize (lg_sl ([.ref (q 0 0), .int p1, .int p2, .int p3]) ++ List.replicate (4 - (lg_sl ([.ref (q 0 0), .int p1, .int p2, .int p3])).length) Slot.unset).toArray = ls at hl ⊢
  have hl : lv_has ls 4 [(0, .ref (q 0 0)), (1, .int p1), (2, .int p2), (3, .int p3)] := hl
  unfold wpX5_step at h
  refine lv_aload_n hx hb dX5_step_0 rfl (lv_at hl 0 rfl) ?_
  refine va_get (D := D) (ci := 5) (v := .ref (q 2 0)) (C := RX5) (T := TX5) (N := 8) hx hb hts inX5_step_5 hown hK hP 0 rfl rfl 1 (by decide) (hts (.fieldLink RX5 19 "CornLaws" "scales" "LCornLaws$Scales;") wdX5_step_0) (fun _ h9 => h9) rfl dX5_step_1 ?_
  refine lv_iload_n hx hb dX5_step_4 rfl (lv_at hl 1 rfl) ?_
  refine vp_callSi (W.runV (C := RX4) (As := [.int p1]) (rest := []) ⟨hx, hb, hml, hown, hts⟩ (cX4_has_ok l D cI cII (q 2) u.2.1 p1 _ h) (cwV 1 hts gX5_step_X4_has rfl rfl rfl (by decide +kernel) ⟨Nat.le_of_ble_eq_true rfl, Nat.le_of_ble_eq_true rfl⟩) (z_preV hK (z_XS (cII := cII) (u := u) hP) rfl rfl) rfl rfl hl.1 rfl (lv_room (Nat.le_of_ble_eq_true rfl)) dX5_step_5 ⟨Nat.le_of_ble_eq_true rfl, Nat.le_of_ble_eq_true rfl⟩) (fun r1 h => ?_)
  refine lv_if_eq (tgt := 45) hx hb dX5_step_8 (by decide) (fun c2 => ?_) (fun c2 => ?_)
  · replace h := h.1 c2
    refine lv_bipush (v := (-2)) hx hb dX5_step_45 (by decide) ?_
    exact W.iret (v := (-2)) hx hb hr (fun t ht hW => ⟨⟨(-2), u, rfl, h, by show va_P D vwCl _ t.heap; rw [ht]; exact hP⟩, hS.F ht⟩) hS.2.2 dX5_step_47
  · replace h := h.2 c2
    refine lv_iload_n hx hb dX5_step_11 rfl (lv_at hl 2 rfl) ?_
    refine lv_iconst (v := 0) hx hb dX5_step_12 (by decide) ?_
    refine lv_sipush (v := 2000) hx hb dX5_step_13 (by decide) ?_
    refine vp_callSi (W.runS (As := [.int p2, .int 0, .int 2000]) (rest := []) ⟨hx, hb, hml, hown, hts⟩ (cX5_isOutside_ok l p2 0 2000 _ h) (va_cwS 3 hts gX5_step_X5_isOutside rfl rfl rfl (by decide +kernel) ⟨Nat.le_of_ble_eq_true rfl, Nat.le_of_ble_eq_true rfl⟩) z_preS rfl rfl hl.1 rfl (lv_room (Nat.le_of_ble_eq_true rfl)) dX5_step_16 ⟨Nat.le_of_ble_eq_true rfl, Nat.le_of_ble_eq_true rfl⟩) (fun r3 h => ?_)
    refine lv_if_ne (tgt := 45) hx hb dX5_step_19 (by decide) (fun c4 => ?_) (fun c4 => ?_)
    · replace h := h.1 c4
      refine lv_bipush (v := (-2)) hx hb dX5_step_45 (by decide) ?_
      exact W.iret (v := (-2)) hx hb hr (fun t ht hW => ⟨⟨(-2), u, rfl, h, by show va_P D vwCl _ t.heap; rw [ht]; exact hP⟩, hS.F ht⟩) hS.2.2 dX5_step_47
    · replace h := h.2 c4
      refine lv_iload_n hx hb dX5_step_22 rfl (lv_at hl 3 rfl) ?_
      refine lv_iconst (v := 0) hx hb dX5_step_23 (by decide) ?_
      refine lv_sipush (v := 2000) hx hb dX5_step_24 (by decide) ?_
      refine vp_callSi (W.runS (As := [.int p3, .int 0, .int 2000]) (rest := []) ⟨hx, hb, hml, hown, hts⟩ (cX5_isOutside_ok l p3 0 2000 _ h) (va_cwS 3 hts gX5_step_X5_isOutside rfl rfl rfl (by decide +kernel) ⟨Nat.le_of_ble_eq_true rfl, Nat.le_of_ble_eq_true rfl⟩) z_preS rfl rfl hl.1 rfl (lv_room (Nat.le_of_ble_eq_true rfl)) dX5_step_27 ⟨Nat.le_of_ble_eq_true rfl, Nat.le_of_ble_eq_true rfl⟩) (fun r5 h => ?_)
      refine lv_if_ne (tgt := 45) hx hb dX5_step_30 (by decide) (fun c6 => ?_) (fun c6 => ?_)
      · replace h := h.1 c6
        refine lv_bipush (v := (-2)) hx hb dX5_step_45 (by decide) ?_
        exact W.iret (v := (-2)) hx hb hr (fun t ht hW => ⟨⟨(-2), u, rfl, h, by show va_P D vwCl _ t.heap; rw [ht]; exact hP⟩, hS.F ht⟩) hS.2.2 dX5_step_47
      · replace h := h.2 c6
        refine lv_iload_n hx hb dX5_step_33 rfl (lv_at hl 2 rfl) ?_
        refine lv_aload_n hx hb dX5_step_34 rfl (lv_at hl 0 rfl) ?_
        refine va_get (D := D) (ci := 5) (v := .ref (q 2 0)) (C := RX5) (T := TX5) (N := 8) hx hb hts inX5_step_5 hown hK hP 0 rfl rfl 1 (by decide) (hts (.fieldLink RX5 19 "CornLaws" "scales" "LCornLaws$Scales;") wdX5_step_0) (fun _ h9 => h9) rfl dX5_step_35 ?_
        refine lv_iload_n hx hb dX5_step_38 rfl (lv_at hl 1 rfl) ?_
        refine vp_callSi (W.runV (C := RX4) (As := [.int p1]) (rest := [.int p2]) ⟨hx, hb, hml, hown, hts⟩ (cX4_lastPrice_ok l D cI cII (q 2) u.2.1 p1 _ h) (cwV 1 hts gX5_step_X4_lastPrice rfl rfl rfl (by decide +kernel) ⟨Nat.le_of_ble_eq_true rfl, Nat.le_of_ble_eq_true rfl⟩) (z_preV hK (z_XS (cII := cII) (u := u) hP) rfl rfl) rfl rfl hl.1 rfl (lv_room (Nat.le_of_ble_eq_true rfl)) dX5_step_39 ⟨Nat.le_of_ble_eq_true rfl, Nat.le_of_ble_eq_true rfl⟩) (fun r7 h => ?_)
        refine lv_icmp_gt (tgt := 48) hx hb dX5_step_42 (by decide) (fun c8 => ?_) (fun c8 => ?_)
        · replace h := h.1 c8
          refine lv_aload_n hx hb dX5_step_48 rfl (lv_at hl 0 rfl) ?_
          refine va_get (D := D) (ci := 5) (v := .ref (q 2 0)) (C := RX5) (T := TX5) (N := 8) hx hb hts inX5_step_5 hown hK hP 0 rfl rfl 1 (by decide) (hts (.fieldLink RX5 19 "CornLaws" "scales" "LCornLaws$Scales;") wdX5_step_0) (fun _ h9 => h9) rfl dX5_step_49 ?_
          refine lv_iload_n hx hb dX5_step_52 rfl (lv_at hl 1 rfl) ?_
          refine lv_aload_n hx hb dX5_step_53 rfl (lv_at hl 0 rfl) ?_
          refine va_get (D := D) (ci := 5) (v := .int (u.2.2.2.2.2.1 0)) (C := RX5) (T := TX5) (N := 8) hx hb hts inX5_step_5 hown hK hP 0 rfl rfl 5 (by decide) (hts (.fieldLink RX5 48 "CornLaws" "now" "I") wdX5_step_1) (fun _ h9 => h9) rfl dX5_step_54 ?_
          refine vp_callSi (W.runV (C := RX4) (As := [.int p1, .int (u.2.2.2.2.2.1 0)]) (rest := []) ⟨hx, hb, hml, hown, hts⟩ (cX4_isSettled_ok l D cI cII (q 2) u.2.1 p1 (u.2.2.2.2.2.1 0) _ h) (cwV 2 hts gX5_step_X4_isSettled rfl rfl rfl (by decide +kernel) ⟨Nat.le_of_ble_eq_true rfl, Nat.le_of_ble_eq_true rfl⟩) (z_preV hK (z_XS (cII := cII) (u := u) hP) rfl rfl) rfl rfl hl.1 rfl (lv_room (Nat.le_of_ble_eq_true rfl)) dX5_step_57 ⟨Nat.le_of_ble_eq_true rfl, Nat.le_of_ble_eq_true rfl⟩) (fun r9 h => ?_)
          refine lv_if_eq (tgt := 66) hx hb dX5_step_60 (by decide) (fun c10 => ?_) (fun c10 => ?_)
          · replace h := h.1 c10
            refine lv_aload_n hx hb dX5_step_66 rfl (lv_at hl 0 rfl) ?_
            refine va_get (D := D) (ci := 5) (v := .ref (q 2 0)) (C := RX5) (T := TX5) (N := 8) hx hb hts inX5_step_5 hown hK hP 0 rfl rfl 1 (by decide) (hts (.fieldLink RX5 19 "CornLaws" "scales" "LCornLaws$Scales;") wdX5_step_0) (fun _ h9 => h9) rfl dX5_step_67 ?_
            refine va_get (D := D) (ci := 4) (v := .ref (q 2 4)) (C := RX4) (T := TX4) (N := 7) hx hb hts inX5_step_4 hown hK hP 9 rfl rfl 3 (by decide) (hts (.fieldLink RX5 119 "CornLaws$Scales" "steps" "[I") wdX5_step_2) (fun _ h9 => h9) rfl dX5_step_70 ?_
            refine lv_iload_n hx hb dX5_step_73 rfl (lv_at hl 1 rfl) ?_
            obtain ⟨hi11, h⟩ := h
            refine va_iald (f := u.2.1 3) hx hb hK hP 13 0 rfl rfl hi11 dX5_step_74 ?_
            refine lv_bipush (v := 8) hx hb dX5_step_75 (by decide) ?_
            refine lv_icmp_lt (tgt := 83) hx hb dX5_step_77 (by decide) (fun c12 => ?_) (fun c12 => ?_)
            · replace h := h.1 c12
              refine lv_aload_n hx hb dX5_step_83 rfl (lv_at hl 0 rfl) ?_
              refine va_get (D := D) (ci := 5) (v := .ref (q 2 0)) (C := RX5) (T := TX5) (N := 8) hx hb hts inX5_step_5 hown hK hP 0 rfl rfl 1 (by decide) (hts (.fieldLink RX5 19 "CornLaws" "scales" "LCornLaws$Scales;") wdX5_step_0) (fun _ h9 => h9) rfl dX5_step_84 ?_
              refine lv_iload_n hx hb dX5_step_87 rfl (lv_at hl 1 rfl) ?_
              refine lv_iload_n hx hb dX5_step_88 rfl (lv_at hl 2 rfl) ?_
              refine lv_iload_n hx hb dX5_step_89 rfl (lv_at hl 3 rfl) ?_
              refine va_calli (va_runV (C := RX4) (As := [.int p1, .int p2, .int p3]) (rest := []) ⟨hx, hb, hml, hown, hts⟩ (cX4_addStep_ok l D cI cII (q 2) u.2.1 p1 p2 p3 _ h) (cwV 3 hts gX5_step_X4_addStep rfl rfl rfl (by decide +kernel) ⟨Nat.le_of_ble_eq_true rfl, Nat.le_of_ble_eq_true rfl⟩) (z_preVm hK (z_XS (cII := cII) (u := u) hP) (z_DXS (cII := cII) (u := u) hD) rfl rfl) rfl rfl hl.1 rfl (lv_room (Nat.le_of_ble_eq_true rfl)) dX5_step_90 ⟨Nat.le_of_ble_eq_true rfl, Nat.le_of_ble_eq_true rfl⟩) hS (fun x9 _ h9 => z_sub (z_DXS (cII := cII) (u := u) hD) x9 h9) (z_sub (z_DXS (cII := cII) (u := u) hD)) (fun r14 a13 t H1 locs ht hvm h hB hz1 hk1 hS => ?_)
              have hB : va_P D vwCl (wS cI cII (q 2) a13) t.heap := hB
              rw [ht] at hB
              have hP := z_jS (u := u) hP hD hk1 hB
              generalize H1 = H at hP hS ⊢
              have hP : va_P D vwCl (wX cI cII q (u.1, a13, u.2.2.1, u.2.2.2.1, u.2.2.2.2.1, u.2.2.2.2.2.1, u.2.2.2.2.2.2)) H := hP
              have hD : va_D A (wX cI cII q (u.1, a13, u.2.2.1, u.2.2.2.1, u.2.2.2.2.1, u.2.2.2.2.2.1, u.2.2.2.2.2.2)) := z_Dmap hD rfl
              exact W.iret (v := r14) hx hb hr (fun t ht hW => ⟨⟨r14, (u.1, a13, u.2.2.1, u.2.2.2.1, u.2.2.2.2.1, u.2.2.2.2.2.1, u.2.2.2.2.2.2), rfl, h, by show va_P D vwCl _ t.heap; rw [ht]; exact hP⟩, hS.F ht⟩) hS.2.2 dX5_step_93
            · replace h := h.2 c12
              refine lv_bipush (v := (-4)) hx hb dX5_step_80 (by decide) ?_
              exact W.iret (v := (-4)) hx hb hr (fun t ht hW => ⟨⟨(-4), u, rfl, h, by show va_P D vwCl _ t.heap; rw [ht]; exact hP⟩, hS.F ht⟩) hS.2.2 dX5_step_82
          · replace h := h.2 c10
            refine lv_bipush (v := (-3)) hx hb dX5_step_63 (by decide) ?_
            exact W.iret (v := (-3)) hx hb hr (fun t ht hW => ⟨⟨(-3), u, rfl, h, by show va_P D vwCl _ t.heap; rw [ht]; exact hP⟩, hS.F ht⟩) hS.2.2 dX5_step_65
        · replace h := h.2 c8
          refine lv_bipush (v := (-2)) hx hb dX5_step_45 (by decide) ?_
          exact W.iret (v := (-2)) hx hb hr (fun t ht hW => ⟨⟨(-2), u, rfl, h, by show va_P D vwCl _ t.heap; rw [ht]; exact hP⟩, hS.F ht⟩) hS.2.2 dX5_step_47

/-! X5_hang -/
set_option maxRecDepth 20000 in
theorem wdX5_hang_0 : Cond.fieldLink RX5 26 "CornLaws" "hangings" "LCornLaws$Hangings;" ∈ wsX5_hang := by decide +kernel
set_option maxRecDepth 20000 in
theorem inX5_hang_5 : ∀ w ∈ wsX50, w ∈ wsX5_hang := by decide +kernel
set_option maxHeartbeats 4000000 in
set_option maxRecDepth 100000 in
theorem cX5_hang_ok (l : Launch) (D : va_G) (cI cII : ClassId) (q : Nat → Nat → Nat) (u : XS) (p1 : Int32) (p2 : Int32) (p3 : Int32) (p4 : Int32) (post : Int32 → XS → Prop) (h : wpX5_hang u p1 p2 p3 p4 post) : Met l yX5_hang wsX5_hang ({ frames := 2, cells := 0, slots := 0, locals := 43 } : Room) (zPm [.ref (q 0 0), .int p1, .int p2, .int p3, .int p4] D cI cII (wX cI cII q u)) (va_Qi post (fun (z : XS) (t : State) => va_P D vwCl (wX cI cII q z) t.heap) (z_in (wX cI cII q u))) 0 0 (z_in (wX cI cII q u)) := by
  refine Met.ofW (cc := cX5_hang) (maxL := 5) (ret := (some .int)) (by decide) rfl ?_
  intro p e s m args below meth c s₁ B hml hv
  obtain ⟨rfl, hP, hK, hD0⟩ := hv
  have hx := B.exec
  have hb := B.bytes
  have hr := B.returns
  have hts := atoms_spec (ws := wsX5_hang) B.pre
  have hown : s.vm.findClass RX5 = some m.cls := findClass_of_methodNamed B.named
  have hlocks := B.notSynchronized
  have hD := z_Dself hD0
  generalize hAe : z_in (wX cI cII q u) = A at hD ⊢
  have hS : va_S A s.heap s.heap [] := va_S.rf
  have hl := lv_entry ([.ref (q 0 0), .int p1, .int p2, .int p3, .int p4]) (n := 5) (Nat.le_of_ble_eq_true rfl)
  rw [lg_entry_eq]
  generalize (lg_sl ([.ref (q 0 0), .int p1, .int p2, .int p3, .int p4]) ++ List.replicate (5 - (lg_sl ([.ref (q 0 0), .int p1, .int p2, .int p3, .int p4])).length) Slot.unset).toArray = ls at hl ⊢
  have hl : lv_has ls 5 [(0, .ref (q 0 0)), (1, .int p1), (2, .int p2), (3, .int p3), (4, .int p4)] := hl
  unfold wpX5_hang at h
  refine lv_iload_n hx hb dX5_hang_0 rfl (lv_at hl 1 rfl) ?_
  refine vp_callSi (W.runS (As := [.int p1]) (rest := []) ⟨hx, hb, hml, hown, hts⟩ (cX5_isNoGrain_ok l p1 _ h) (va_cwS 1 hts gX5_hang_X5_isNoGrain rfl rfl rfl (by decide +kernel) ⟨Nat.le_of_ble_eq_true rfl, Nat.le_of_ble_eq_true rfl⟩) z_preS rfl rfl hl.1 rfl (lv_room (Nat.le_of_ble_eq_true rfl)) dX5_hang_1 ⟨Nat.le_of_ble_eq_true rfl, Nat.le_of_ble_eq_true rfl⟩) (fun r1 h => ?_)
  refine lv_if_ne (tgt := 40) hx hb dX5_hang_4 (by decide) (fun c2 => ?_) (fun c2 => ?_)
  · replace h := h.1 c2
    refine lv_bipush (v := (-2)) hx hb dX5_hang_40 (by decide) ?_
    exact W.iret (v := (-2)) hx hb hr (fun t ht hW => ⟨⟨(-2), u, rfl, h, by show va_P D vwCl _ t.heap; rw [ht]; exact hP⟩, hS.F ht⟩) hS.2.2 dX5_hang_42
  · replace h := h.2 c2
    refine lv_iload_n hx hb dX5_hang_7 rfl (lv_at hl 2 rfl) ?_
    refine vp_callSi (W.runS (As := [.int p2]) (rest := []) ⟨hx, hb, hml, hown, hts⟩ (cX5_isNoGrain_ok l p2 _ h) (va_cwS 1 hts gX5_hang_X5_isNoGrain rfl rfl rfl (by decide +kernel) ⟨Nat.le_of_ble_eq_true rfl, Nat.le_of_ble_eq_true rfl⟩) z_preS rfl rfl hl.1 rfl (lv_room (Nat.le_of_ble_eq_true rfl)) dX5_hang_8 ⟨Nat.le_of_ble_eq_true rfl, Nat.le_of_ble_eq_true rfl⟩) (fun r3 h => ?_)
    refine lv_if_ne (tgt := 40) hx hb dX5_hang_11 (by decide) (fun c4 => ?_) (fun c4 => ?_)
    · replace h := h.1 c4
      refine lv_bipush (v := (-2)) hx hb dX5_hang_40 (by decide) ?_
      exact W.iret (v := (-2)) hx hb hr (fun t ht hW => ⟨⟨(-2), u, rfl, h, by show va_P D vwCl _ t.heap; rw [ht]; exact hP⟩, hS.F ht⟩) hS.2.2 dX5_hang_42
    · replace h := h.2 c4
      refine lv_iload_n hx hb dX5_hang_14 rfl (lv_at hl 1 rfl) ?_
      refine lv_iload_n hx hb dX5_hang_15 rfl (lv_at hl 2 rfl) ?_
      refine lv_icmp_eq (tgt := 40) hx hb dX5_hang_16 (by decide) (fun c5 => ?_) (fun c5 => ?_)
      · replace h := h.1 c5
        refine lv_bipush (v := (-2)) hx hb dX5_hang_40 (by decide) ?_
        exact W.iret (v := (-2)) hx hb hr (fun t ht hW => ⟨⟨(-2), u, rfl, h, by show va_P D vwCl _ t.heap; rw [ht]; exact hP⟩, hS.F ht⟩) hS.2.2 dX5_hang_42
      · replace h := h.2 c5
        refine lv_iload_n hx hb dX5_hang_19 rfl (lv_at hl 3 rfl) ?_
        refine lv_iconst (v := 1) hx hb dX5_hang_20 (by decide) ?_
        refine lv_bipush (v := 100) hx hb dX5_hang_21 (by decide) ?_
        refine vp_callSi (W.runS (As := [.int p3, .int 1, .int 100]) (rest := []) ⟨hx, hb, hml, hown, hts⟩ (cX5_isOutside_ok l p3 1 100 _ h) (va_cwS 3 hts gX5_hang_X5_isOutside rfl rfl rfl (by decide +kernel) ⟨Nat.le_of_ble_eq_true rfl, Nat.le_of_ble_eq_true rfl⟩) z_preS rfl rfl hl.1 rfl (lv_room (Nat.le_of_ble_eq_true rfl)) dX5_hang_23 ⟨Nat.le_of_ble_eq_true rfl, Nat.le_of_ble_eq_true rfl⟩) (fun r6 h => ?_)
        refine lv_if_ne (tgt := 40) hx hb dX5_hang_26 (by decide) (fun c7 => ?_) (fun c7 => ?_)
        · replace h := h.1 c7
          refine lv_bipush (v := (-2)) hx hb dX5_hang_40 (by decide) ?_
          exact W.iret (v := (-2)) hx hb hr (fun t ht hW => ⟨⟨(-2), u, rfl, h, by show va_P D vwCl _ t.heap; rw [ht]; exact hP⟩, hS.F ht⟩) hS.2.2 dX5_hang_42
        · replace h := h.2 c7
          refine lv_iload hx hb dX5_hang_29 (lv_at hl 4 rfl) ?_
          refine lv_iconst (v := 1) hx hb dX5_hang_31 (by decide) ?_
          refine lv_bipush (v := 100) hx hb dX5_hang_32 (by decide) ?_
          refine vp_callSi (W.runS (As := [.int p4, .int 1, .int 100]) (rest := []) ⟨hx, hb, hml, hown, hts⟩ (cX5_isOutside_ok l p4 1 100 _ h) (va_cwS 3 hts gX5_hang_X5_isOutside rfl rfl rfl (by decide +kernel) ⟨Nat.le_of_ble_eq_true rfl, Nat.le_of_ble_eq_true rfl⟩) z_preS rfl rfl hl.1 rfl (lv_room (Nat.le_of_ble_eq_true rfl)) dX5_hang_34 ⟨Nat.le_of_ble_eq_true rfl, Nat.le_of_ble_eq_true rfl⟩) (fun r8 h => ?_)
          refine lv_if_eq (tgt := 43) hx hb dX5_hang_37 (by decide) (fun c9 => ?_) (fun c9 => ?_)
          · replace h := h.1 c9
            refine lv_aload_n hx hb dX5_hang_43 rfl (lv_at hl 0 rfl) ?_
            refine va_get (D := D) (ci := 5) (v := .ref (q 3 0)) (C := RX5) (T := TX5) (N := 8) hx hb hts inX5_hang_5 hown hK hP 0 rfl rfl 2 (by decide) (hts (.fieldLink RX5 26 "CornLaws" "hangings" "LCornLaws$Hangings;") wdX5_hang_0) (fun _ h9 => h9) rfl dX5_hang_44 ?_
            refine lv_iload_n hx hb dX5_hang_47 rfl (lv_at hl 2 rfl) ?_
            refine vp_callSi (W.runV (C := RX1) (As := [.int p2]) (rest := []) ⟨hx, hb, hml, hown, hts⟩ (cX1_hangs_ok l D cI cII (q 3) u.2.2.1 p2 _ h) (cwV 1 hts gX5_hang_X1_hangs rfl rfl rfl (by decide +kernel) ⟨Nat.le_of_ble_eq_true rfl, Nat.le_of_ble_eq_true rfl⟩) (z_preV hK (z_XH (cII := cII) (u := u) hP) rfl rfl) rfl rfl hl.1 rfl (lv_room (Nat.le_of_ble_eq_true rfl)) dX5_hang_48 ⟨Nat.le_of_ble_eq_true rfl, Nat.le_of_ble_eq_true rfl⟩) (fun r10 h => ?_)
            refine lv_if_ne (tgt := 65) hx hb dX5_hang_51 (by decide) (fun c11 => ?_) (fun c11 => ?_)
            · replace h := h.1 c11
              refine lv_bipush (v := (-3)) hx hb dX5_hang_65 (by decide) ?_
              exact W.iret (v := (-3)) hx hb hr (fun t ht hW => ⟨⟨(-3), u, rfl, h, by show va_P D vwCl _ t.heap; rw [ht]; exact hP⟩, hS.F ht⟩) hS.2.2 dX5_hang_67
            · replace h := h.2 c11
              refine lv_aload_n hx hb dX5_hang_54 rfl (lv_at hl 0 rfl) ?_
              refine va_get (D := D) (ci := 5) (v := .ref (q 3 0)) (C := RX5) (T := TX5) (N := 8) hx hb hts inX5_hang_5 hown hK hP 0 rfl rfl 2 (by decide) (hts (.fieldLink RX5 26 "CornLaws" "hangings" "LCornLaws$Hangings;") wdX5_hang_0) (fun _ h9 => h9) rfl dX5_hang_55 ?_
              refine lv_iload_n hx hb dX5_hang_58 rfl (lv_at hl 1 rfl) ?_
              refine vp_callSi (W.runV (C := RX1) (As := [.int p1]) (rest := []) ⟨hx, hb, hml, hown, hts⟩ (cX1_bearsOne_ok l D cI cII (q 3) u.2.2.1 p1 _ h) (cwV 1 hts gX5_hang_X1_bearsOne rfl rfl rfl (by decide +kernel) ⟨Nat.le_of_ble_eq_true rfl, Nat.le_of_ble_eq_true rfl⟩) (z_preV hK (z_XH (cII := cII) (u := u) hP) rfl rfl) rfl rfl hl.1 rfl (lv_room (Nat.le_of_ble_eq_true rfl)) dX5_hang_59 ⟨Nat.le_of_ble_eq_true rfl, Nat.le_of_ble_eq_true rfl⟩) (fun r12 h => ?_)
              refine lv_if_eq (tgt := 68) hx hb dX5_hang_62 (by decide) (fun c13 => ?_) (fun c13 => ?_)
              · replace h := h.1 c13
                refine lv_aload_n hx hb dX5_hang_68 rfl (lv_at hl 0 rfl) ?_
                refine va_get (D := D) (ci := 5) (v := .ref (q 3 0)) (C := RX5) (T := TX5) (N := 8) hx hb hts inX5_hang_5 hown hK hP 0 rfl rfl 2 (by decide) (hts (.fieldLink RX5 26 "CornLaws" "hangings" "LCornLaws$Hangings;") wdX5_hang_0) (fun _ h9 => h9) rfl dX5_hang_69 ?_
                refine lv_iload_n hx hb dX5_hang_72 rfl (lv_at hl 1 rfl) ?_
                refine lv_iload_n hx hb dX5_hang_73 rfl (lv_at hl 2 rfl) ?_
                refine lv_iload_n hx hb dX5_hang_74 rfl (lv_at hl 3 rfl) ?_
                refine lv_iload hx hb dX5_hang_75 (lv_at hl 4 rfl) ?_
                refine va_callv (va_runV (C := RX1) (As := [.int p1, .int p2, .int p3, .int p4]) (rest := []) ⟨hx, hb, hml, hown, hts⟩ (cX1_put_ok l D cI cII (q 3) u.2.2.1 p1 p2 p3 p4 _ h) (cwV 4 hts gX5_hang_X1_put rfl rfl rfl (by decide +kernel) ⟨Nat.le_of_ble_eq_true rfl, Nat.le_of_ble_eq_true rfl⟩) (z_preVm hK (z_XH (cII := cII) (u := u) hP) (z_DXH (cII := cII) (u := u) hD) rfl rfl) rfl rfl hl.1 rfl (lv_room (Nat.le_of_ble_eq_true rfl)) dX5_hang_77 ⟨Nat.le_of_ble_eq_true rfl, Nat.le_of_ble_eq_true rfl⟩) hS (fun x9 _ h9 => z_sub (z_DXH (cII := cII) (u := u) hD) x9 h9) (z_sub (z_DXH (cII := cII) (u := u) hD)) (fun a14 t H1 locs ht hvm h hB hz1 hk1 hS => ?_)
                have hB : va_P D vwCl (wH cI (q 3) a14) t.heap := hB
                rw [ht] at hB
                have hP := z_jH (u := u) hP hD hk1 hB
                generalize H1 = H at hP hS ⊢
                have hP : va_P D vwCl (wX cI cII q (u.1, u.2.1, a14, u.2.2.2.1, u.2.2.2.2.1, u.2.2.2.2.2.1, u.2.2.2.2.2.2)) H := hP
                have hD : va_D A (wX cI cII q (u.1, u.2.1, a14, u.2.2.2.1, u.2.2.2.2.1, u.2.2.2.2.2.1, u.2.2.2.2.2.2)) := z_Dmap hD rfl
                refine lv_iconst (v := 1) hx hb dX5_hang_80 (by decide) ?_
                exact W.iret (v := 1) hx hb hr (fun t ht hW => ⟨⟨1, (u.1, u.2.1, a14, u.2.2.2.1, u.2.2.2.2.1, u.2.2.2.2.2.1, u.2.2.2.2.2.2), rfl, h, by show va_P D vwCl _ t.heap; rw [ht]; exact hP⟩, hS.F ht⟩) hS.2.2 dX5_hang_81
              · replace h := h.2 c13
                refine lv_bipush (v := (-3)) hx hb dX5_hang_65 (by decide) ?_
                exact W.iret (v := (-3)) hx hb hr (fun t ht hW => ⟨⟨(-3), u, rfl, h, by show va_P D vwCl _ t.heap; rw [ht]; exact hP⟩, hS.F ht⟩) hS.2.2 dX5_hang_67
          · replace h := h.2 c9
            refine lv_bipush (v := (-2)) hx hb dX5_hang_40 (by decide) ?_
            exact W.iret (v := (-2)) hx hb hr (fun t ht hW => ⟨⟨(-2), u, rfl, h, by show va_P D vwCl _ t.heap; rw [ht]; exact hP⟩, hS.F ht⟩) hS.2.2 dX5_hang_42

/-! X5_unhang -/
set_option maxRecDepth 20000 in
theorem wdX5_unhang_0 : Cond.fieldLink RX5 26 "CornLaws" "hangings" "LCornLaws$Hangings;" ∈ wsX5_unhang := by decide +kernel
set_option maxRecDepth 20000 in
theorem inX5_unhang_5 : ∀ w ∈ wsX50, w ∈ wsX5_unhang := by decide +kernel
set_option maxHeartbeats 4000000 in
set_option maxRecDepth 100000 in
theorem cX5_unhang_ok (l : Launch) (D : va_G) (cI cII : ClassId) (q : Nat → Nat → Nat) (u : XS) (p1 : Int32) (post : Int32 → XS → Prop) (h : wpX5_unhang u p1 post) : Met l yX5_unhang wsX5_unhang ({ frames := 2, cells := 0, slots := 0, locals := 42 } : Room) (zPm [.ref (q 0 0), .int p1] D cI cII (wX cI cII q u)) (va_Qi post (fun (z : XS) (t : State) => va_P D vwCl (wX cI cII q z) t.heap) (z_in (wX cI cII q u))) 0 0 (z_in (wX cI cII q u)) := by
  refine Met.ofW (cc := cX5_unhang) (maxL := 2) (ret := (some .int)) (by decide) rfl ?_
  intro p e s m args below meth c s₁ B hml hv
  obtain ⟨rfl, hP, hK, hD0⟩ := hv
  have hx := B.exec
  have hb := B.bytes
  have hr := B.returns
  have hts := atoms_spec (ws := wsX5_unhang) B.pre
  have hown : s.vm.findClass RX5 = some m.cls := findClass_of_methodNamed B.named
  have hlocks := B.notSynchronized
  have hD := z_Dself hD0
  generalize hAe : z_in (wX cI cII q u) = A at hD ⊢
  have hS : va_S A s.heap s.heap [] := va_S.rf
  have hl := lv_entry ([.ref (q 0 0), .int p1]) (n := 2) (Nat.le_of_ble_eq_true rfl)
  rw [lg_entry_eq]
  generalize (lg_sl ([.ref (q 0 0), .int p1]) ++ List.replicate (2 - (lg_sl ([.ref (q 0 0), .int p1])).length) Slot.unset).toArray = ls at hl ⊢
  have hl : lv_has ls 2 [(0, .ref (q 0 0)), (1, .int p1)] := hl
  unfold wpX5_unhang at h
  refine lv_iload_n hx hb dX5_unhang_0 rfl (lv_at hl 1 rfl) ?_
  refine vp_callSi (W.runS (As := [.int p1]) (rest := []) ⟨hx, hb, hml, hown, hts⟩ (cX5_isNoGrain_ok l p1 _ h) (va_cwS 1 hts gX5_unhang_X5_isNoGrain rfl rfl rfl (by decide +kernel) ⟨Nat.le_of_ble_eq_true rfl, Nat.le_of_ble_eq_true rfl⟩) z_preS rfl rfl hl.1 rfl (lv_room (Nat.le_of_ble_eq_true rfl)) dX5_unhang_1 ⟨Nat.le_of_ble_eq_true rfl, Nat.le_of_ble_eq_true rfl⟩) (fun r1 h => ?_)
  refine lv_if_eq (tgt := 10) hx hb dX5_unhang_4 (by decide) (fun c2 => ?_) (fun c2 => ?_)
  · replace h := h.1 c2
    refine lv_aload_n hx hb dX5_unhang_10 rfl (lv_at hl 0 rfl) ?_
    refine va_get (D := D) (ci := 5) (v := .ref (q 3 0)) (C := RX5) (T := TX5) (N := 8) hx hb hts inX5_unhang_5 hown hK hP 0 rfl rfl 2 (by decide) (hts (.fieldLink RX5 26 "CornLaws" "hangings" "LCornLaws$Hangings;") wdX5_unhang_0) (fun _ h9 => h9) rfl dX5_unhang_11 ?_
    refine lv_iload_n hx hb dX5_unhang_14 rfl (lv_at hl 1 rfl) ?_
    refine vp_callSi (W.runV (C := RX1) (As := [.int p1]) (rest := []) ⟨hx, hb, hml, hown, hts⟩ (cX1_hangs_ok l D cI cII (q 3) u.2.2.1 p1 _ h) (cwV 1 hts gX5_unhang_X1_hangs rfl rfl rfl (by decide +kernel) ⟨Nat.le_of_ble_eq_true rfl, Nat.le_of_ble_eq_true rfl⟩) (z_preV hK (z_XH (cII := cII) (u := u) hP) rfl rfl) rfl rfl hl.1 rfl (lv_room (Nat.le_of_ble_eq_true rfl)) dX5_unhang_15 ⟨Nat.le_of_ble_eq_true rfl, Nat.le_of_ble_eq_true rfl⟩) (fun r3 h => ?_)
    refine lv_if_ne (tgt := 24) hx hb dX5_unhang_18 (by decide) (fun c4 => ?_) (fun c4 => ?_)
    · replace h := h.1 c4
      refine lv_aload_n hx hb dX5_unhang_24 rfl (lv_at hl 0 rfl) ?_
      refine va_get (D := D) (ci := 5) (v := .ref (q 3 0)) (C := RX5) (T := TX5) (N := 8) hx hb hts inX5_unhang_5 hown hK hP 0 rfl rfl 2 (by decide) (hts (.fieldLink RX5 26 "CornLaws" "hangings" "LCornLaws$Hangings;") wdX5_unhang_0) (fun _ h9 => h9) rfl dX5_unhang_25 ?_
      refine lv_iload_n hx hb dX5_unhang_28 rfl (lv_at hl 1 rfl) ?_
      refine va_callv (va_runV (C := RX1) (As := [.int p1]) (rest := []) ⟨hx, hb, hml, hown, hts⟩ (cX1_take_ok l D cI cII (q 3) u.2.2.1 p1 _ h) (cwV 1 hts gX5_unhang_X1_take rfl rfl rfl (by decide +kernel) ⟨Nat.le_of_ble_eq_true rfl, Nat.le_of_ble_eq_true rfl⟩) (z_preVm hK (z_XH (cII := cII) (u := u) hP) (z_DXH (cII := cII) (u := u) hD) rfl rfl) rfl rfl hl.1 rfl (lv_room (Nat.le_of_ble_eq_true rfl)) dX5_unhang_29 ⟨Nat.le_of_ble_eq_true rfl, Nat.le_of_ble_eq_true rfl⟩) hS (fun x9 _ h9 => z_sub (z_DXH (cII := cII) (u := u) hD) x9 h9) (z_sub (z_DXH (cII := cII) (u := u) hD)) (fun a5 t H1 locs ht hvm h hB hz1 hk1 hS => ?_)
      have hB : va_P D vwCl (wH cI (q 3) a5) t.heap := hB
      rw [ht] at hB
      have hP := z_jH (u := u) hP hD hk1 hB
      generalize H1 = H at hP hS ⊢
      have hP : va_P D vwCl (wX cI cII q (u.1, u.2.1, a5, u.2.2.2.1, u.2.2.2.2.1, u.2.2.2.2.2.1, u.2.2.2.2.2.2)) H := hP
      have hD : va_D A (wX cI cII q (u.1, u.2.1, a5, u.2.2.2.1, u.2.2.2.2.1, u.2.2.2.2.2.1, u.2.2.2.2.2.2)) := z_Dmap hD rfl
      refine lv_iconst (v := 1) hx hb dX5_unhang_32 (by decide) ?_
      exact W.iret (v := 1) hx hb hr (fun t ht hW => ⟨⟨1, (u.1, u.2.1, a5, u.2.2.2.1, u.2.2.2.2.1, u.2.2.2.2.2.1, u.2.2.2.2.2.2), rfl, h, by show va_P D vwCl _ t.heap; rw [ht]; exact hP⟩, hS.F ht⟩) hS.2.2 dX5_unhang_33
    · replace h := h.2 c4
      refine lv_bipush (v := (-3)) hx hb dX5_unhang_21 (by decide) ?_
      exact W.iret (v := (-3)) hx hb hr (fun t ht hW => ⟨⟨(-3), u, rfl, h, by show va_P D vwCl _ t.heap; rw [ht]; exact hP⟩, hS.F ht⟩) hS.2.2 dX5_unhang_23
  · replace h := h.2 c2
    refine lv_bipush (v := (-2)) hx hb dX5_unhang_7 (by decide) ?_
    exact W.iret (v := (-2)) hx hb hr (fun t ht hW => ⟨⟨(-2), u, rfl, h, by show va_P D vwCl _ t.heap; rw [ht]; exact hP⟩, hS.F ht⟩) hS.2.2 dX5_unhang_9

/-! X5_force -/
set_option maxRecDepth 20000 in
theorem wdX5_force_0 : Cond.fieldLink RX5 19 "CornLaws" "scales" "LCornLaws$Scales;" ∈ wsX5_force := by decide +kernel
set_option maxRecDepth 20000 in
theorem inX5_force_5 : ∀ w ∈ wsX50, w ∈ wsX5_force := by decide +kernel
set_option maxHeartbeats 4000000 in
set_option maxRecDepth 100000 in
theorem cX5_force_ok (l : Launch) (D : va_G) (cI cII : ClassId) (q : Nat → Nat → Nat) (u : XS) (p1 : Int32) (p2 : Int32) (post : Int32 → Prop) (h : wpX5_force u p1 p2 post) : Met l yX5_force wsX5_force ({ frames := 2, cells := 0, slots := 0, locals := 42 } : Room) (zPc [.ref (q 0 0), .int p1, .int p2] D cI cII (wX cI cII q u)) (vp_Si post) 0 0 (fun _ => False) := by
  refine Met.ofW (cc := cX5_force) (maxL := 3) (ret := (some .int)) (by decide) rfl ?_
  intro p e s m args below meth c s₁ B hml hv
  obtain ⟨rfl, hP, hK⟩ := hv
  have hx := B.exec
  have hb := B.bytes
  have hr := B.returns
  have hts := atoms_spec (ws := wsX5_force) B.pre
  have hown : s.vm.findClass RX5 = some m.cls := findClass_of_methodNamed B.named
  have hlocks := B.notSynchronized
  have hl := lv_entry ([.ref (q 0 0), .int p1, .int p2]) (n := 3) (Nat.le_of_ble_eq_true rfl)
  rw [lg_entry_eq]
  generalize (lg_sl ([.ref (q 0 0), .int p1, .int p2]) ++ List.replicate (3 - (lg_sl ([.ref (q 0 0), .int p1, .int p2])).length) Slot.unset).toArray = ls at hl ⊢
  have hl : lv_has ls 3 [(0, .ref (q 0 0)), (1, .int p1), (2, .int p2)] := hl
  unfold wpX5_force at h
  refine lv_iload_n hx hb dX5_force_0 rfl (lv_at hl 1 rfl) ?_
  refine vp_callSi (W.runS (As := [.int p1]) (rest := []) ⟨hx, hb, hml, hown, hts⟩ (cX5_isNoGrain_ok l p1 _ h) (va_cwS 1 hts gX5_force_X5_isNoGrain rfl rfl rfl (by decide +kernel) ⟨Nat.le_of_ble_eq_true rfl, Nat.le_of_ble_eq_true rfl⟩) z_preS rfl rfl hl.1 rfl (lv_room (Nat.le_of_ble_eq_true rfl)) dX5_force_1 ⟨Nat.le_of_ble_eq_true rfl, Nat.le_of_ble_eq_true rfl⟩) (fun r1 h => ?_)
  refine lv_if_ne (tgt := 18) hx hb dX5_force_4 (by decide) (fun c2 => ?_) (fun c2 => ?_)
  · replace h := h.1 c2
    refine lv_bipush (v := (-2)) hx hb dX5_force_18 (by decide) ?_
    exact W.iret (v := (-2)) hx hb hr (fun t ht hW => ⟨(-2), rfl, h, ht⟩) (fun _ h9 => by cases h9) dX5_force_20
  · replace h := h.2 c2
    refine lv_iload_n hx hb dX5_force_7 rfl (lv_at hl 2 rfl) ?_
    refine lv_iconst (v := 0) hx hb dX5_force_8 (by decide) ?_
    refine lv_sipush (v := 220) hx hb dX5_force_9 (by decide) ?_
    refine vp_callSi (W.runS (As := [.int p2, .int 0, .int 220]) (rest := []) ⟨hx, hb, hml, hown, hts⟩ (cX5_isOutside_ok l p2 0 220 _ h) (va_cwS 3 hts gX5_force_X5_isOutside rfl rfl rfl (by decide +kernel) ⟨Nat.le_of_ble_eq_true rfl, Nat.le_of_ble_eq_true rfl⟩) z_preS rfl rfl hl.1 rfl (lv_room (Nat.le_of_ble_eq_true rfl)) dX5_force_12 ⟨Nat.le_of_ble_eq_true rfl, Nat.le_of_ble_eq_true rfl⟩) (fun r3 h => ?_)
    refine lv_if_eq (tgt := 21) hx hb dX5_force_15 (by decide) (fun c4 => ?_) (fun c4 => ?_)
    · replace h := h.1 c4
      refine lv_aload_n hx hb dX5_force_21 rfl (lv_at hl 0 rfl) ?_
      refine va_get (D := D) (ci := 5) (v := .ref (q 2 0)) (C := RX5) (T := TX5) (N := 8) hx hb hts inX5_force_5 hown hK hP 0 rfl rfl 1 (by decide) (hts (.fieldLink RX5 19 "CornLaws" "scales" "LCornLaws$Scales;") wdX5_force_0) (fun _ h9 => h9) rfl dX5_force_22 ?_
      refine lv_iload_n hx hb dX5_force_25 rfl (lv_at hl 1 rfl) ?_
      refine lv_iload_n hx hb dX5_force_26 rfl (lv_at hl 2 rfl) ?_
      refine vp_callSi (W.runV (C := RX4) (As := [.int p1, .int p2]) (rest := []) ⟨hx, hb, hml, hown, hts⟩ (cX4_inForce_ok l D cI cII (q 2) u.2.1 p1 p2 _ h) (cwV 2 hts gX5_force_X4_inForce rfl rfl rfl (by decide +kernel) ⟨Nat.le_of_ble_eq_true rfl, Nat.le_of_ble_eq_true rfl⟩) (z_preV hK (z_XS (cII := cII) (u := u) hP) rfl rfl) rfl rfl hl.1 rfl (lv_room (Nat.le_of_ble_eq_true rfl)) dX5_force_27 ⟨Nat.le_of_ble_eq_true rfl, Nat.le_of_ble_eq_true rfl⟩) (fun r5 h => ?_)
      exact W.iret (v := r5) hx hb hr (fun t ht hW => ⟨r5, rfl, h, ht⟩) (fun _ h9 => by cases h9) dX5_force_30
    · replace h := h.2 c4
      refine lv_bipush (v := (-2)) hx hb dX5_force_18 (by decide) ?_
      exact W.iret (v := (-2)) hx hb hr (fun t ht hW => ⟨(-2), rfl, h, ht⟩) (fun _ h9 => by cases h9) dX5_force_20

/-! X5_duty -/
set_option maxHeartbeats 4000000 in
set_option maxRecDepth 100000 in
theorem cX5_duty_ok (l : Launch) (D : va_G) (cI cII : ClassId) (q : Nat → Nat → Nat) (u : XS) (p1 : Int32) (p2 : Int32) (post : Int32 → Prop) (h : wpX5_duty u p1 p2 post) : Met l yX5_duty wsX5_duty ({ frames := 4, cells := 0, slots := 0, locals := 103 } : Room) (zPc [.ref (q 0 0), .int p1, .int p2] D cI cII (wX cI cII q u)) (vp_Si post) 0 0 (fun _ => False) := by
  refine Met.ofW (cc := cX5_duty) (maxL := 3) (ret := (some .int)) (by decide) rfl ?_
  intro p e s m args below meth c s₁ B hml hv
  obtain ⟨rfl, hP, hK⟩ := hv
  have hx := B.exec
  have hb := B.bytes
  have hr := B.returns
  have hts := atoms_spec (ws := wsX5_duty) B.pre
  have hown : s.vm.findClass RX5 = some m.cls := findClass_of_methodNamed B.named
  have hlocks := B.notSynchronized
  have hl := lv_entry ([.ref (q 0 0), .int p1, .int p2]) (n := 3) (Nat.le_of_ble_eq_true rfl)
  rw [lg_entry_eq]
  generalize (lg_sl ([.ref (q 0 0), .int p1, .int p2]) ++ List.replicate (3 - (lg_sl ([.ref (q 0 0), .int p1, .int p2])).length) Slot.unset).toArray = ls at hl ⊢
  have hl : lv_has ls 3 [(0, .ref (q 0 0)), (1, .int p1), (2, .int p2)] := hl
  unfold wpX5_duty at h
  refine lv_iload_n hx hb dX5_duty_0 rfl (lv_at hl 1 rfl) ?_
  refine vp_callSi (W.runS (As := [.int p1]) (rest := []) ⟨hx, hb, hml, hown, hts⟩ (cX5_isNoGrain_ok l p1 _ h) (va_cwS 1 hts gX5_duty_X5_isNoGrain rfl rfl rfl (by decide +kernel) ⟨Nat.le_of_ble_eq_true rfl, Nat.le_of_ble_eq_true rfl⟩) z_preS rfl rfl hl.1 rfl (lv_room (Nat.le_of_ble_eq_true rfl)) dX5_duty_1 ⟨Nat.le_of_ble_eq_true rfl, Nat.le_of_ble_eq_true rfl⟩) (fun r1 h => ?_)
  refine lv_if_ne (tgt := 18) hx hb dX5_duty_4 (by decide) (fun c2 => ?_) (fun c2 => ?_)
  · replace h := h.1 c2
    refine lv_bipush (v := (-2)) hx hb dX5_duty_18 (by decide) ?_
    exact W.iret (v := (-2)) hx hb hr (fun t ht hW => ⟨(-2), rfl, h, ht⟩) (fun _ h9 => by cases h9) dX5_duty_20
  · replace h := h.2 c2
    refine lv_iload_n hx hb dX5_duty_7 rfl (lv_at hl 2 rfl) ?_
    refine lv_iconst (v := 0) hx hb dX5_duty_8 (by decide) ?_
    refine lv_sipush (v := 220) hx hb dX5_duty_9 (by decide) ?_
    refine vp_callSi (W.runS (As := [.int p2, .int 0, .int 220]) (rest := []) ⟨hx, hb, hml, hown, hts⟩ (cX5_isOutside_ok l p2 0 220 _ h) (va_cwS 3 hts gX5_duty_X5_isOutside rfl rfl rfl (by decide +kernel) ⟨Nat.le_of_ble_eq_true rfl, Nat.le_of_ble_eq_true rfl⟩) z_preS rfl rfl hl.1 rfl (lv_room (Nat.le_of_ble_eq_true rfl)) dX5_duty_12 ⟨Nat.le_of_ble_eq_true rfl, Nat.le_of_ble_eq_true rfl⟩) (fun r3 h => ?_)
    refine lv_if_eq (tgt := 21) hx hb dX5_duty_15 (by decide) (fun c4 => ?_) (fun c4 => ?_)
    · replace h := h.1 c4
      refine lv_aload_n hx hb dX5_duty_21 rfl (lv_at hl 0 rfl) ?_
      refine lv_iload_n hx hb dX5_duty_22 rfl (lv_at hl 1 rfl) ?_
      refine lv_iload_n hx hb dX5_duty_23 rfl (lv_at hl 2 rfl) ?_
      refine lv_iconst (v := (-1)) hx hb dX5_duty_24 (by decide) ?_
      refine lv_iconst (v := (-1)) hx hb dX5_duty_25 (by decide) ?_
      refine vp_callSi (W.runV (C := RX5) (As := [.int p1, .int p2, .int (-1), .int (-1)]) (rest := []) ⟨hx, hb, hml, hown, hts⟩ (cX5_dutyAt_ok l D cI cII q u p1 p2 (-1) (-1) _ h) (cwV 4 hts gX5_duty_X5_dutyAt rfl rfl rfl (by decide +kernel) ⟨Nat.le_of_ble_eq_true rfl, Nat.le_of_ble_eq_true rfl⟩) (z_preV hK hP rfl rfl) rfl rfl hl.1 rfl (lv_room (Nat.le_of_ble_eq_true rfl)) dX5_duty_26 ⟨Nat.le_of_ble_eq_true rfl, Nat.le_of_ble_eq_true rfl⟩) (fun r5 h => ?_)
      exact W.iret (v := r5) hx hb hr (fun t ht hW => ⟨r5, rfl, h, ht⟩) (fun _ h9 => by cases h9) dX5_duty_29
    · replace h := h.2 c4
      refine lv_bipush (v := (-2)) hx hb dX5_duty_18 (by decide) ?_
      exact W.iret (v := (-2)) hx hb hr (fun t ht hW => ⟨(-2), rfl, h, ht⟩) (fun _ h9 => by cases h9) dX5_duty_20

/-! X5_cargo -/
set_option maxRecDepth 20000 in
theorem wdX5_cargo_0 : Cond.fieldLink RX5 33 "CornLaws" "cargoes" "LCornLaws$Cargoes;" ∈ wsX5_cargo := by decide +kernel
set_option maxRecDepth 20000 in
theorem wdX5_cargo_1 : Cond.fieldLink RX5 144 "CornLaws$Cargoes" "size" "I" ∈ wsX5_cargo := by decide +kernel
set_option maxRecDepth 20000 in
theorem wdX5_cargo_2 : Cond.fieldLink RX5 48 "CornLaws" "now" "I" ∈ wsX5_cargo := by decide +kernel
set_option maxRecDepth 20000 in
theorem inX5_cargo_5 : ∀ w ∈ wsX50, w ∈ wsX5_cargo := by decide +kernel
set_option maxRecDepth 20000 in
theorem inX5_cargo_0 : ∀ w ∈ wsX00, w ∈ wsX5_cargo := by decide +kernel
set_option maxHeartbeats 4000000 in
set_option maxRecDepth 100000 in
theorem cX5_cargo_ok (l : Launch) (D : va_G) (cI cII : ClassId) (q : Nat → Nat → Nat) (u : XS) (p1 : Int32) (p2 : Int32) (post : Int32 → XS → Prop) (h : wpX5_cargo u p1 p2 post) : Met l yX5_cargo wsX5_cargo ({ frames := 2, cells := 0, slots := 0, locals := 42 } : Room) (zPm [.ref (q 0 0), .int p1, .int p2] D cI cII (wX cI cII q u)) (va_Qi post (fun (z : XS) (t : State) => va_P D vwCl (wX cI cII q z) t.heap) (z_in (wX cI cII q u))) 0 0 (z_in (wX cI cII q u)) := by
  refine Met.ofW (cc := cX5_cargo) (maxL := 3) (ret := (some .int)) (by decide) rfl ?_
  intro p e s m args below meth c s₁ B hml hv
  obtain ⟨rfl, hP, hK, hD0⟩ := hv
  have hx := B.exec
  have hb := B.bytes
  have hr := B.returns
  have hts := atoms_spec (ws := wsX5_cargo) B.pre
  have hown : s.vm.findClass RX5 = some m.cls := findClass_of_methodNamed B.named
  have hlocks := B.notSynchronized
  have hD := z_Dself hD0
  generalize hAe : z_in (wX cI cII q u) = A at hD ⊢
  have hS : va_S A s.heap s.heap [] := va_S.rf
  have hl := lv_entry ([.ref (q 0 0), .int p1, .int p2]) (n := 3) (Nat.le_of_ble_eq_true rfl)
  rw [lg_entry_eq]
  generalize (lg_sl ([.ref (q 0 0), .int p1, .int p2]) ++ List.replicate (3 - (lg_sl ([.ref (q 0 0), .int p1, .int p2])).length) Slot.unset).toArray = ls at hl ⊢
  have hl : lv_has ls 3 [(0, .ref (q 0 0)), (1, .int p1), (2, .int p2)] := hl
  unfold wpX5_cargo at h
  refine lv_iload_n hx hb dX5_cargo_0 rfl (lv_at hl 1 rfl) ?_
  refine vp_callSi (W.runS (As := [.int p1]) (rest := []) ⟨hx, hb, hml, hown, hts⟩ (cX5_isNoGrain_ok l p1 _ h) (va_cwS 1 hts gX5_cargo_X5_isNoGrain rfl rfl rfl (by decide +kernel) ⟨Nat.le_of_ble_eq_true rfl, Nat.le_of_ble_eq_true rfl⟩) z_preS rfl rfl hl.1 rfl (lv_room (Nat.le_of_ble_eq_true rfl)) dX5_cargo_1 ⟨Nat.le_of_ble_eq_true rfl, Nat.le_of_ble_eq_true rfl⟩) (fun r1 h => ?_)
  refine lv_if_ne (tgt := 18) hx hb dX5_cargo_4 (by decide) (fun c2 => ?_) (fun c2 => ?_)
  · replace h := h.1 c2
    refine lv_bipush (v := (-2)) hx hb dX5_cargo_18 (by decide) ?_
    exact W.iret (v := (-2)) hx hb hr (fun t ht hW => ⟨⟨(-2), u, rfl, h, by show va_P D vwCl _ t.heap; rw [ht]; exact hP⟩, hS.F ht⟩) hS.2.2 dX5_cargo_20
  · replace h := h.2 c2
    refine lv_iload_n hx hb dX5_cargo_7 rfl (lv_at hl 2 rfl) ?_
    refine lv_iconst (v := 1) hx hb dX5_cargo_8 (by decide) ?_
    refine lv_sipush (v := 10000) hx hb dX5_cargo_9 (by decide) ?_
    refine vp_callSi (W.runS (As := [.int p2, .int 1, .int 10000]) (rest := []) ⟨hx, hb, hml, hown, hts⟩ (cX5_isOutside_ok l p2 1 10000 _ h) (va_cwS 3 hts gX5_cargo_X5_isOutside rfl rfl rfl (by decide +kernel) ⟨Nat.le_of_ble_eq_true rfl, Nat.le_of_ble_eq_true rfl⟩) z_preS rfl rfl hl.1 rfl (lv_room (Nat.le_of_ble_eq_true rfl)) dX5_cargo_12 ⟨Nat.le_of_ble_eq_true rfl, Nat.le_of_ble_eq_true rfl⟩) (fun r3 h => ?_)
    refine lv_if_eq (tgt := 21) hx hb dX5_cargo_15 (by decide) (fun c4 => ?_) (fun c4 => ?_)
    · replace h := h.1 c4
      refine lv_aload_n hx hb dX5_cargo_21 rfl (lv_at hl 0 rfl) ?_
      refine va_get (D := D) (ci := 5) (v := .ref (q 4 0)) (C := RX5) (T := TX5) (N := 8) hx hb hts inX5_cargo_5 hown hK hP 0 rfl rfl 3 (by decide) (hts (.fieldLink RX5 33 "CornLaws" "cargoes" "LCornLaws$Cargoes;") wdX5_cargo_0) (fun _ h9 => h9) rfl dX5_cargo_22 ?_
      refine va_get (D := D) (ci := 0) (v := .int (u.2.2.2.1 9 0)) (C := RX0) (T := TX0) (N := 7) hx hb hts inX5_cargo_0 hown hK hP 36 rfl rfl 6 (by decide) (hts (.fieldLink RX5 144 "CornLaws$Cargoes" "size" "I") wdX5_cargo_1) (fun _ h9 => h9) rfl dX5_cargo_25 ?_
      refine lv_bipush (v := 20) hx hb dX5_cargo_28 (by decide) ?_
      refine lv_icmp_lt (tgt := 36) hx hb dX5_cargo_30 (by decide) (fun c5 => ?_) (fun c5 => ?_)
      · replace h := h.1 c5
        refine lv_aload_n hx hb dX5_cargo_36 rfl (lv_at hl 0 rfl) ?_
        refine va_get (D := D) (ci := 5) (v := .ref (q 4 0)) (C := RX5) (T := TX5) (N := 8) hx hb hts inX5_cargo_5 hown hK hP 0 rfl rfl 3 (by decide) (hts (.fieldLink RX5 33 "CornLaws" "cargoes" "LCornLaws$Cargoes;") wdX5_cargo_0) (fun _ h9 => h9) rfl dX5_cargo_37 ?_
        refine lv_iload_n hx hb dX5_cargo_40 rfl (lv_at hl 1 rfl) ?_
        refine lv_iload_n hx hb dX5_cargo_41 rfl (lv_at hl 2 rfl) ?_
        refine lv_aload_n hx hb dX5_cargo_42 rfl (lv_at hl 0 rfl) ?_
        refine va_get (D := D) (ci := 5) (v := .int (u.2.2.2.2.2.1 0)) (C := RX5) (T := TX5) (N := 8) hx hb hts inX5_cargo_5 hown hK hP 0 rfl rfl 5 (by decide) (hts (.fieldLink RX5 48 "CornLaws" "now" "I") wdX5_cargo_2) (fun _ h9 => h9) rfl dX5_cargo_43 ?_
        refine va_calli (va_runV (C := RX0) (As := [.int p1, .int p2, .int (u.2.2.2.2.2.1 0)]) (rest := []) ⟨hx, hb, hml, hown, hts⟩ (cX0_add_ok l D cI cII (q 4) u.2.2.2.1 p1 p2 (u.2.2.2.2.2.1 0) _ h) (cwV 3 hts gX5_cargo_X0_add rfl rfl rfl (by decide +kernel) ⟨Nat.le_of_ble_eq_true rfl, Nat.le_of_ble_eq_true rfl⟩) (z_preVm hK (z_XC (cII := cII) (u := u) hP) (z_DXC (cII := cII) (u := u) hD) rfl rfl) rfl rfl hl.1 rfl (lv_room (Nat.le_of_ble_eq_true rfl)) dX5_cargo_46 ⟨Nat.le_of_ble_eq_true rfl, Nat.le_of_ble_eq_true rfl⟩) hS (fun x9 _ h9 => z_sub (z_DXC (cII := cII) (u := u) hD) x9 h9) (z_sub (z_DXC (cII := cII) (u := u) hD)) (fun r7 a6 t H1 locs ht hvm h hB hz1 hk1 hS => ?_)
        have hB : va_P D vwCl (wC cI (q 4) a6) t.heap := hB
        rw [ht] at hB
        have hP := z_jC (u := u) hP hD hk1 hB
        generalize H1 = H at hP hS ⊢
        have hP : va_P D vwCl (wX cI cII q (u.1, u.2.1, u.2.2.1, a6, u.2.2.2.2.1, u.2.2.2.2.2.1, u.2.2.2.2.2.2)) H := hP
        have hD : va_D A (wX cI cII q (u.1, u.2.1, u.2.2.1, a6, u.2.2.2.2.1, u.2.2.2.2.2.1, u.2.2.2.2.2.2)) := z_Dmap hD rfl
        exact W.iret (v := r7) hx hb hr (fun t ht hW => ⟨⟨r7, (u.1, u.2.1, u.2.2.1, a6, u.2.2.2.2.1, u.2.2.2.2.2.1, u.2.2.2.2.2.2), rfl, h, by show va_P D vwCl _ t.heap; rw [ht]; exact hP⟩, hS.F ht⟩) hS.2.2 dX5_cargo_49
      · replace h := h.2 c5
        refine lv_bipush (v := (-4)) hx hb dX5_cargo_33 (by decide) ?_
        exact W.iret (v := (-4)) hx hb hr (fun t ht hW => ⟨⟨(-4), u, rfl, h, by show va_P D vwCl _ t.heap; rw [ht]; exact hP⟩, hS.F ht⟩) hS.2.2 dX5_cargo_35
    · replace h := h.2 c4
      refine lv_bipush (v := (-2)) hx hb dX5_cargo_18 (by decide) ?_
      exact W.iret (v := (-2)) hx hb hr (fun t ht hW => ⟨⟨(-2), u, rfl, h, by show va_P D vwCl _ t.heap; rw [ht]; exact hP⟩, hS.F ht⟩) hS.2.2 dX5_cargo_20

/-! X5_spoil -/
set_option maxRecDepth 20000 in
theorem wdX5_spoil_0 : Cond.fieldLink RX5 52 "CornLaws" "spoilRate" "I" ∈ wsX5_spoil := by decide +kernel
set_option maxRecDepth 20000 in
theorem inX5_spoil_5 : ∀ w ∈ wsX50, w ∈ wsX5_spoil := by decide +kernel
set_option maxHeartbeats 4000000 in
set_option maxRecDepth 100000 in
theorem cX5_spoil_ok (l : Launch) (D : va_G) (cI cII : ClassId) (q : Nat → Nat → Nat) (u : XS) (p1 : Int32) (post : Int32 → XS → Prop) (h : wpX5_spoil u p1 post) : Met l yX5_spoil wsX5_spoil ({ frames := 1, cells := 0, slots := 0, locals := 22 } : Room) (zPm [.ref (q 0 0), .int p1] D cI cII (wX cI cII q u)) (va_Qi post (fun (z : XS) (t : State) => va_P D vwCl (wX cI cII q z) t.heap) (z_in (wX cI cII q u))) 0 0 (z_in (wX cI cII q u)) := by
  refine Met.ofW (cc := cX5_spoil) (maxL := 3) (ret := (some .int)) (by decide) rfl ?_
  intro p e s m args below meth c s₁ B hml hv
  obtain ⟨rfl, hP, hK, hD0⟩ := hv
  have hx := B.exec
  have hb := B.bytes
  have hr := B.returns
  have hts := atoms_spec (ws := wsX5_spoil) B.pre
  have hown : s.vm.findClass RX5 = some m.cls := findClass_of_methodNamed B.named
  have hlocks := B.notSynchronized
  have hD := z_Dself hD0
  generalize hAe : z_in (wX cI cII q u) = A at hD ⊢
  have hS : va_S A s.heap s.heap [] := va_S.rf
  have hl := lv_entry ([.ref (q 0 0), .int p1]) (n := 3) (Nat.le_of_ble_eq_true rfl)
  rw [lg_entry_eq]
  generalize (lg_sl ([.ref (q 0 0), .int p1]) ++ List.replicate (3 - (lg_sl ([.ref (q 0 0), .int p1])).length) Slot.unset).toArray = ls at hl ⊢
  have hl : lv_has ls 3 [(0, .ref (q 0 0)), (1, .int p1)] := hl
  unfold wpX5_spoil at h
  refine lv_iload_n hx hb dX5_spoil_0 rfl (lv_at hl 1 rfl) ?_
  refine lv_iconst (v := 0) hx hb dX5_spoil_1 (by decide) ?_
  refine lv_bipush (v := 100) hx hb dX5_spoil_2 (by decide) ?_
  refine vp_callSi (W.runS (As := [.int p1, .int 0, .int 100]) (rest := []) ⟨hx, hb, hml, hown, hts⟩ (cX5_isOutside_ok l p1 0 100 _ h) (va_cwS 3 hts gX5_spoil_X5_isOutside rfl rfl rfl (by decide +kernel) ⟨Nat.le_of_ble_eq_true rfl, Nat.le_of_ble_eq_true rfl⟩) z_preS rfl rfl hl.1 rfl (lv_room (Nat.le_of_ble_eq_true rfl)) dX5_spoil_4 ⟨Nat.le_of_ble_eq_true rfl, Nat.le_of_ble_eq_true rfl⟩) (fun r1 h => ?_)
  refine lv_if_eq (tgt := 13) hx hb dX5_spoil_7 (by decide) (fun c2 => ?_) (fun c2 => ?_)
  · replace h := h.1 c2
    refine lv_aload_n hx hb dX5_spoil_13 rfl (lv_at hl 0 rfl) ?_
    refine va_get (D := D) (ci := 5) (v := .int (u.2.2.2.2.2.1 1)) (C := RX5) (T := TX5) (N := 8) hx hb hts inX5_spoil_5 hown hK hP 0 rfl rfl 6 (by decide) (hts (.fieldLink RX5 52 "CornLaws" "spoilRate" "I") wdX5_spoil_0) (fun _ h9 => h9) rfl dX5_spoil_14 ?_
    refine lv_istore_n (lv' := [(2, .int (u.2.2.2.2.2.1 1)), (0, .ref (q 0 0)), (1, .int p1)]) hx hb dX5_spoil_17 rfl hl (by decide) rfl (fun ls hl => ?_)
    refine lv_aload_n hx hb dX5_spoil_18 rfl (lv_at hl 1 rfl) ?_
    refine lv_iload_n hx hb dX5_spoil_19 rfl (lv_at hl 2 rfl) ?_
    refine va_put (D := D) (ci := 5) (v := .int p1) (ty := .int) (C := RX5) (T := TX5) (N := 8) hx hb hts inX5_spoil_5 tyX5 tyX5_ok nmX5 hown hK hP hD hS 0 rfl rfl 6 (by decide) (hts (.fieldLink RX5 52 "CornLaws" "spoilRate" "I") wdX5_spoil_0) (fun _ h9 => h9) rfl (by decide +kernel) rfl rfl (Nat.le_of_ble_eq_true rfl) dX5_spoil_20 (fun H locs hP hD hS => ?_)
    have hP : va_P D vwCl (wX cI cII q (u.1, u.2.1, u.2.2.1, u.2.2.2.1, u.2.2.2.2.1, (upd u.2.2.2.2.2.1 1 (p1)), u.2.2.2.2.2.2)) H := hP
    have hD : va_D A (wX cI cII q (u.1, u.2.1, u.2.2.1, u.2.2.2.1, u.2.2.2.2.1, (upd u.2.2.2.2.2.1 1 (p1)), u.2.2.2.2.2.2)) := hD
    refine lv_iload_n hx hb dX5_spoil_23 rfl (lv_at hl 0 rfl) ?_
    exact W.iret (v := (u.2.2.2.2.2.1 1)) hx hb hr (fun t ht hW => ⟨⟨(u.2.2.2.2.2.1 1), (u.1, u.2.1, u.2.2.1, u.2.2.2.1, u.2.2.2.2.1, (upd u.2.2.2.2.2.1 1 (p1)), u.2.2.2.2.2.2), rfl, h, by show va_P D vwCl _ t.heap; rw [ht]; exact hP⟩, hS.F ht⟩) hS.2.2 dX5_spoil_24
  · replace h := h.2 c2
    refine lv_bipush (v := (-2)) hx hb dX5_spoil_10 (by decide) ?_
    exact W.iret (v := (-2)) hx hb hr (fun t ht hW => ⟨⟨(-2), u, rfl, h, by show va_P D vwCl _ t.heap; rw [ht]; exact hP⟩, hS.F ht⟩) hS.2.2 dX5_spoil_12
