/-! X6_scale -/
set_option maxRecDepth 20000 in
theorem wdX6_scale_0 : Cond.fieldLink RX6 96 "CornLawsModel" "week" "I" ∈ wsX6_scale := by decide +kernel
set_option maxRecDepth 20000 in
theorem wdX6_scale_1 : Cond.fieldLink RX6 123 "CornLawsModel" "scales" "I" ∈ wsX6_scale := by decide +kernel
set_option maxRecDepth 20000 in
theorem wdX6_scale_2 : Cond.fieldLink RX6 31 "CornLawsModel" "scaleGrain" "[I" ∈ wsX6_scale := by decide +kernel
set_option maxRecDepth 20000 in
theorem wdX6_scale_3 : Cond.fieldLink RX6 34 "CornLawsModel" "scaleWeek" "[I" ∈ wsX6_scale := by decide +kernel
set_option maxRecDepth 20000 in
theorem wdX6_scale_4 : Cond.fieldLink RX6 37 "CornLawsModel" "scaleTold" "[I" ∈ wsX6_scale := by decide +kernel
set_option maxRecDepth 20000 in
theorem wdX6_scale_5 : Cond.fieldLink RX6 40 "CornLawsModel" "stepMany" "[I" ∈ wsX6_scale := by decide +kernel
set_option maxRecDepth 20000 in
theorem inX6_scale_6 : ∀ w ∈ wsX60, w ∈ wsX6_scale := by decide +kernel
set_option maxHeartbeats 4000000 in
set_option maxRecDepth 100000 in
theorem cX6_scale_ok (l : Launch) (D : va_G) (cI cII : ClassId) (q : Nat → Nat) (w : MS) (p1 : Int32) (p2 : Int32) (post : Int32 → MS → Prop) (h : wpX6_scale w p1 p2 post) : Met l yX6_scale wsX6_scale ({ frames := 2, cells := 0, slots := 0, locals := 42 } : Room) (zPm [.ref (q 0), .int p1, .int p2] D cI cII (wM cI q w)) (va_Qi post (fun (z : MS) (t : State) => va_P D vwCl (wM cI q z) t.heap) (z_in (wM cI q w))) 0 0 (z_in (wM cI q w)) := by
  refine Met.ofW (cc := cX6_scale) (maxL := 3) (ret := (some .int)) (by decide) rfl ?_
  intro p e s m args below meth c s₁ B hml hv
  obtain ⟨rfl, hP, hK, hD0⟩ := hv
  have hx := B.exec
  have hb := B.bytes
  have hr := B.returns
  have hts := atoms_spec (ws := wsX6_scale) B.pre
  have hown : s.vm.findClass RX6 = some m.cls := findClass_of_methodNamed B.named
  have hlocks := B.notSynchronized
  have hD := z_Dself hD0
  generalize hAe : z_in (wM cI q w) = A at hD ⊢
  have hS : va_S A s.heap s.heap [] := va_S.rf
  have hl := lv_entry ([.ref (q 0), .int p1, .int p2]) (n := 3) (Nat.le_of_ble_eq_true rfl)
  rw [lg_entry_eq]
  generalize (lg_sl ([.ref (q 0), .int p1, .int p2]) ++ List.replicate (3 - (lg_sl ([.ref (q 0), .int p1, .int p2])).length) Slot.unset).toArray = ls at hl ⊢
  have hl : lv_has ls 3 [(0, .ref (q 0)), (1, .int p1), (2, .int p2)] := hl
  unfold wpX6_scale at h
  refine lv_iload_n hx hb dX6_scale_0 rfl (lv_at hl 1 rfl) ?_
  refine vp_callSi (W.runS (As := [.int p1]) (rest := []) ⟨hx, hb, hml, hown, hts⟩ (cX6_isGrain_ok l p1 _ h) (va_cwS 1 hts gX6_scale_X6_isGrain rfl rfl rfl (by decide +kernel) ⟨Nat.le_of_ble_eq_true rfl, Nat.le_of_ble_eq_true rfl⟩) z_preS rfl rfl hl.1 rfl (lv_room (Nat.le_of_ble_eq_true rfl)) dX6_scale_1 ⟨Nat.le_of_ble_eq_true rfl, Nat.le_of_ble_eq_true rfl⟩) (fun r1 h => ?_)
  refine lv_if_eq (tgt := 21) hx hb dX6_scale_4 (by decide) (fun c2 => ?_) (fun c2 => ?_)
  · replace h := h.1 c2
    refine lv_bipush (v := (-2)) hx hb dX6_scale_21 (by decide) ?_
    exact W.iret (v := (-2)) hx hb hr (fun t ht hW => ⟨⟨(-2), w, rfl, h, by show va_P D vwCl _ t.heap; rw [ht]; exact hP⟩, hS.F ht⟩) hS.2.2 dX6_scale_23
  · replace h := h.2 c2
    refine lv_iload_n hx hb dX6_scale_7 rfl (lv_at hl 2 rfl) ?_
    refine lv_aload_n hx hb dX6_scale_8 rfl (lv_at hl 0 rfl) ?_
    refine va_get (D := D) (ci := 6) (v := .int (w.2.1 0)) (C := RX6) (T := TX6) (N := 34) hx hb hts inX6_scale_6 hown hK hP 0 rfl rfl 0 (by decide) (hts (.fieldLink RX6 96 "CornLawsModel" "week" "I") wdX6_scale_0) (fun _ h9 => h9) rfl dX6_scale_9 ?_
    refine lv_sipush (v := 200) hx hb dX6_scale_12 (by decide) ?_
    refine vp_callSi (W.runS (As := [.int p2, .int (w.2.1 0), .int 200]) (rest := []) ⟨hx, hb, hml, hown, hts⟩ (cX6_in_ok l p2 (w.2.1 0) 200 _ h) (va_cwS 3 hts gX6_scale_X6_in rfl rfl rfl (by decide +kernel) ⟨Nat.le_of_ble_eq_true rfl, Nat.le_of_ble_eq_true rfl⟩) z_preS rfl rfl hl.1 rfl (lv_room (Nat.le_of_ble_eq_true rfl)) dX6_scale_15 ⟨Nat.le_of_ble_eq_true rfl, Nat.le_of_ble_eq_true rfl⟩) (fun r3 h => ?_)
    refine lv_if_ne (tgt := 24) hx hb dX6_scale_18 (by decide) (fun c4 => ?_) (fun c4 => ?_)
    · replace h := h.1 c4
      refine lv_aload_n hx hb dX6_scale_24 rfl (lv_at hl 0 rfl) ?_
      refine va_get (D := D) (ci := 6) (v := .int (w.2.1 2)) (C := RX6) (T := TX6) (N := 34) hx hb hts inX6_scale_6 hown hK hP 0 rfl rfl 9 (by decide) (hts (.fieldLink RX6 123 "CornLawsModel" "scales" "I") wdX6_scale_1) (fun _ h9 => h9) rfl dX6_scale_25 ?_
      refine lv_bipush (v := 8) hx hb dX6_scale_28 (by decide) ?_
      refine lv_icmp_ne (tgt := 36) hx hb dX6_scale_30 (by decide) (fun c5 => ?_) (fun c5 => ?_)
      · replace h := h.1 c5
        refine lv_aload_n hx hb dX6_scale_36 rfl (lv_at hl 0 rfl) ?_
        refine va_get (D := D) (ci := 6) (v := .ref (q 8)) (C := RX6) (T := TX6) (N := 34) hx hb hts inX6_scale_6 hown hK hP 0 rfl rfl 10 (by decide) (hts (.fieldLink RX6 31 "CornLawsModel" "scaleGrain" "[I") wdX6_scale_2) (fun _ h9 => h9) rfl dX6_scale_37 ?_
        refine lv_aload_n hx hb dX6_scale_40 rfl (lv_at hl 0 rfl) ?_
        refine va_get (D := D) (ci := 6) (v := .int (w.2.1 2)) (C := RX6) (T := TX6) (N := 34) hx hb hts inX6_scale_6 hown hK hP 0 rfl rfl 9 (by decide) (hts (.fieldLink RX6 123 "CornLawsModel" "scales" "I") wdX6_scale_1) (fun _ h9 => h9) rfl dX6_scale_41 ?_
        refine lv_iload_n hx hb dX6_scale_44 rfl (lv_at hl 1 rfl) ?_
        obtain ⟨hi6, h⟩ := h
        refine va_iast (f := w.1 7) hx hb hK hP hD hS 8 0 rfl rfl hi6 dX6_scale_45 (fun H locs hP hD hS => ?_)
        have hP : va_P D vwCl (wM cI q ((va_up w.1 7 (upd (w.1 7) ((w.2.1 2).toNatClampNeg) (p1))), w.2.1, w.2.2)) H := hP
        have hD : va_D A (wM cI q ((va_up w.1 7 (upd (w.1 7) ((w.2.1 2).toNatClampNeg) (p1))), w.2.1, w.2.2)) := hD
        refine lv_aload_n hx hb dX6_scale_46 rfl (lv_at hl 0 rfl) ?_
        refine va_get (D := D) (ci := 6) (v := .ref (q 9)) (C := RX6) (T := TX6) (N := 34) hx hb hts inX6_scale_6 hown hK hP 0 rfl rfl 11 (by decide) (hts (.fieldLink RX6 34 "CornLawsModel" "scaleWeek" "[I") wdX6_scale_3) (fun _ h9 => h9) rfl dX6_scale_47 ?_
        refine lv_aload_n hx hb dX6_scale_50 rfl (lv_at hl 0 rfl) ?_
        refine va_get (D := D) (ci := 6) (v := .int (w.2.1 2)) (C := RX6) (T := TX6) (N := 34) hx hb hts inX6_scale_6 hown hK hP 0 rfl rfl 9 (by decide) (hts (.fieldLink RX6 123 "CornLawsModel" "scales" "I") wdX6_scale_1) (fun _ h9 => h9) rfl dX6_scale_51 ?_
        refine lv_iload_n hx hb dX6_scale_54 rfl (lv_at hl 2 rfl) ?_
        refine va_iast (f := w.1 8) hx hb hK hP hD hS 9 0 rfl rfl hi6 dX6_scale_55 (fun H locs hP hD hS => ?_)
        have hP : va_P D vwCl (wM cI q ((va_up (va_up w.1 7 (upd (w.1 7) ((w.2.1 2).toNatClampNeg) (p1))) 8 (upd (w.1 8) ((w.2.1 2).toNatClampNeg) (p2))), w.2.1, w.2.2)) H := hP
        have hD : va_D A (wM cI q ((va_up (va_up w.1 7 (upd (w.1 7) ((w.2.1 2).toNatClampNeg) (p1))) 8 (upd (w.1 8) ((w.2.1 2).toNatClampNeg) (p2))), w.2.1, w.2.2)) := hD
        refine lv_aload_n hx hb dX6_scale_56 rfl (lv_at hl 0 rfl) ?_
        refine va_get (D := D) (ci := 6) (v := .ref (q 10)) (C := RX6) (T := TX6) (N := 34) hx hb hts inX6_scale_6 hown hK hP 0 rfl rfl 12 (by decide) (hts (.fieldLink RX6 37 "CornLawsModel" "scaleTold" "[I") wdX6_scale_4) (fun _ h9 => h9) rfl dX6_scale_57 ?_
        refine lv_aload_n hx hb dX6_scale_60 rfl (lv_at hl 0 rfl) ?_
        refine va_get (D := D) (ci := 6) (v := .int (w.2.1 2)) (C := RX6) (T := TX6) (N := 34) hx hb hts inX6_scale_6 hown hK hP 0 rfl rfl 9 (by decide) (hts (.fieldLink RX6 123 "CornLawsModel" "scales" "I") wdX6_scale_1) (fun _ h9 => h9) rfl dX6_scale_61 ?_
        refine lv_aload_n hx hb dX6_scale_64 rfl (lv_at hl 0 rfl) ?_
        refine va_get (D := D) (ci := 6) (v := .int (w.2.1 0)) (C := RX6) (T := TX6) (N := 34) hx hb hts inX6_scale_6 hown hK hP 0 rfl rfl 0 (by decide) (hts (.fieldLink RX6 96 "CornLawsModel" "week" "I") wdX6_scale_0) (fun _ h9 => h9) rfl dX6_scale_65 ?_
        refine va_iast (f := w.1 9) hx hb hK hP hD hS 10 0 rfl rfl hi6 dX6_scale_68 (fun H locs hP hD hS => ?_)
        have hP : va_P D vwCl (wM cI q ((va_up (va_up (va_up w.1 7 (upd (w.1 7) ((w.2.1 2).toNatClampNeg) (p1))) 8 (upd (w.1 8) ((w.2.1 2).toNatClampNeg) (p2))) 9 (upd (w.1 9) ((w.2.1 2).toNatClampNeg) ((w.2.1 0)))), w.2.1, w.2.2)) H := hP
        have hD : va_D A (wM cI q ((va_up (va_up (va_up w.1 7 (upd (w.1 7) ((w.2.1 2).toNatClampNeg) (p1))) 8 (upd (w.1 8) ((w.2.1 2).toNatClampNeg) (p2))) 9 (upd (w.1 9) ((w.2.1 2).toNatClampNeg) ((w.2.1 0)))), w.2.1, w.2.2)) := hD
        refine lv_aload_n hx hb dX6_scale_69 rfl (lv_at hl 0 rfl) ?_
        refine va_get (D := D) (ci := 6) (v := .ref (q 11)) (C := RX6) (T := TX6) (N := 34) hx hb hts inX6_scale_6 hown hK hP 0 rfl rfl 13 (by decide) (hts (.fieldLink RX6 40 "CornLawsModel" "stepMany" "[I") wdX6_scale_5) (fun _ h9 => h9) rfl dX6_scale_70 ?_
        refine lv_aload_n hx hb dX6_scale_73 rfl (lv_at hl 0 rfl) ?_
        refine va_get (D := D) (ci := 6) (v := .int (w.2.1 2)) (C := RX6) (T := TX6) (N := 34) hx hb hts inX6_scale_6 hown hK hP 0 rfl rfl 9 (by decide) (hts (.fieldLink RX6 123 "CornLawsModel" "scales" "I") wdX6_scale_1) (fun _ h9 => h9) rfl dX6_scale_74 ?_
        refine lv_iconst (v := 0) hx hb dX6_scale_77 (by decide) ?_
        refine va_iast (f := w.1 10) hx hb hK hP hD hS 11 0 rfl rfl hi6 dX6_scale_78 (fun H locs hP hD hS => ?_)
        have hP : va_P D vwCl (wM cI q ((va_up (va_up (va_up (va_up w.1 7 (upd (w.1 7) ((w.2.1 2).toNatClampNeg) (p1))) 8 (upd (w.1 8) ((w.2.1 2).toNatClampNeg) (p2))) 9 (upd (w.1 9) ((w.2.1 2).toNatClampNeg) ((w.2.1 0)))) 10 (upd (w.1 10) ((w.2.1 2).toNatClampNeg) (0))), w.2.1, w.2.2)) H := hP
        have hD : va_D A (wM cI q ((va_up (va_up (va_up (va_up w.1 7 (upd (w.1 7) ((w.2.1 2).toNatClampNeg) (p1))) 8 (upd (w.1 8) ((w.2.1 2).toNatClampNeg) (p2))) 9 (upd (w.1 9) ((w.2.1 2).toNatClampNeg) ((w.2.1 0)))) 10 (upd (w.1 10) ((w.2.1 2).toNatClampNeg) (0))), w.2.1, w.2.2)) := hD
        refine lv_aload_n hx hb dX6_scale_79 rfl (lv_at hl 0 rfl) ?_
        refine lv_dup hx hb dX6_scale_80 rfl ?_
        refine va_get (D := D) (ci := 6) (v := .int (w.2.1 2)) (C := RX6) (T := TX6) (N := 34) hx hb hts inX6_scale_6 hown hK hP 0 rfl rfl 9 (by decide) (hts (.fieldLink RX6 123 "CornLawsModel" "scales" "I") wdX6_scale_1) (fun _ h9 => h9) rfl dX6_scale_81 ?_
        refine lv_iconst (v := 1) hx hb dX6_scale_84 (by decide) ?_
        refine lv_iadd hx hb dX6_scale_85 ?_
        refine va_put (D := D) (ci := 6) (v := .int ((w.2.1 2) + 1)) (ty := .int) (C := RX6) (T := TX6) (N := 34) hx hb hts inX6_scale_6 tyX6 tyX6_ok nmX6 hown hK hP hD hS 0 rfl rfl 9 (by decide) (hts (.fieldLink RX6 123 "CornLawsModel" "scales" "I") wdX6_scale_1) (fun _ h9 => h9) rfl (by decide +kernel) rfl rfl (Nat.le_of_ble_eq_true rfl) dX6_scale_86 (fun H locs hP hD hS => ?_)
        have hP : va_P D vwCl (wM cI q ((va_up (va_up (va_up (va_up w.1 7 (upd (w.1 7) ((w.2.1 2).toNatClampNeg) (p1))) 8 (upd (w.1 8) ((w.2.1 2).toNatClampNeg) (p2))) 9 (upd (w.1 9) ((w.2.1 2).toNatClampNeg) ((w.2.1 0)))) 10 (upd (w.1 10) ((w.2.1 2).toNatClampNeg) (0))), (upd w.2.1 2 (((w.2.1 2) + 1))), w.2.2)) H := hP
        have hD : va_D A (wM cI q ((va_up (va_up (va_up (va_up w.1 7 (upd (w.1 7) ((w.2.1 2).toNatClampNeg) (p1))) 8 (upd (w.1 8) ((w.2.1 2).toNatClampNeg) (p2))) 9 (upd (w.1 9) ((w.2.1 2).toNatClampNeg) ((w.2.1 0)))) 10 (upd (w.1 10) ((w.2.1 2).toNatClampNeg) (0))), (upd w.2.1 2 (((w.2.1 2) + 1))), w.2.2)) := hD
        refine lv_aload_n hx hb dX6_scale_89 rfl (lv_at hl 0 rfl) ?_
        refine va_get (D := D) (ci := 6) (v := .int (((w.2.1 2) + 1))) (C := RX6) (T := TX6) (N := 34) hx hb hts inX6_scale_6 hown hK hP 0 rfl rfl 9 (by decide) (hts (.fieldLink RX6 123 "CornLawsModel" "scales" "I") wdX6_scale_1) (fun _ h9 => h9) rfl dX6_scale_90 ?_
        refine lv_iconst (v := 1) hx hb dX6_scale_93 (by decide) ?_
        refine lv_isub hx hb dX6_scale_94 ?_
        exact W.iret (v := ((((w.2.1 2) + 1)) - 1)) hx hb hr (fun t ht hW => ⟨⟨((((w.2.1 2) + 1)) - 1), ((va_up (va_up (va_up (va_up w.1 7 (upd (w.1 7) ((w.2.1 2).toNatClampNeg) (p1))) 8 (upd (w.1 8) ((w.2.1 2).toNatClampNeg) (p2))) 9 (upd (w.1 9) ((w.2.1 2).toNatClampNeg) ((w.2.1 0)))) 10 (upd (w.1 10) ((w.2.1 2).toNatClampNeg) (0))), (upd w.2.1 2 (((w.2.1 2) + 1))), w.2.2), rfl, h, by show va_P D vwCl _ t.heap; rw [ht]; exact hP⟩, hS.F ht⟩) hS.2.2 dX6_scale_95
      · replace h := h.2 c5
        refine lv_bipush (v := (-4)) hx hb dX6_scale_33 (by decide) ?_
        exact W.iret (v := (-4)) hx hb hr (fun t ht hW => ⟨⟨(-4), w, rfl, h, by show va_P D vwCl _ t.heap; rw [ht]; exact hP⟩, hS.F ht⟩) hS.2.2 dX6_scale_35
    · replace h := h.2 c4
      refine lv_bipush (v := (-2)) hx hb dX6_scale_21 (by decide) ?_
      exact W.iret (v := (-2)) hx hb hr (fun t ht hW => ⟨⟨(-2), w, rfl, h, by show va_P D vwCl _ t.heap; rw [ht]; exact hP⟩, hS.F ht⟩) hS.2.2 dX6_scale_23

/-! X6_isScale -/
set_option maxRecDepth 20000 in
theorem wdX6_isScale_0 : Cond.fieldLink RX6 123 "CornLawsModel" "scales" "I" ∈ wsX6_isScale := by decide +kernel
set_option maxRecDepth 20000 in
theorem inX6_isScale_6 : ∀ w ∈ wsX60, w ∈ wsX6_isScale := by decide +kernel
set_option maxHeartbeats 4000000 in
set_option maxRecDepth 100000 in
theorem cX6_isScale_ok (l : Launch) (D : va_G) (cI cII : ClassId) (q : Nat → Nat) (w : MS) (p1 : Int32) (post : Int32 → Prop) (h : wpX6_isScale w p1 post) : Met l yX6_isScale wsX6_isScale ({ frames := 1, cells := 0, slots := 0, locals := 22 } : Room) (zPc [.ref (q 0), .int p1] D cI cII (wM cI q w)) (vp_Si post) 0 0 (fun _ => False) := by
  refine Met.ofW (cc := cX6_isScale) (maxL := 2) (ret := (some .boolean)) (by decide) rfl ?_
  intro p e s m args below meth c s₁ B hml hv
  obtain ⟨rfl, hP, hK⟩ := hv
  have hx := B.exec
  have hb := B.bytes
  have hr := B.returns
  have hts := atoms_spec (ws := wsX6_isScale) B.pre
  have hown : s.vm.findClass RX6 = some m.cls := findClass_of_methodNamed B.named
  have hlocks := B.notSynchronized
  have hl := lv_entry ([.ref (q 0), .int p1]) (n := 2) (Nat.le_of_ble_eq_true rfl)
  rw [lg_entry_eq]
  generalize (lg_sl ([.ref (q 0), .int p1]) ++ List.replicate (2 - (lg_sl ([.ref (q 0), .int p1])).length) Slot.unset).toArray = ls at hl ⊢
  have hl : lv_has ls 2 [(0, .ref (q 0)), (1, .int p1)] := hl
  unfold wpX6_isScale at h
  refine lv_iload_n hx hb dX6_isScale_0 rfl (lv_at hl 1 rfl) ?_
  refine lv_iconst (v := 0) hx hb dX6_isScale_1 (by decide) ?_
  refine lv_aload_n hx hb dX6_isScale_2 rfl (lv_at hl 0 rfl) ?_
  refine va_get (D := D) (ci := 6) (v := .int (w.2.1 2)) (C := RX6) (T := TX6) (N := 34) hx hb hts inX6_isScale_6 hown hK hP 0 rfl rfl 9 (by decide) (hts (.fieldLink RX6 123 "CornLawsModel" "scales" "I") wdX6_isScale_0) (fun _ h9 => h9) rfl dX6_isScale_3 ?_
  refine lv_iconst (v := 1) hx hb dX6_isScale_6 (by decide) ?_
  refine lv_isub hx hb dX6_isScale_7 ?_
  refine vp_callSi (W.runS (As := [.int p1, .int 0, .int ((w.2.1 2) - 1)]) (rest := []) ⟨hx, hb, hml, hown, hts⟩ (cX6_in_ok l p1 0 ((w.2.1 2) - 1) _ h) (va_cwS 3 hts gX6_isScale_X6_in rfl rfl rfl (by decide +kernel) ⟨Nat.le_of_ble_eq_true rfl, Nat.le_of_ble_eq_true rfl⟩) z_preS rfl rfl hl.1 rfl (lv_room (Nat.le_of_ble_eq_true rfl)) dX6_isScale_8 ⟨Nat.le_of_ble_eq_true rfl, Nat.le_of_ble_eq_true rfl⟩) (fun r1 h => ?_)
  obtain ⟨hnar, h⟩ := h
  exact W.zret (v := r1) (ty := .boolean) hx hb hr hnar (fun t ht hW => ⟨r1, rfl, h, ht⟩) (fun _ h9 => by cases h9) dX6_isScale_11

/-! X6_step -/
set_option maxRecDepth 20000 in
theorem wdX6_step_0 : Cond.fieldLink RX6 40 "CornLawsModel" "stepMany" "[I" ∈ wsX6_step := by decide +kernel
set_option maxRecDepth 20000 in
theorem wdX6_step_1 : Cond.fieldLink RX6 34 "CornLawsModel" "scaleWeek" "[I" ∈ wsX6_step := by decide +kernel
set_option maxRecDepth 20000 in
theorem wdX6_step_2 : Cond.fieldLink RX6 96 "CornLawsModel" "week" "I" ∈ wsX6_step := by decide +kernel
set_option maxRecDepth 20000 in
theorem wdX6_step_3 : Cond.fieldLink RX6 43 "CornLawsModel" "stepPrice" "[I" ∈ wsX6_step := by decide +kernel
set_option maxRecDepth 20000 in
theorem wdX6_step_4 : Cond.fieldLink RX6 46 "CornLawsModel" "stepDuty" "[I" ∈ wsX6_step := by decide +kernel
set_option maxRecDepth 20000 in
theorem wdX6_step_5 : Cond.fieldLink RX6 37 "CornLawsModel" "scaleTold" "[I" ∈ wsX6_step := by decide +kernel
set_option maxRecDepth 20000 in
theorem inX6_step_6 : ∀ w ∈ wsX60, w ∈ wsX6_step := by decide +kernel
set_option maxHeartbeats 4000000 in
set_option maxRecDepth 100000 in
theorem cX6_step_ok (l : Launch) (D : va_G) (cI cII : ClassId) (q : Nat → Nat) (w : MS) (p1 : Int32) (p2 : Int32) (p3 : Int32) (post : Int32 → MS → Prop) (h : wpX6_step w p1 p2 p3 post) : Met l yX6_step wsX6_step ({ frames := 2, cells := 0, slots := 0, locals := 43 } : Room) (zPm [.ref (q 0), .int p1, .int p2, .int p3] D cI cII (wM cI q w)) (va_Qi post (fun (z : MS) (t : State) => va_P D vwCl (wM cI q z) t.heap) (z_in (wM cI q w))) 0 0 (z_in (wM cI q w)) := by
  refine Met.ofW (cc := cX6_step) (maxL := 4) (ret := (some .int)) (by decide) rfl ?_
  intro p e s m args below meth c s₁ B hml hv
  obtain ⟨rfl, hP, hK, hD0⟩ := hv
  have hx := B.exec
  have hb := B.bytes
  have hr := B.returns
  have hts := atoms_spec (ws := wsX6_step) B.pre
  have hown : s.vm.findClass RX6 = some m.cls := findClass_of_methodNamed B.named
  have hlocks := B.notSynchronized
  have hD := z_Dself hD0
  generalize hAe : z_in (wM cI q w) = A at hD ⊢
  have hS : va_S A s.heap s.heap [] := va_S.rf
  have hl := lv_entry ([.ref (q 0), .int p1, .int p2, .int p3]) (n := 4) (Nat.le_of_ble_eq_true rfl)
  rw [lg_entry_eq]
  generalize (lg_sl ([.ref (q 0), .int p1, .int p2, .int p3]) ++ List.replicate (4 - (lg_sl ([.ref (q 0), .int p1, .int p2, .int p3])).length) Slot.unset).toArray = ls at hl ⊢
  have hl : lv_has ls 4 [(0, .ref (q 0)), (1, .int p1), (2, .int p2), (3, .int p3)] := hl
  unfold wpX6_step at h
  have hJ : wpX6_step_J64 w p1 p2 p3 post  → ∀ ls : Array Slot, lv_has ls 4 [(0, .ref (q 0)), (1, .int p1), (2, .int p2), (3, .int p3)] → W p l e (headSpec wsX6_step ({ frames := 2, cells := 0, slots := 0, locals := 43 } : Room)).room s m ([.ref (q 0), .int p1, .int p2, .int p3] : List Value).toArray below meth c s.heap [] 0 0 (MQ below (va_Qi post (fun (z : MS) (t : State) => va_P D vwCl (wM cI q z) t.heap) A) ([.ref (q 0), .int p1, .int p2, .int p3] : List Value).toArray s 0 0 A) (F0 m 64 ls []) := by
    intro  h ls hl
    unfold wpX6_step_J64 at h
    refine lv_aload_n hx hb dX6_step_64 rfl (lv_at hl 0 rfl) ?_
    refine va_get (D := D) (ci := 6) (v := .ref (q 9)) (C := RX6) (T := TX6) (N := 34) hx hb hts inX6_step_6 hown hK hP 0 rfl rfl 11 (by decide) (hts (.fieldLink RX6 34 "CornLawsModel" "scaleWeek" "[I") wdX6_step_1) (fun _ h9 => h9) rfl dX6_step_65 ?_
    refine lv_iload_n hx hb dX6_step_68 rfl (lv_at hl 1 rfl) ?_
    obtain ⟨hi1, h⟩ := h
    refine va_iald (f := w.1 8) hx hb hK hP 9 0 rfl rfl hi1 dX6_step_69 ?_
    refine lv_aload_n hx hb dX6_step_70 rfl (lv_at hl 0 rfl) ?_
    refine va_get (D := D) (ci := 6) (v := .int (w.2.1 0)) (C := RX6) (T := TX6) (N := 34) hx hb hts inX6_step_6 hown hK hP 0 rfl rfl 0 (by decide) (hts (.fieldLink RX6 96 "CornLawsModel" "week" "I") wdX6_step_2) (fun _ h9 => h9) rfl dX6_step_71 ?_
    refine lv_icmp_gt (tgt := 93) hx hb dX6_step_74 (by decide) (fun c2 => ?_) (fun c2 => ?_)
    · replace h := h.1 c2
      refine lv_aload_n hx hb dX6_step_93 rfl (lv_at hl 0 rfl) ?_
      refine va_get (D := D) (ci := 6) (v := .ref (q 11)) (C := RX6) (T := TX6) (N := 34) hx hb hts inX6_step_6 hown hK hP 0 rfl rfl 13 (by decide) (hts (.fieldLink RX6 40 "CornLawsModel" "stepMany" "[I") wdX6_step_0) (fun _ h9 => h9) rfl dX6_step_94 ?_
      refine lv_iload_n hx hb dX6_step_97 rfl (lv_at hl 1 rfl) ?_
      refine va_iald (f := w.1 10) hx hb hK hP 11 0 rfl rfl hi1 dX6_step_98 ?_
      refine lv_bipush (v := 8) hx hb dX6_step_99 (by decide) ?_
      refine lv_icmp_ne (tgt := 107) hx hb dX6_step_101 (by decide) (fun c3 => ?_) (fun c3 => ?_)
      · replace h := h.1 c3
        refine lv_aload_n hx hb dX6_step_107 rfl (lv_at hl 0 rfl) ?_
        refine va_get (D := D) (ci := 6) (v := .ref (q 12)) (C := RX6) (T := TX6) (N := 34) hx hb hts inX6_step_6 hown hK hP 0 rfl rfl 14 (by decide) (hts (.fieldLink RX6 43 "CornLawsModel" "stepPrice" "[I") wdX6_step_3) (fun _ h9 => h9) rfl dX6_step_108 ?_
        refine lv_bipush (v := 8) hx hb dX6_step_111 (by decide) ?_
        refine lv_iload_n hx hb dX6_step_113 rfl (lv_at hl 1 rfl) ?_
        refine lv_imul hx hb dX6_step_114 ?_
        refine lv_aload_n hx hb dX6_step_115 rfl (lv_at hl 0 rfl) ?_
        refine va_get (D := D) (ci := 6) (v := .ref (q 11)) (C := RX6) (T := TX6) (N := 34) hx hb hts inX6_step_6 hown hK hP 0 rfl rfl 13 (by decide) (hts (.fieldLink RX6 40 "CornLawsModel" "stepMany" "[I") wdX6_step_0) (fun _ h9 => h9) rfl dX6_step_116 ?_
        refine lv_iload_n hx hb dX6_step_119 rfl (lv_at hl 1 rfl) ?_
        refine va_iald (f := w.1 10) hx hb hK hP 11 0 rfl rfl hi1 dX6_step_120 ?_
        refine lv_iadd hx hb dX6_step_121 ?_
        refine lv_iload_n hx hb dX6_step_122 rfl (lv_at hl 2 rfl) ?_
        obtain ⟨hi4, h⟩ := h
        refine va_iast (f := w.1 11) hx hb hK hP hD hS 12 0 rfl rfl hi4 dX6_step_123 (fun H locs hP hD hS => ?_)
        rw [z_setM11] at hP hD
        obtain ⟨w5, ew5⟩ : ∃ z, z = (va_up w.1 11 (upd (w.1 11) (((8 * p1) + (w.1 10 p1.toNatClampNeg)).toNatClampNeg) (p2)), w.2.1, w.2.2) := ⟨_, rfl⟩
        rw [← ew5] at hP hD
        replace h := h w5 ew5
        refine lv_aload_n hx hb dX6_step_124 rfl (lv_at hl 0 rfl) ?_
        refine va_get (D := D) (ci := 6) (v := .ref (q 13)) (C := RX6) (T := TX6) (N := 34) hx hb hts inX6_step_6 hown hK hP 0 rfl rfl 15 (by decide) (hts (.fieldLink RX6 46 "CornLawsModel" "stepDuty" "[I") wdX6_step_4) (fun _ h9 => h9) rfl dX6_step_125 ?_
        refine lv_bipush (v := 8) hx hb dX6_step_128 (by decide) ?_
        refine lv_iload_n hx hb dX6_step_130 rfl (lv_at hl 1 rfl) ?_
        refine lv_imul hx hb dX6_step_131 ?_
        refine lv_aload_n hx hb dX6_step_132 rfl (lv_at hl 0 rfl) ?_
        refine va_get (D := D) (ci := 6) (v := .ref (q 11)) (C := RX6) (T := TX6) (N := 34) hx hb hts inX6_step_6 hown hK hP 0 rfl rfl 13 (by decide) (hts (.fieldLink RX6 40 "CornLawsModel" "stepMany" "[I") wdX6_step_0) (fun _ h9 => h9) rfl dX6_step_133 ?_
        refine lv_iload_n hx hb dX6_step_136 rfl (lv_at hl 1 rfl) ?_
        refine va_iald (f := w5.1 10) hx hb hK hP 11 0 rfl rfl hi1 dX6_step_137 ?_
        refine lv_iadd hx hb dX6_step_138 ?_
        refine lv_iload_n hx hb dX6_step_139 rfl (lv_at hl 3 rfl) ?_
        obtain ⟨hi6, h⟩ := h
        refine va_iast (f := w5.1 12) hx hb hK hP hD hS 13 0 rfl rfl hi6 dX6_step_140 (fun H locs hP hD hS => ?_)
        rw [z_setM12] at hP hD
        obtain ⟨w7, ew7⟩ : ∃ z, z = (va_up w5.1 12 (upd (w5.1 12) (((8 * p1) + (w5.1 10 p1.toNatClampNeg)).toNatClampNeg) (p3)), w5.2.1, w5.2.2) := ⟨_, rfl⟩
        rw [← ew7] at hP hD
        replace h := h w7 ew7
        refine lv_aload_n hx hb dX6_step_141 rfl (lv_at hl 0 rfl) ?_
        refine va_get (D := D) (ci := 6) (v := .ref (q 11)) (C := RX6) (T := TX6) (N := 34) hx hb hts inX6_step_6 hown hK hP 0 rfl rfl 13 (by decide) (hts (.fieldLink RX6 40 "CornLawsModel" "stepMany" "[I") wdX6_step_0) (fun _ h9 => h9) rfl dX6_step_142 ?_
        refine lv_iload_n hx hb dX6_step_145 rfl (lv_at hl 1 rfl) ?_
        refine lv_dup2_11 hx hb dX6_step_146 rfl rfl ?_
        refine va_iald (f := w7.1 10) hx hb hK hP 11 0 rfl rfl hi1 dX6_step_147 ?_
        refine lv_iconst (v := 1) hx hb dX6_step_148 (by decide) ?_
        refine lv_iadd hx hb dX6_step_149 ?_
        refine va_iast (f := w7.1 10) hx hb hK hP hD hS 11 0 rfl rfl hi1 dX6_step_150 (fun H locs hP hD hS => ?_)
        rw [z_setM10] at hP hD
        obtain ⟨w8, ew8⟩ : ∃ z, z = (va_up w7.1 10 (upd (w7.1 10) (p1.toNatClampNeg) (((w7.1 10 p1.toNatClampNeg) + 1))), w7.2.1, w7.2.2) := ⟨_, rfl⟩
        rw [← ew8] at hP hD
        replace h := h w8 ew8
        refine lv_aload_n hx hb dX6_step_151 rfl (lv_at hl 0 rfl) ?_
        refine va_get (D := D) (ci := 6) (v := .ref (q 11)) (C := RX6) (T := TX6) (N := 34) hx hb hts inX6_step_6 hown hK hP 0 rfl rfl 13 (by decide) (hts (.fieldLink RX6 40 "CornLawsModel" "stepMany" "[I") wdX6_step_0) (fun _ h9 => h9) rfl dX6_step_152 ?_
        refine lv_iload_n hx hb dX6_step_155 rfl (lv_at hl 1 rfl) ?_
        refine va_iald (f := w8.1 10) hx hb hK hP 11 0 rfl rfl hi1 dX6_step_156 ?_
        exact W.iret (v := (w8.1 10 p1.toNatClampNeg)) hx hb hr (fun t ht hW => ⟨⟨(w8.1 10 p1.toNatClampNeg), w8, rfl, h, by show va_P D vwCl _ t.heap; rw [ht]; exact hP⟩, hS.F ht⟩) hS.2.2 dX6_step_157
      · replace h := h.2 c3
        refine lv_bipush (v := (-4)) hx hb dX6_step_104 (by decide) ?_
        exact W.iret (v := (-4)) hx hb hr (fun t ht hW => ⟨⟨(-4), w, rfl, h, by show va_P D vwCl _ t.heap; rw [ht]; exact hP⟩, hS.F ht⟩) hS.2.2 dX6_step_106
    · replace h := h.2 c2
      refine lv_aload_n hx hb dX6_step_77 rfl (lv_at hl 0 rfl) ?_
      refine va_get (D := D) (ci := 6) (v := .ref (q 10)) (C := RX6) (T := TX6) (N := 34) hx hb hts inX6_step_6 hown hK hP 0 rfl rfl 12 (by decide) (hts (.fieldLink RX6 37 "CornLawsModel" "scaleTold" "[I") wdX6_step_5) (fun _ h9 => h9) rfl dX6_step_78 ?_
      refine lv_iload_n hx hb dX6_step_81 rfl (lv_at hl 1 rfl) ?_
      refine va_iald (f := w.1 9) hx hb hK hP 10 0 rfl rfl hi1 dX6_step_82 ?_
      refine lv_aload_n hx hb dX6_step_83 rfl (lv_at hl 0 rfl) ?_
      refine va_get (D := D) (ci := 6) (v := .int (w.2.1 0)) (C := RX6) (T := TX6) (N := 34) hx hb hts inX6_step_6 hown hK hP 0 rfl rfl 0 (by decide) (hts (.fieldLink RX6 96 "CornLawsModel" "week" "I") wdX6_step_2) (fun _ h9 => h9) rfl dX6_step_84 ?_
      refine lv_icmp_eq (tgt := 93) hx hb dX6_step_87 (by decide) (fun c9 => ?_) (fun c9 => ?_)
      · replace h := h.1 c9
        refine lv_aload_n hx hb dX6_step_93 rfl (lv_at hl 0 rfl) ?_
        refine va_get (D := D) (ci := 6) (v := .ref (q 11)) (C := RX6) (T := TX6) (N := 34) hx hb hts inX6_step_6 hown hK hP 0 rfl rfl 13 (by decide) (hts (.fieldLink RX6 40 "CornLawsModel" "stepMany" "[I") wdX6_step_0) (fun _ h9 => h9) rfl dX6_step_94 ?_
        refine lv_iload_n hx hb dX6_step_97 rfl (lv_at hl 1 rfl) ?_
        refine va_iald (f := w.1 10) hx hb hK hP 11 0 rfl rfl hi1 dX6_step_98 ?_
        refine lv_bipush (v := 8) hx hb dX6_step_99 (by decide) ?_
        refine lv_icmp_ne (tgt := 107) hx hb dX6_step_101 (by decide) (fun c10 => ?_) (fun c10 => ?_)
        · replace h := h.1 c10
          refine lv_aload_n hx hb dX6_step_107 rfl (lv_at hl 0 rfl) ?_
          refine va_get (D := D) (ci := 6) (v := .ref (q 12)) (C := RX6) (T := TX6) (N := 34) hx hb hts inX6_step_6 hown hK hP 0 rfl rfl 14 (by decide) (hts (.fieldLink RX6 43 "CornLawsModel" "stepPrice" "[I") wdX6_step_3) (fun _ h9 => h9) rfl dX6_step_108 ?_
          refine lv_bipush (v := 8) hx hb dX6_step_111 (by decide) ?_
          refine lv_iload_n hx hb dX6_step_113 rfl (lv_at hl 1 rfl) ?_
          refine lv_imul hx hb dX6_step_114 ?_
          refine lv_aload_n hx hb dX6_step_115 rfl (lv_at hl 0 rfl) ?_
          refine va_get (D := D) (ci := 6) (v := .ref (q 11)) (C := RX6) (T := TX6) (N := 34) hx hb hts inX6_step_6 hown hK hP 0 rfl rfl 13 (by decide) (hts (.fieldLink RX6 40 "CornLawsModel" "stepMany" "[I") wdX6_step_0) (fun _ h9 => h9) rfl dX6_step_116 ?_
          refine lv_iload_n hx hb dX6_step_119 rfl (lv_at hl 1 rfl) ?_
          refine va_iald (f := w.1 10) hx hb hK hP 11 0 rfl rfl hi1 dX6_step_120 ?_
          refine lv_iadd hx hb dX6_step_121 ?_
          refine lv_iload_n hx hb dX6_step_122 rfl (lv_at hl 2 rfl) ?_
          obtain ⟨hi11, h⟩ := h
          refine va_iast (f := w.1 11) hx hb hK hP hD hS 12 0 rfl rfl hi11 dX6_step_123 (fun H locs hP hD hS => ?_)
          rw [z_setM11] at hP hD
          obtain ⟨w12, ew12⟩ : ∃ z, z = (va_up w.1 11 (upd (w.1 11) (((8 * p1) + (w.1 10 p1.toNatClampNeg)).toNatClampNeg) (p2)), w.2.1, w.2.2) := ⟨_, rfl⟩
          rw [← ew12] at hP hD
          replace h := h w12 ew12
          refine lv_aload_n hx hb dX6_step_124 rfl (lv_at hl 0 rfl) ?_
          refine va_get (D := D) (ci := 6) (v := .ref (q 13)) (C := RX6) (T := TX6) (N := 34) hx hb hts inX6_step_6 hown hK hP 0 rfl rfl 15 (by decide) (hts (.fieldLink RX6 46 "CornLawsModel" "stepDuty" "[I") wdX6_step_4) (fun _ h9 => h9) rfl dX6_step_125 ?_
          refine lv_bipush (v := 8) hx hb dX6_step_128 (by decide) ?_
          refine lv_iload_n hx hb dX6_step_130 rfl (lv_at hl 1 rfl) ?_
          refine lv_imul hx hb dX6_step_131 ?_
          refine lv_aload_n hx hb dX6_step_132 rfl (lv_at hl 0 rfl) ?_
          refine va_get (D := D) (ci := 6) (v := .ref (q 11)) (C := RX6) (T := TX6) (N := 34) hx hb hts inX6_step_6 hown hK hP 0 rfl rfl 13 (by decide) (hts (.fieldLink RX6 40 "CornLawsModel" "stepMany" "[I") wdX6_step_0) (fun _ h9 => h9) rfl dX6_step_133 ?_
          refine lv_iload_n hx hb dX6_step_136 rfl (lv_at hl 1 rfl) ?_
          refine va_iald (f := w12.1 10) hx hb hK hP 11 0 rfl rfl hi1 dX6_step_137 ?_
          refine lv_iadd hx hb dX6_step_138 ?_
          refine lv_iload_n hx hb dX6_step_139 rfl (lv_at hl 3 rfl) ?_
          obtain ⟨hi13, h⟩ := h
          refine va_iast (f := w12.1 12) hx hb hK hP hD hS 13 0 rfl rfl hi13 dX6_step_140 (fun H locs hP hD hS => ?_)
          rw [z_setM12] at hP hD
          obtain ⟨w14, ew14⟩ : ∃ z, z = (va_up w12.1 12 (upd (w12.1 12) (((8 * p1) + (w12.1 10 p1.toNatClampNeg)).toNatClampNeg) (p3)), w12.2.1, w12.2.2) := ⟨_, rfl⟩
          rw [← ew14] at hP hD
          replace h := h w14 ew14
          refine lv_aload_n hx hb dX6_step_141 rfl (lv_at hl 0 rfl) ?_
          refine va_get (D := D) (ci := 6) (v := .ref (q 11)) (C := RX6) (T := TX6) (N := 34) hx hb hts inX6_step_6 hown hK hP 0 rfl rfl 13 (by decide) (hts (.fieldLink RX6 40 "CornLawsModel" "stepMany" "[I") wdX6_step_0) (fun _ h9 => h9) rfl dX6_step_142 ?_
          refine lv_iload_n hx hb dX6_step_145 rfl (lv_at hl 1 rfl) ?_
          refine lv_dup2_11 hx hb dX6_step_146 rfl rfl ?_
          refine va_iald (f := w14.1 10) hx hb hK hP 11 0 rfl rfl hi1 dX6_step_147 ?_
          refine lv_iconst (v := 1) hx hb dX6_step_148 (by decide) ?_
          refine lv_iadd hx hb dX6_step_149 ?_
          refine va_iast (f := w14.1 10) hx hb hK hP hD hS 11 0 rfl rfl hi1 dX6_step_150 (fun H locs hP hD hS => ?_)
          rw [z_setM10] at hP hD
          obtain ⟨w15, ew15⟩ : ∃ z, z = (va_up w14.1 10 (upd (w14.1 10) (p1.toNatClampNeg) (((w14.1 10 p1.toNatClampNeg) + 1))), w14.2.1, w14.2.2) := ⟨_, rfl⟩
          rw [← ew15] at hP hD
          replace h := h w15 ew15
          refine lv_aload_n hx hb dX6_step_151 rfl (lv_at hl 0 rfl) ?_
          refine va_get (D := D) (ci := 6) (v := .ref (q 11)) (C := RX6) (T := TX6) (N := 34) hx hb hts inX6_step_6 hown hK hP 0 rfl rfl 13 (by decide) (hts (.fieldLink RX6 40 "CornLawsModel" "stepMany" "[I") wdX6_step_0) (fun _ h9 => h9) rfl dX6_step_152 ?_
          refine lv_iload_n hx hb dX6_step_155 rfl (lv_at hl 1 rfl) ?_
          refine va_iald (f := w15.1 10) hx hb hK hP 11 0 rfl rfl hi1 dX6_step_156 ?_
          exact W.iret (v := (w15.1 10 p1.toNatClampNeg)) hx hb hr (fun t ht hW => ⟨⟨(w15.1 10 p1.toNatClampNeg), w15, rfl, h, by show va_P D vwCl _ t.heap; rw [ht]; exact hP⟩, hS.F ht⟩) hS.2.2 dX6_step_157
        · replace h := h.2 c10
          refine lv_bipush (v := (-4)) hx hb dX6_step_104 (by decide) ?_
          exact W.iret (v := (-4)) hx hb hr (fun t ht hW => ⟨⟨(-4), w, rfl, h, by show va_P D vwCl _ t.heap; rw [ht]; exact hP⟩, hS.F ht⟩) hS.2.2 dX6_step_106
      · replace h := h.2 c9
        refine lv_bipush (v := (-3)) hx hb dX6_step_90 (by decide) ?_
        exact W.iret (v := (-3)) hx hb hr (fun t ht hW => ⟨⟨(-3), w, rfl, h, by show va_P D vwCl _ t.heap; rw [ht]; exact hP⟩, hS.F ht⟩) hS.2.2 dX6_step_92
  refine lv_aload_n hx hb dX6_step_0 rfl (lv_at hl 0 rfl) ?_
  refine lv_iload_n hx hb dX6_step_1 rfl (lv_at hl 1 rfl) ?_
  refine vp_callSi (W.runV (C := RX6) (As := [.int p1]) (rest := []) ⟨hx, hb, hml, hown, hts⟩ (cX6_isScale_ok l D cI cII q w p1 _ h) (cwV 1 hts gX6_step_X6_isScale rfl rfl rfl (by decide +kernel) ⟨Nat.le_of_ble_eq_true rfl, Nat.le_of_ble_eq_true rfl⟩) (z_preV hK hP rfl rfl) rfl rfl hl.1 rfl (lv_room (Nat.le_of_ble_eq_true rfl)) dX6_step_2 ⟨Nat.le_of_ble_eq_true rfl, Nat.le_of_ble_eq_true rfl⟩) (fun r16 h => ?_)
  refine lv_if_eq (tgt := 61) hx hb dX6_step_5 (by decide) (fun c17 => ?_) (fun c17 => ?_)
  · replace h := h.1 c17
    refine lv_bipush (v := (-2)) hx hb dX6_step_61 (by decide) ?_
    exact W.iret (v := (-2)) hx hb hr (fun t ht hW => ⟨⟨(-2), w, rfl, h, by show va_P D vwCl _ t.heap; rw [ht]; exact hP⟩, hS.F ht⟩) hS.2.2 dX6_step_63
  · replace h := h.2 c17
    refine lv_iload_n hx hb dX6_step_8 rfl (lv_at hl 2 rfl) ?_
    refine lv_iconst (v := 0) hx hb dX6_step_9 (by decide) ?_
    refine lv_sipush (v := 2000) hx hb dX6_step_10 (by decide) ?_
    refine vp_callSi (W.runS (As := [.int p2, .int 0, .int 2000]) (rest := []) ⟨hx, hb, hml, hown, hts⟩ (cX6_in_ok l p2 0 2000 _ h) (va_cwS 3 hts gX6_step_X6_in rfl rfl rfl (by decide +kernel) ⟨Nat.le_of_ble_eq_true rfl, Nat.le_of_ble_eq_true rfl⟩) z_preS rfl rfl hl.1 rfl (lv_room (Nat.le_of_ble_eq_true rfl)) dX6_step_13 ⟨Nat.le_of_ble_eq_true rfl, Nat.le_of_ble_eq_true rfl⟩) (fun r18 h => ?_)
    refine lv_if_eq (tgt := 61) hx hb dX6_step_16 (by decide) (fun c19 => ?_) (fun c19 => ?_)
    · replace h := h.1 c19
      refine lv_bipush (v := (-2)) hx hb dX6_step_61 (by decide) ?_
      exact W.iret (v := (-2)) hx hb hr (fun t ht hW => ⟨⟨(-2), w, rfl, h, by show va_P D vwCl _ t.heap; rw [ht]; exact hP⟩, hS.F ht⟩) hS.2.2 dX6_step_63
    · replace h := h.2 c19
      refine lv_iload_n hx hb dX6_step_19 rfl (lv_at hl 3 rfl) ?_
      refine lv_iconst (v := 0) hx hb dX6_step_20 (by decide) ?_
      refine lv_sipush (v := 2000) hx hb dX6_step_21 (by decide) ?_
      refine vp_callSi (W.runS (As := [.int p3, .int 0, .int 2000]) (rest := []) ⟨hx, hb, hml, hown, hts⟩ (cX6_in_ok l p3 0 2000 _ h) (va_cwS 3 hts gX6_step_X6_in rfl rfl rfl (by decide +kernel) ⟨Nat.le_of_ble_eq_true rfl, Nat.le_of_ble_eq_true rfl⟩) z_preS rfl rfl hl.1 rfl (lv_room (Nat.le_of_ble_eq_true rfl)) dX6_step_24 ⟨Nat.le_of_ble_eq_true rfl, Nat.le_of_ble_eq_true rfl⟩) (fun r20 h => ?_)
      refine lv_if_eq (tgt := 61) hx hb dX6_step_27 (by decide) (fun c21 => ?_) (fun c21 => ?_)
      · replace h := h.1 c21
        refine lv_bipush (v := (-2)) hx hb dX6_step_61 (by decide) ?_
        exact W.iret (v := (-2)) hx hb hr (fun t ht hW => ⟨⟨(-2), w, rfl, h, by show va_P D vwCl _ t.heap; rw [ht]; exact hP⟩, hS.F ht⟩) hS.2.2 dX6_step_63
      · replace h := h.2 c21
        refine lv_aload_n hx hb dX6_step_30 rfl (lv_at hl 0 rfl) ?_
        refine va_get (D := D) (ci := 6) (v := .ref (q 11)) (C := RX6) (T := TX6) (N := 34) hx hb hts inX6_step_6 hown hK hP 0 rfl rfl 13 (by decide) (hts (.fieldLink RX6 40 "CornLawsModel" "stepMany" "[I") wdX6_step_0) (fun _ h9 => h9) rfl dX6_step_31 ?_
        refine lv_iload_n hx hb dX6_step_34 rfl (lv_at hl 1 rfl) ?_
        obtain ⟨hi22, h⟩ := h
        refine va_iald (f := w.1 10) hx hb hK hP 11 0 rfl rfl hi22 dX6_step_35 ?_
        refine lv_if_le (tgt := 64) hx hb dX6_step_36 (by decide) (fun c23 => ?_) (fun c23 => ?_)
        · replace h := h.1 c23
          exact hJ  h ls (lv_sub hl [0, 1, 2, 3] rfl)
        · replace h := h.2 c23
          refine lv_iload_n hx hb dX6_step_39 rfl (lv_at hl 2 rfl) ?_
          refine lv_aload_n hx hb dX6_step_40 rfl (lv_at hl 0 rfl) ?_
          refine va_get (D := D) (ci := 6) (v := .ref (q 12)) (C := RX6) (T := TX6) (N := 34) hx hb hts inX6_step_6 hown hK hP 0 rfl rfl 14 (by decide) (hts (.fieldLink RX6 43 "CornLawsModel" "stepPrice" "[I") wdX6_step_3) (fun _ h9 => h9) rfl dX6_step_41 ?_
          refine lv_bipush (v := 8) hx hb dX6_step_44 (by decide) ?_
          refine lv_iload_n hx hb dX6_step_46 rfl (lv_at hl 1 rfl) ?_
          refine lv_imul hx hb dX6_step_47 ?_
          refine lv_aload_n hx hb dX6_step_48 rfl (lv_at hl 0 rfl) ?_
          refine va_get (D := D) (ci := 6) (v := .ref (q 11)) (C := RX6) (T := TX6) (N := 34) hx hb hts inX6_step_6 hown hK hP 0 rfl rfl 13 (by decide) (hts (.fieldLink RX6 40 "CornLawsModel" "stepMany" "[I") wdX6_step_0) (fun _ h9 => h9) rfl dX6_step_49 ?_
          refine lv_iload_n hx hb dX6_step_52 rfl (lv_at hl 1 rfl) ?_
          refine va_iald (f := w.1 10) hx hb hK hP 11 0 rfl rfl hi22 dX6_step_53 ?_
          refine lv_iadd hx hb dX6_step_54 ?_
          refine lv_iconst (v := 1) hx hb dX6_step_55 (by decide) ?_
          refine lv_isub hx hb dX6_step_56 ?_
          obtain ⟨hi24, h⟩ := h
          refine va_iald (f := w.1 11) hx hb hK hP 12 0 rfl rfl hi24 dX6_step_57 ?_
          refine lv_icmp_gt (tgt := 64) hx hb dX6_step_58 (by decide) (fun c25 => ?_) (fun c25 => ?_)
          · replace h := h.1 c25
            exact hJ  h ls (lv_sub hl [0, 1, 2, 3] rfl)
          · replace h := h.2 c25
            refine lv_bipush (v := (-2)) hx hb dX6_step_61 (by decide) ?_
            exact W.iret (v := (-2)) hx hb hr (fun t ht hW => ⟨⟨(-2), w, rfl, h, by show va_P D vwCl _ t.heap; rw [ht]; exact hP⟩, hS.F ht⟩) hS.2.2 dX6_step_63

/-! X6_hang -/
set_option maxRecDepth 20000 in
theorem wdX6_hang_0 : Cond.fieldLink RX6 49 "CornLawsModel" "hangsOn" "[I" ∈ wsX6_hang := by decide +kernel
set_option maxRecDepth 20000 in
theorem wdX6_hang_1 : Cond.fieldLink RX6 52 "CornLawsModel" "hangUp" "[I" ∈ wsX6_hang := by decide +kernel
set_option maxRecDepth 20000 in
theorem wdX6_hang_2 : Cond.fieldLink RX6 55 "CornLawsModel" "hangLow" "[I" ∈ wsX6_hang := by decide +kernel
set_option maxRecDepth 20000 in
theorem inX6_hang_6 : ∀ w ∈ wsX60, w ∈ wsX6_hang := by decide +kernel
set_option maxHeartbeats 4000000 in
set_option maxRecDepth 100000 in
theorem cX6_hang_ok (l : Launch) (D : va_G) (cI cII : ClassId) (q : Nat → Nat) (w : MS) (p1 : Int32) (p2 : Int32) (p3 : Int32) (p4 : Int32) (post : Int32 → MS → Prop) (h : wpX6_hang w p1 p2 p3 p4 post) : Met l yX6_hang wsX6_hang ({ frames := 2, cells := 0, slots := 0, locals := 42 } : Room) (zPm [.ref (q 0), .int p1, .int p2, .int p3, .int p4] D cI cII (wM cI q w)) (va_Qi post (fun (z : MS) (t : State) => va_P D vwCl (wM cI q z) t.heap) (z_in (wM cI q w))) 0 0 (z_in (wM cI q w)) := by
  refine Met.ofW (cc := cX6_hang) (maxL := 7) (ret := (some .int)) (by decide) rfl ?_
  intro p e s m args below meth c s₁ B hml hv
  obtain ⟨rfl, hP, hK, hD0⟩ := hv
  have hx := B.exec
  have hb := B.bytes
  have hr := B.returns
  have hts := atoms_spec (ws := wsX6_hang) B.pre
  have hown : s.vm.findClass RX6 = some m.cls := findClass_of_methodNamed B.named
  have hlocks := B.notSynchronized
  have hD := z_Dself hD0
  generalize hAe : z_in (wM cI q w) = A at hD ⊢
  have hS : va_S A s.heap s.heap [] := va_S.rf
  have hl := lv_entry ([.ref (q 0), .int p1, .int p2, .int p3, .int p4]) (n := 7) (Nat.le_of_ble_eq_true rfl)
  rw [lg_entry_eq]
  generalize (lg_sl ([.ref (q 0), .int p1, .int p2, .int p3, .int p4]) ++ List.replicate (7 - (lg_sl ([.ref (q 0), .int p1, .int p2, .int p3, .int p4])).length) Slot.unset).toArray = ls at hl ⊢
  have hl : lv_has ls 7 [(0, .ref (q 0)), (1, .int p1), (2, .int p2), (3, .int p3), (4, .int p4)] := hl
  unfold wpX6_hang at h
  refine lv_iload_n hx hb dX6_hang_0 rfl (lv_at hl 1 rfl) ?_
  refine vp_callSi (W.runS (As := [.int p1]) (rest := []) ⟨hx, hb, hml, hown, hts⟩ (cX6_isGrain_ok l p1 _ h) (va_cwS 1 hts gX6_hang_X6_isGrain rfl rfl rfl (by decide +kernel) ⟨Nat.le_of_ble_eq_true rfl, Nat.le_of_ble_eq_true rfl⟩) z_preS rfl rfl hl.1 rfl (lv_room (Nat.le_of_ble_eq_true rfl)) dX6_hang_1 ⟨Nat.le_of_ble_eq_true rfl, Nat.le_of_ble_eq_true rfl⟩) (fun r1 h => ?_)
  refine lv_if_eq (tgt := 40) hx hb dX6_hang_4 (by decide) (fun c2 => ?_) (fun c2 => ?_)
  · replace h := h.1 c2
    refine lv_bipush (v := (-2)) hx hb dX6_hang_40 (by decide) ?_
    exact W.iret (v := (-2)) hx hb hr (fun t ht hW => ⟨⟨(-2), w, rfl, h, by show va_P D vwCl _ t.heap; rw [ht]; exact hP⟩, hS.F ht⟩) hS.2.2 dX6_hang_42
  · replace h := h.2 c2
    refine lv_iload_n hx hb dX6_hang_7 rfl (lv_at hl 2 rfl) ?_
    refine vp_callSi (W.runS (As := [.int p2]) (rest := []) ⟨hx, hb, hml, hown, hts⟩ (cX6_isGrain_ok l p2 _ h) (va_cwS 1 hts gX6_hang_X6_isGrain rfl rfl rfl (by decide +kernel) ⟨Nat.le_of_ble_eq_true rfl, Nat.le_of_ble_eq_true rfl⟩) z_preS rfl rfl hl.1 rfl (lv_room (Nat.le_of_ble_eq_true rfl)) dX6_hang_8 ⟨Nat.le_of_ble_eq_true rfl, Nat.le_of_ble_eq_true rfl⟩) (fun r3 h => ?_)
    refine lv_if_eq (tgt := 40) hx hb dX6_hang_11 (by decide) (fun c4 => ?_) (fun c4 => ?_)
    · replace h := h.1 c4
      refine lv_bipush (v := (-2)) hx hb dX6_hang_40 (by decide) ?_
      exact W.iret (v := (-2)) hx hb hr (fun t ht hW => ⟨⟨(-2), w, rfl, h, by show va_P D vwCl _ t.heap; rw [ht]; exact hP⟩, hS.F ht⟩) hS.2.2 dX6_hang_42
    · replace h := h.2 c4
      refine lv_iload_n hx hb dX6_hang_14 rfl (lv_at hl 1 rfl) ?_
      refine lv_iload_n hx hb dX6_hang_15 rfl (lv_at hl 2 rfl) ?_
      refine lv_icmp_eq (tgt := 40) hx hb dX6_hang_16 (by decide) (fun c5 => ?_) (fun c5 => ?_)
      · replace h := h.1 c5
        refine lv_bipush (v := (-2)) hx hb dX6_hang_40 (by decide) ?_
        exact W.iret (v := (-2)) hx hb hr (fun t ht hW => ⟨⟨(-2), w, rfl, h, by show va_P D vwCl _ t.heap; rw [ht]; exact hP⟩, hS.F ht⟩) hS.2.2 dX6_hang_42
      · replace h := h.2 c5
        refine lv_iload_n hx hb dX6_hang_19 rfl (lv_at hl 3 rfl) ?_
        refine lv_iconst (v := 1) hx hb dX6_hang_20 (by decide) ?_
        refine lv_bipush (v := 100) hx hb dX6_hang_21 (by decide) ?_
        refine vp_callSi (W.runS (As := [.int p3, .int 1, .int 100]) (rest := []) ⟨hx, hb, hml, hown, hts⟩ (cX6_in_ok l p3 1 100 _ h) (va_cwS 3 hts gX6_hang_X6_in rfl rfl rfl (by decide +kernel) ⟨Nat.le_of_ble_eq_true rfl, Nat.le_of_ble_eq_true rfl⟩) z_preS rfl rfl hl.1 rfl (lv_room (Nat.le_of_ble_eq_true rfl)) dX6_hang_23 ⟨Nat.le_of_ble_eq_true rfl, Nat.le_of_ble_eq_true rfl⟩) (fun r6 h => ?_)
        refine lv_if_eq (tgt := 40) hx hb dX6_hang_26 (by decide) (fun c7 => ?_) (fun c7 => ?_)
        · replace h := h.1 c7
          refine lv_bipush (v := (-2)) hx hb dX6_hang_40 (by decide) ?_
          exact W.iret (v := (-2)) hx hb hr (fun t ht hW => ⟨⟨(-2), w, rfl, h, by show va_P D vwCl _ t.heap; rw [ht]; exact hP⟩, hS.F ht⟩) hS.2.2 dX6_hang_42
        · replace h := h.2 c7
          refine lv_iload hx hb dX6_hang_29 (lv_at hl 4 rfl) ?_
          refine lv_iconst (v := 1) hx hb dX6_hang_31 (by decide) ?_
          refine lv_bipush (v := 100) hx hb dX6_hang_32 (by decide) ?_
          refine vp_callSi (W.runS (As := [.int p4, .int 1, .int 100]) (rest := []) ⟨hx, hb, hml, hown, hts⟩ (cX6_in_ok l p4 1 100 _ h) (va_cwS 3 hts gX6_hang_X6_in rfl rfl rfl (by decide +kernel) ⟨Nat.le_of_ble_eq_true rfl, Nat.le_of_ble_eq_true rfl⟩) z_preS rfl rfl hl.1 rfl (lv_room (Nat.le_of_ble_eq_true rfl)) dX6_hang_34 ⟨Nat.le_of_ble_eq_true rfl, Nat.le_of_ble_eq_true rfl⟩) (fun r8 h => ?_)
          refine lv_if_ne (tgt := 43) hx hb dX6_hang_37 (by decide) (fun c9 => ?_) (fun c9 => ?_)
          · replace h := h.1 c9
            refine lv_aload_n hx hb dX6_hang_43 rfl (lv_at hl 0 rfl) ?_
            refine va_get (D := D) (ci := 6) (v := .ref (q 14)) (C := RX6) (T := TX6) (N := 34) hx hb hts inX6_hang_6 hown hK hP 0 rfl rfl 16 (by decide) (hts (.fieldLink RX6 49 "CornLawsModel" "hangsOn" "[I") wdX6_hang_0) (fun _ h9 => h9) rfl dX6_hang_44 ?_
            refine lv_iload_n hx hb dX6_hang_47 rfl (lv_at hl 2 rfl) ?_
            obtain ⟨hi10, h⟩ := h
            refine va_iald (f := w.1 13) hx hb hK hP 14 0 rfl rfl hi10 dX6_hang_48 ?_
            refine lv_iconst (v := (-1)) hx hb dX6_hang_49 (by decide) ?_
            refine lv_icmp_eq (tgt := 57) hx hb dX6_hang_50 (by decide) (fun c11 => ?_) (fun c11 => ?_)
            · replace h := h.1 c11
              refine lv_iconst (v := 0) hx hb dX6_hang_57 (by decide) ?_
              refine lv_istore (lv' := [(5, .int 0), (0, .ref (q 0)), (1, .int p1), (2, .int p2), (3, .int p3), (4, .int p4)]) hx hb dX6_hang_58 hl (by decide) rfl (fun ls hl => ?_)
              refine lv_iconst (v := 0) hx hb dX6_hang_60 (by decide) ?_
              refine lv_istore (lv' := [(6, .int 0), (5, .int 0), (0, .ref (q 0)), (1, .int p1), (2, .int p2), (3, .int p3), (4, .int p4)]) hx hb dX6_hang_61 hl (by decide) rfl (fun ls hl => ?_)
              have hL63 : ∀ (K63 : Int32 → Int32 → Prop) (hX : ∀ (x6_63 : Int32) (x5_63 : Int32), K63 x6_63 x5_63 → ∀ ls : Array Slot, lv_has ls 7 [(6, .int x6_63), (5, .int x5_63), (0, .ref (q 0)), (1, .int p1), (2, .int p2), (3, .int p3), (4, .int p4)] → W p l e (headSpec wsX6_hang ({ frames := 2, cells := 0, slots := 0, locals := 42 } : Room)).room s m ([.ref (q 0), .int p1, .int p2, .int p3, .int p4] : List Value).toArray below meth c s.heap [] 0 0 (MQ below (va_Qi post (fun (z : MS) (t : State) => va_P D vwCl (wM cI q z) t.heap) A) ([.ref (q 0), .int p1, .int p2, .int p3, .int p4] : List Value).toArray s 0 0 A) (F0 m 98 ls [])) (n : Nat) (x6_63 : Int32) (x5_63 : Int32), wpX6_hang_L63 w p1 K63 n x6_63 x5_63 → ∀ ls : Array Slot, lv_has ls 7 [(6, .int x6_63), (5, .int x5_63), (0, .ref (q 0)), (1, .int p1), (2, .int p2), (3, .int p3), (4, .int p4)] → W p l e (headSpec wsX6_hang ({ frames := 2, cells := 0, slots := 0, locals := 42 } : Room)).room s m ([.ref (q 0), .int p1, .int p2, .int p3, .int p4] : List Value).toArray below meth c s.heap [] 0 0 (MQ below (va_Qi post (fun (z : MS) (t : State) => va_P D vwCl (wM cI q z) t.heap) A) ([.ref (q 0), .int p1, .int p2, .int p3, .int p4] : List Value).toArray s 0 0 A) (F0 m 63 ls []) := by
                intro K63 hX n
                induction n with
                | zero => intro x6_63 x5_63 h; exact False.elim h
                | succ n ih =>
                  intro x6_63 x5_63 h ls hl
                  rw [wpX6_hang_L63] at h
                  refine lv_iload hx hb dX6_hang_63 (lv_at hl 0 rfl) ?_
                  refine lv_iconst (v := 3) hx hb dX6_hang_65 (by decide) ?_
                  refine lv_icmp_ge (tgt := 98) hx hb dX6_hang_66 (by decide) (fun c12 => ?_) (fun c12 => ?_)
                  · replace h := h.1 c12
                    exact hX x6_63 x5_63 h ls (lv_sub hl [0, 1, 2, 3, 4, 5, 6] rfl)
                  · replace h := h.2 c12
                    refine lv_iload hx hb dX6_hang_69 (lv_at hl 1 rfl) ?_
                    refine lv_if_ne (tgt := 85) hx hb dX6_hang_71 (by decide) (fun c13 => ?_) (fun c13 => ?_)
                    · replace h := h.1 c13
                      refine lv_iconst (v := 1) hx hb dX6_hang_85 (by decide) ?_
                      refine lv_goto (tgt := 90) hx hb dX6_hang_86 (by decide) ?_
                      refine lv_istore (lv' := [(5, .int 1), (6, .int x6_63), (0, .ref (q 0)), (1, .int p1), (2, .int p2), (3, .int p3), (4, .int p4)]) hx hb dX6_hang_90 hl (by decide) rfl (fun ls hl => ?_)
                      refine lv_iinc (v := (x6_63 + 1)) (lv' := [(6, .int (x6_63 + 1)), (5, .int 1), (0, .ref (q 0)), (1, .int p1), (2, .int p2), (3, .int p3), (4, .int p4)]) hx hb dX6_hang_92 hl (k := 1) rfl rfl (by decide) rfl (fun ls hl => ?_)
                      refine lv_goto (tgt := 63) hx hb dX6_hang_95 (by decide) ?_
                      exact ih (x6_63 + 1) 1 h ls (lv_sub hl [0, 1, 2, 3, 4, 5, 6] rfl)
                    · replace h := h.2 c13
                      refine lv_aload_n hx hb dX6_hang_74 rfl (lv_at hl 2 rfl) ?_
                      refine va_get (D := D) (ci := 6) (v := .ref (q 14)) (C := RX6) (T := TX6) (N := 34) hx hb hts inX6_hang_6 hown hK hP 0 rfl rfl 16 (by decide) (hts (.fieldLink RX6 49 "CornLawsModel" "hangsOn" "[I") wdX6_hang_0) (fun _ h9 => h9) rfl dX6_hang_75 ?_
                      refine lv_iload hx hb dX6_hang_78 (lv_at hl 0 rfl) ?_
                      obtain ⟨hi14, h⟩ := h
                      refine va_iald (f := w.1 13) hx hb hK hP 14 0 rfl rfl hi14 dX6_hang_80 ?_
                      refine lv_iload_n hx hb dX6_hang_81 rfl (lv_at hl 3 rfl) ?_
                      refine lv_icmp_ne (tgt := 89) hx hb dX6_hang_82 (by decide) (fun c15 => ?_) (fun c15 => ?_)
                      · replace h := h.1 c15
                        refine lv_iconst (v := 0) hx hb dX6_hang_89 (by decide) ?_
                        refine lv_istore (lv' := [(5, .int 0), (6, .int x6_63), (0, .ref (q 0)), (1, .int p1), (2, .int p2), (3, .int p3), (4, .int p4)]) hx hb dX6_hang_90 hl (by decide) rfl (fun ls hl => ?_)
                        refine lv_iinc (v := (x6_63 + 1)) (lv' := [(6, .int (x6_63 + 1)), (5, .int 0), (0, .ref (q 0)), (1, .int p1), (2, .int p2), (3, .int p3), (4, .int p4)]) hx hb dX6_hang_92 hl (k := 1) rfl rfl (by decide) rfl (fun ls hl => ?_)
                        refine lv_goto (tgt := 63) hx hb dX6_hang_95 (by decide) ?_
                        exact ih (x6_63 + 1) 0 h ls (lv_sub hl [0, 1, 2, 3, 4, 5, 6] rfl)
                      · replace h := h.2 c15
                        refine lv_iconst (v := 1) hx hb dX6_hang_85 (by decide) ?_
                        refine lv_goto (tgt := 90) hx hb dX6_hang_86 (by decide) ?_
                        refine lv_istore (lv' := [(5, .int 1), (6, .int x6_63), (0, .ref (q 0)), (1, .int p1), (2, .int p2), (3, .int p3), (4, .int p4)]) hx hb dX6_hang_90 hl (by decide) rfl (fun ls hl => ?_)
                        refine lv_iinc (v := (x6_63 + 1)) (lv' := [(6, .int (x6_63 + 1)), (5, .int 1), (0, .ref (q 0)), (1, .int p1), (2, .int p2), (3, .int p3), (4, .int p4)]) hx hb dX6_hang_92 hl (k := 1) rfl rfl (by decide) rfl (fun ls hl => ?_)
                        refine lv_goto (tgt := 63) hx hb dX6_hang_95 (by decide) ?_
                        exact ih (x6_63 + 1) 1 h ls (lv_sub hl [0, 1, 2, 3, 4, 5, 6] rfl)
              obtain ⟨n, h⟩ := h
              refine hL63 _ (fun x6_63 x5_63 h ls hl => ?_) n 0 0 h ls hl
              refine lv_iload hx hb dX6_hang_98 (lv_at hl 1 rfl) ?_
              refine lv_if_eq (tgt := 106) hx hb dX6_hang_100 (by decide) (fun c16 => ?_) (fun c16 => ?_)
              · replace h := h.1 c16
                refine lv_aload_n hx hb dX6_hang_106 rfl (lv_at hl 2 rfl) ?_
                refine va_get (D := D) (ci := 6) (v := .ref (q 14)) (C := RX6) (T := TX6) (N := 34) hx hb hts inX6_hang_6 hown hK hP 0 rfl rfl 16 (by decide) (hts (.fieldLink RX6 49 "CornLawsModel" "hangsOn" "[I") wdX6_hang_0) (fun _ h9 => h9) rfl dX6_hang_107 ?_
                refine lv_iload_n hx hb dX6_hang_110 rfl (lv_at hl 3 rfl) ?_
                refine lv_iload_n hx hb dX6_hang_111 rfl (lv_at hl 4 rfl) ?_
                obtain ⟨hi17, h⟩ := h
                refine va_iast (f := w.1 13) hx hb hK hP hD hS 14 0 rfl rfl hi17 dX6_hang_112 (fun H locs hP hD hS => ?_)
                have hP : va_P D vwCl (wM cI q ((va_up w.1 13 (upd (w.1 13) (p1.toNatClampNeg) (p2))), w.2.1, w.2.2)) H := hP
                have hD : va_D A (wM cI q ((va_up w.1 13 (upd (w.1 13) (p1.toNatClampNeg) (p2))), w.2.1, w.2.2)) := hD
                refine lv_aload_n hx hb dX6_hang_113 rfl (lv_at hl 2 rfl) ?_
                refine va_get (D := D) (ci := 6) (v := .ref (q 15)) (C := RX6) (T := TX6) (N := 34) hx hb hts inX6_hang_6 hown hK hP 0 rfl rfl 17 (by decide) (hts (.fieldLink RX6 52 "CornLawsModel" "hangUp" "[I") wdX6_hang_1) (fun _ h9 => h9) rfl dX6_hang_114 ?_
                refine lv_iload_n hx hb dX6_hang_117 rfl (lv_at hl 3 rfl) ?_
                refine lv_iload_n hx hb dX6_hang_118 rfl (lv_at hl 5 rfl) ?_
                refine va_iast (f := w.1 14) hx hb hK hP hD hS 15 0 rfl rfl hi17 dX6_hang_119 (fun H locs hP hD hS => ?_)
                have hP : va_P D vwCl (wM cI q ((va_up (va_up w.1 13 (upd (w.1 13) (p1.toNatClampNeg) (p2))) 14 (upd (w.1 14) (p1.toNatClampNeg) (p3))), w.2.1, w.2.2)) H := hP
                have hD : va_D A (wM cI q ((va_up (va_up w.1 13 (upd (w.1 13) (p1.toNatClampNeg) (p2))) 14 (upd (w.1 14) (p1.toNatClampNeg) (p3))), w.2.1, w.2.2)) := hD
                refine lv_aload_n hx hb dX6_hang_120 rfl (lv_at hl 2 rfl) ?_
                refine va_get (D := D) (ci := 6) (v := .ref (q 16)) (C := RX6) (T := TX6) (N := 34) hx hb hts inX6_hang_6 hown hK hP 0 rfl rfl 18 (by decide) (hts (.fieldLink RX6 55 "CornLawsModel" "hangLow" "[I") wdX6_hang_2) (fun _ h9 => h9) rfl dX6_hang_121 ?_
                refine lv_iload_n hx hb dX6_hang_124 rfl (lv_at hl 3 rfl) ?_
                refine lv_iload hx hb dX6_hang_125 (lv_at hl 6 rfl) ?_
                refine va_iast (f := w.1 15) hx hb hK hP hD hS 16 0 rfl rfl hi17 dX6_hang_127 (fun H locs hP hD hS => ?_)
                have hP : va_P D vwCl (wM cI q ((va_up (va_up (va_up w.1 13 (upd (w.1 13) (p1.toNatClampNeg) (p2))) 14 (upd (w.1 14) (p1.toNatClampNeg) (p3))) 15 (upd (w.1 15) (p1.toNatClampNeg) (p4))), w.2.1, w.2.2)) H := hP
                have hD : va_D A (wM cI q ((va_up (va_up (va_up w.1 13 (upd (w.1 13) (p1.toNatClampNeg) (p2))) 14 (upd (w.1 14) (p1.toNatClampNeg) (p3))) 15 (upd (w.1 15) (p1.toNatClampNeg) (p4))), w.2.1, w.2.2)) := hD
                refine lv_iconst (v := 1) hx hb dX6_hang_128 (by decide) ?_
                exact W.iret (v := 1) hx hb hr (fun t ht hW => ⟨⟨1, ((va_up (va_up (va_up w.1 13 (upd (w.1 13) (p1.toNatClampNeg) (p2))) 14 (upd (w.1 14) (p1.toNatClampNeg) (p3))) 15 (upd (w.1 15) (p1.toNatClampNeg) (p4))), w.2.1, w.2.2), rfl, h, by show va_P D vwCl _ t.heap; rw [ht]; exact hP⟩, hS.F ht⟩) hS.2.2 dX6_hang_129
              · replace h := h.2 c16
                refine lv_bipush (v := (-3)) hx hb dX6_hang_103 (by decide) ?_
                exact W.iret (v := (-3)) hx hb hr (fun t ht hW => ⟨⟨(-3), w, rfl, h, by show va_P D vwCl _ t.heap; rw [ht]; exact hP⟩, hS.F ht⟩) hS.2.2 dX6_hang_105
            · replace h := h.2 c11
              refine lv_iconst (v := 1) hx hb dX6_hang_53 (by decide) ?_
              refine lv_goto (tgt := 58) hx hb dX6_hang_54 (by decide) ?_
              refine lv_istore (lv' := [(5, .int 1), (0, .ref (q 0)), (1, .int p1), (2, .int p2), (3, .int p3), (4, .int p4)]) hx hb dX6_hang_58 hl (by decide) rfl (fun ls hl => ?_)
              refine lv_iconst (v := 0) hx hb dX6_hang_60 (by decide) ?_
              refine lv_istore (lv' := [(6, .int 0), (5, .int 1), (0, .ref (q 0)), (1, .int p1), (2, .int p2), (3, .int p3), (4, .int p4)]) hx hb dX6_hang_61 hl (by decide) rfl (fun ls hl => ?_)
              have hL63 : ∀ (K63 : Int32 → Int32 → Prop) (hX : ∀ (x6_63 : Int32) (x5_63 : Int32), K63 x6_63 x5_63 → ∀ ls : Array Slot, lv_has ls 7 [(6, .int x6_63), (5, .int x5_63), (0, .ref (q 0)), (1, .int p1), (2, .int p2), (3, .int p3), (4, .int p4)] → W p l e (headSpec wsX6_hang ({ frames := 2, cells := 0, slots := 0, locals := 42 } : Room)).room s m ([.ref (q 0), .int p1, .int p2, .int p3, .int p4] : List Value).toArray below meth c s.heap [] 0 0 (MQ below (va_Qi post (fun (z : MS) (t : State) => va_P D vwCl (wM cI q z) t.heap) A) ([.ref (q 0), .int p1, .int p2, .int p3, .int p4] : List Value).toArray s 0 0 A) (F0 m 98 ls [])) (n : Nat) (x6_63 : Int32) (x5_63 : Int32), wpX6_hang_L63 w p1 K63 n x6_63 x5_63 → ∀ ls : Array Slot, lv_has ls 7 [(6, .int x6_63), (5, .int x5_63), (0, .ref (q 0)), (1, .int p1), (2, .int p2), (3, .int p3), (4, .int p4)] → W p l e (headSpec wsX6_hang ({ frames := 2, cells := 0, slots := 0, locals := 42 } : Room)).room s m ([.ref (q 0), .int p1, .int p2, .int p3, .int p4] : List Value).toArray below meth c s.heap [] 0 0 (MQ below (va_Qi post (fun (z : MS) (t : State) => va_P D vwCl (wM cI q z) t.heap) A) ([.ref (q 0), .int p1, .int p2, .int p3, .int p4] : List Value).toArray s 0 0 A) (F0 m 63 ls []) := by
                intro K63 hX n
                induction n with
                | zero => intro x6_63 x5_63 h; exact False.elim h
                | succ n ih =>
                  intro x6_63 x5_63 h ls hl
                  rw [wpX6_hang_L63] at h
                  refine lv_iload hx hb dX6_hang_63 (lv_at hl 0 rfl) ?_
                  refine lv_iconst (v := 3) hx hb dX6_hang_65 (by decide) ?_
                  refine lv_icmp_ge (tgt := 98) hx hb dX6_hang_66 (by decide) (fun c18 => ?_) (fun c18 => ?_)
                  · replace h := h.1 c18
                    exact hX x6_63 x5_63 h ls (lv_sub hl [0, 1, 2, 3, 4, 5, 6] rfl)
                  · replace h := h.2 c18
                    refine lv_iload hx hb dX6_hang_69 (lv_at hl 1 rfl) ?_
                    refine lv_if_ne (tgt := 85) hx hb dX6_hang_71 (by decide) (fun c19 => ?_) (fun c19 => ?_)
                    · replace h := h.1 c19
                      refine lv_iconst (v := 1) hx hb dX6_hang_85 (by decide) ?_
                      refine lv_goto (tgt := 90) hx hb dX6_hang_86 (by decide) ?_
                      refine lv_istore (lv' := [(5, .int 1), (6, .int x6_63), (0, .ref (q 0)), (1, .int p1), (2, .int p2), (3, .int p3), (4, .int p4)]) hx hb dX6_hang_90 hl (by decide) rfl (fun ls hl => ?_)
                      refine lv_iinc (v := (x6_63 + 1)) (lv' := [(6, .int (x6_63 + 1)), (5, .int 1), (0, .ref (q 0)), (1, .int p1), (2, .int p2), (3, .int p3), (4, .int p4)]) hx hb dX6_hang_92 hl (k := 1) rfl rfl (by decide) rfl (fun ls hl => ?_)
                      refine lv_goto (tgt := 63) hx hb dX6_hang_95 (by decide) ?_
                      exact ih (x6_63 + 1) 1 h ls (lv_sub hl [0, 1, 2, 3, 4, 5, 6] rfl)
                    · replace h := h.2 c19
                      refine lv_aload_n hx hb dX6_hang_74 rfl (lv_at hl 2 rfl) ?_
                      refine va_get (D := D) (ci := 6) (v := .ref (q 14)) (C := RX6) (T := TX6) (N := 34) hx hb hts inX6_hang_6 hown hK hP 0 rfl rfl 16 (by decide) (hts (.fieldLink RX6 49 "CornLawsModel" "hangsOn" "[I") wdX6_hang_0) (fun _ h9 => h9) rfl dX6_hang_75 ?_
                      refine lv_iload hx hb dX6_hang_78 (lv_at hl 0 rfl) ?_
                      obtain ⟨hi20, h⟩ := h
                      refine va_iald (f := w.1 13) hx hb hK hP 14 0 rfl rfl hi20 dX6_hang_80 ?_
                      refine lv_iload_n hx hb dX6_hang_81 rfl (lv_at hl 3 rfl) ?_
                      refine lv_icmp_ne (tgt := 89) hx hb dX6_hang_82 (by decide) (fun c21 => ?_) (fun c21 => ?_)
                      · replace h := h.1 c21
                        refine lv_iconst (v := 0) hx hb dX6_hang_89 (by decide) ?_
                        refine lv_istore (lv' := [(5, .int 0), (6, .int x6_63), (0, .ref (q 0)), (1, .int p1), (2, .int p2), (3, .int p3), (4, .int p4)]) hx hb dX6_hang_90 hl (by decide) rfl (fun ls hl => ?_)
                        refine lv_iinc (v := (x6_63 + 1)) (lv' := [(6, .int (x6_63 + 1)), (5, .int 0), (0, .ref (q 0)), (1, .int p1), (2, .int p2), (3, .int p3), (4, .int p4)]) hx hb dX6_hang_92 hl (k := 1) rfl rfl (by decide) rfl (fun ls hl => ?_)
                        refine lv_goto (tgt := 63) hx hb dX6_hang_95 (by decide) ?_
                        exact ih (x6_63 + 1) 0 h ls (lv_sub hl [0, 1, 2, 3, 4, 5, 6] rfl)
                      · replace h := h.2 c21
                        refine lv_iconst (v := 1) hx hb dX6_hang_85 (by decide) ?_
                        refine lv_goto (tgt := 90) hx hb dX6_hang_86 (by decide) ?_
                        refine lv_istore (lv' := [(5, .int 1), (6, .int x6_63), (0, .ref (q 0)), (1, .int p1), (2, .int p2), (3, .int p3), (4, .int p4)]) hx hb dX6_hang_90 hl (by decide) rfl (fun ls hl => ?_)
                        refine lv_iinc (v := (x6_63 + 1)) (lv' := [(6, .int (x6_63 + 1)), (5, .int 1), (0, .ref (q 0)), (1, .int p1), (2, .int p2), (3, .int p3), (4, .int p4)]) hx hb dX6_hang_92 hl (k := 1) rfl rfl (by decide) rfl (fun ls hl => ?_)
                        refine lv_goto (tgt := 63) hx hb dX6_hang_95 (by decide) ?_
                        exact ih (x6_63 + 1) 1 h ls (lv_sub hl [0, 1, 2, 3, 4, 5, 6] rfl)
              obtain ⟨n, h⟩ := h
              refine hL63 _ (fun x6_63 x5_63 h ls hl => ?_) n 0 1 h ls hl
              refine lv_iload hx hb dX6_hang_98 (lv_at hl 1 rfl) ?_
              refine lv_if_eq (tgt := 106) hx hb dX6_hang_100 (by decide) (fun c22 => ?_) (fun c22 => ?_)
              · replace h := h.1 c22
                refine lv_aload_n hx hb dX6_hang_106 rfl (lv_at hl 2 rfl) ?_
                refine va_get (D := D) (ci := 6) (v := .ref (q 14)) (C := RX6) (T := TX6) (N := 34) hx hb hts inX6_hang_6 hown hK hP 0 rfl rfl 16 (by decide) (hts (.fieldLink RX6 49 "CornLawsModel" "hangsOn" "[I") wdX6_hang_0) (fun _ h9 => h9) rfl dX6_hang_107 ?_
                refine lv_iload_n hx hb dX6_hang_110 rfl (lv_at hl 3 rfl) ?_
                refine lv_iload_n hx hb dX6_hang_111 rfl (lv_at hl 4 rfl) ?_
                obtain ⟨hi23, h⟩ := h
                refine va_iast (f := w.1 13) hx hb hK hP hD hS 14 0 rfl rfl hi23 dX6_hang_112 (fun H locs hP hD hS => ?_)
                have hP : va_P D vwCl (wM cI q ((va_up w.1 13 (upd (w.1 13) (p1.toNatClampNeg) (p2))), w.2.1, w.2.2)) H := hP
                have hD : va_D A (wM cI q ((va_up w.1 13 (upd (w.1 13) (p1.toNatClampNeg) (p2))), w.2.1, w.2.2)) := hD
                refine lv_aload_n hx hb dX6_hang_113 rfl (lv_at hl 2 rfl) ?_
                refine va_get (D := D) (ci := 6) (v := .ref (q 15)) (C := RX6) (T := TX6) (N := 34) hx hb hts inX6_hang_6 hown hK hP 0 rfl rfl 17 (by decide) (hts (.fieldLink RX6 52 "CornLawsModel" "hangUp" "[I") wdX6_hang_1) (fun _ h9 => h9) rfl dX6_hang_114 ?_
                refine lv_iload_n hx hb dX6_hang_117 rfl (lv_at hl 3 rfl) ?_
                refine lv_iload_n hx hb dX6_hang_118 rfl (lv_at hl 5 rfl) ?_
                refine va_iast (f := w.1 14) hx hb hK hP hD hS 15 0 rfl rfl hi23 dX6_hang_119 (fun H locs hP hD hS => ?_)
                have hP : va_P D vwCl (wM cI q ((va_up (va_up w.1 13 (upd (w.1 13) (p1.toNatClampNeg) (p2))) 14 (upd (w.1 14) (p1.toNatClampNeg) (p3))), w.2.1, w.2.2)) H := hP
                have hD : va_D A (wM cI q ((va_up (va_up w.1 13 (upd (w.1 13) (p1.toNatClampNeg) (p2))) 14 (upd (w.1 14) (p1.toNatClampNeg) (p3))), w.2.1, w.2.2)) := hD
                refine lv_aload_n hx hb dX6_hang_120 rfl (lv_at hl 2 rfl) ?_
                refine va_get (D := D) (ci := 6) (v := .ref (q 16)) (C := RX6) (T := TX6) (N := 34) hx hb hts inX6_hang_6 hown hK hP 0 rfl rfl 18 (by decide) (hts (.fieldLink RX6 55 "CornLawsModel" "hangLow" "[I") wdX6_hang_2) (fun _ h9 => h9) rfl dX6_hang_121 ?_
                refine lv_iload_n hx hb dX6_hang_124 rfl (lv_at hl 3 rfl) ?_
                refine lv_iload hx hb dX6_hang_125 (lv_at hl 6 rfl) ?_
                refine va_iast (f := w.1 15) hx hb hK hP hD hS 16 0 rfl rfl hi23 dX6_hang_127 (fun H locs hP hD hS => ?_)
                have hP : va_P D vwCl (wM cI q ((va_up (va_up (va_up w.1 13 (upd (w.1 13) (p1.toNatClampNeg) (p2))) 14 (upd (w.1 14) (p1.toNatClampNeg) (p3))) 15 (upd (w.1 15) (p1.toNatClampNeg) (p4))), w.2.1, w.2.2)) H := hP
                have hD : va_D A (wM cI q ((va_up (va_up (va_up w.1 13 (upd (w.1 13) (p1.toNatClampNeg) (p2))) 14 (upd (w.1 14) (p1.toNatClampNeg) (p3))) 15 (upd (w.1 15) (p1.toNatClampNeg) (p4))), w.2.1, w.2.2)) := hD
                refine lv_iconst (v := 1) hx hb dX6_hang_128 (by decide) ?_
                exact W.iret (v := 1) hx hb hr (fun t ht hW => ⟨⟨1, ((va_up (va_up (va_up w.1 13 (upd (w.1 13) (p1.toNatClampNeg) (p2))) 14 (upd (w.1 14) (p1.toNatClampNeg) (p3))) 15 (upd (w.1 15) (p1.toNatClampNeg) (p4))), w.2.1, w.2.2), rfl, h, by show va_P D vwCl _ t.heap; rw [ht]; exact hP⟩, hS.F ht⟩) hS.2.2 dX6_hang_129
              · replace h := h.2 c22
                refine lv_bipush (v := (-3)) hx hb dX6_hang_103 (by decide) ?_
                exact W.iret (v := (-3)) hx hb hr (fun t ht hW => ⟨⟨(-3), w, rfl, h, by show va_P D vwCl _ t.heap; rw [ht]; exact hP⟩, hS.F ht⟩) hS.2.2 dX6_hang_105
          · replace h := h.2 c9
            refine lv_bipush (v := (-2)) hx hb dX6_hang_40 (by decide) ?_
            exact W.iret (v := (-2)) hx hb hr (fun t ht hW => ⟨⟨(-2), w, rfl, h, by show va_P D vwCl _ t.heap; rw [ht]; exact hP⟩, hS.F ht⟩) hS.2.2 dX6_hang_42

/-! X6_unhang -/
set_option maxRecDepth 20000 in
theorem wdX6_unhang_0 : Cond.fieldLink RX6 49 "CornLawsModel" "hangsOn" "[I" ∈ wsX6_unhang := by decide +kernel
set_option maxRecDepth 20000 in
theorem inX6_unhang_6 : ∀ w ∈ wsX60, w ∈ wsX6_unhang := by decide +kernel
set_option maxHeartbeats 4000000 in
set_option maxRecDepth 100000 in
theorem cX6_unhang_ok (l : Launch) (D : va_G) (cI cII : ClassId) (q : Nat → Nat) (w : MS) (p1 : Int32) (post : Int32 → MS → Prop) (h : wpX6_unhang w p1 post) : Met l yX6_unhang wsX6_unhang ({ frames := 2, cells := 0, slots := 0, locals := 42 } : Room) (zPm [.ref (q 0), .int p1] D cI cII (wM cI q w)) (va_Qi post (fun (z : MS) (t : State) => va_P D vwCl (wM cI q z) t.heap) (z_in (wM cI q w))) 0 0 (z_in (wM cI q w)) := by
  refine Met.ofW (cc := cX6_unhang) (maxL := 2) (ret := (some .int)) (by decide) rfl ?_
  intro p e s m args below meth c s₁ B hml hv
  obtain ⟨rfl, hP, hK, hD0⟩ := hv
  have hx := B.exec
  have hb := B.bytes
  have hr := B.returns
  have hts := atoms_spec (ws := wsX6_unhang) B.pre
  have hown : s.vm.findClass RX6 = some m.cls := findClass_of_methodNamed B.named
  have hlocks := B.notSynchronized
  have hD := z_Dself hD0
  generalize hAe : z_in (wM cI q w) = A at hD ⊢
  have hS : va_S A s.heap s.heap [] := va_S.rf
  have hl := lv_entry ([.ref (q 0), .int p1]) (n := 2) (Nat.le_of_ble_eq_true rfl)
  rw [lg_entry_eq]
  generalize (lg_sl ([.ref (q 0), .int p1]) ++ List.replicate (2 - (lg_sl ([.ref (q 0), .int p1])).length) Slot.unset).toArray = ls at hl ⊢
  have hl : lv_has ls 2 [(0, .ref (q 0)), (1, .int p1)] := hl
  unfold wpX6_unhang at h
  refine lv_iload_n hx hb dX6_unhang_0 rfl (lv_at hl 1 rfl) ?_
  refine vp_callSi (W.runS (As := [.int p1]) (rest := []) ⟨hx, hb, hml, hown, hts⟩ (cX6_isGrain_ok l p1 _ h) (va_cwS 1 hts gX6_unhang_X6_isGrain rfl rfl rfl (by decide +kernel) ⟨Nat.le_of_ble_eq_true rfl, Nat.le_of_ble_eq_true rfl⟩) z_preS rfl rfl hl.1 rfl (lv_room (Nat.le_of_ble_eq_true rfl)) dX6_unhang_1 ⟨Nat.le_of_ble_eq_true rfl, Nat.le_of_ble_eq_true rfl⟩) (fun r1 h => ?_)
  refine lv_if_ne (tgt := 10) hx hb dX6_unhang_4 (by decide) (fun c2 => ?_) (fun c2 => ?_)
  · replace h := h.1 c2
    refine lv_aload_n hx hb dX6_unhang_10 rfl (lv_at hl 0 rfl) ?_
    refine va_get (D := D) (ci := 6) (v := .ref (q 14)) (C := RX6) (T := TX6) (N := 34) hx hb hts inX6_unhang_6 hown hK hP 0 rfl rfl 16 (by decide) (hts (.fieldLink RX6 49 "CornLawsModel" "hangsOn" "[I") wdX6_unhang_0) (fun _ h9 => h9) rfl dX6_unhang_11 ?_
    refine lv_iload_n hx hb dX6_unhang_14 rfl (lv_at hl 1 rfl) ?_
    obtain ⟨hi3, h⟩ := h
    refine va_iald (f := w.1 13) hx hb hK hP 14 0 rfl rfl hi3 dX6_unhang_15 ?_
    refine lv_iconst (v := (-1)) hx hb dX6_unhang_16 (by decide) ?_
    refine lv_icmp_ne (tgt := 23) hx hb dX6_unhang_17 (by decide) (fun c4 => ?_) (fun c4 => ?_)
    · replace h := h.1 c4
      refine lv_aload_n hx hb dX6_unhang_23 rfl (lv_at hl 0 rfl) ?_
      refine va_get (D := D) (ci := 6) (v := .ref (q 14)) (C := RX6) (T := TX6) (N := 34) hx hb hts inX6_unhang_6 hown hK hP 0 rfl rfl 16 (by decide) (hts (.fieldLink RX6 49 "CornLawsModel" "hangsOn" "[I") wdX6_unhang_0) (fun _ h9 => h9) rfl dX6_unhang_24 ?_
      refine lv_iload_n hx hb dX6_unhang_27 rfl (lv_at hl 1 rfl) ?_
      refine lv_iconst (v := (-1)) hx hb dX6_unhang_28 (by decide) ?_
      refine va_iast (f := w.1 13) hx hb hK hP hD hS 14 0 rfl rfl hi3 dX6_unhang_29 (fun H locs hP hD hS => ?_)
      have hP : va_P D vwCl (wM cI q ((va_up w.1 13 (upd (w.1 13) (p1.toNatClampNeg) ((-1)))), w.2.1, w.2.2)) H := hP
      have hD : va_D A (wM cI q ((va_up w.1 13 (upd (w.1 13) (p1.toNatClampNeg) ((-1)))), w.2.1, w.2.2)) := hD
      refine lv_iconst (v := 1) hx hb dX6_unhang_30 (by decide) ?_
      exact W.iret (v := 1) hx hb hr (fun t ht hW => ⟨⟨1, ((va_up w.1 13 (upd (w.1 13) (p1.toNatClampNeg) ((-1)))), w.2.1, w.2.2), rfl, h, by show va_P D vwCl _ t.heap; rw [ht]; exact hP⟩, hS.F ht⟩) hS.2.2 dX6_unhang_31
    · replace h := h.2 c4
      refine lv_bipush (v := (-3)) hx hb dX6_unhang_20 (by decide) ?_
      exact W.iret (v := (-3)) hx hb hr (fun t ht hW => ⟨⟨(-3), w, rfl, h, by show va_P D vwCl _ t.heap; rw [ht]; exact hP⟩, hS.F ht⟩) hS.2.2 dX6_unhang_22
  · replace h := h.2 c2
    refine lv_bipush (v := (-2)) hx hb dX6_unhang_7 (by decide) ?_
    exact W.iret (v := (-2)) hx hb hr (fun t ht hW => ⟨⟨(-2), w, rfl, h, by show va_P D vwCl _ t.heap; rw [ht]; exact hP⟩, hS.F ht⟩) hS.2.2 dX6_unhang_9

/-! X6_forceAt -/
set_option maxRecDepth 20000 in
theorem wdX6_forceAt_0 : Cond.fieldLink RX6 123 "CornLawsModel" "scales" "I" ∈ wsX6_forceAt := by decide +kernel
set_option maxRecDepth 20000 in
theorem wdX6_forceAt_1 : Cond.fieldLink RX6 31 "CornLawsModel" "scaleGrain" "[I" ∈ wsX6_forceAt := by decide +kernel
set_option maxRecDepth 20000 in
theorem wdX6_forceAt_2 : Cond.fieldLink RX6 40 "CornLawsModel" "stepMany" "[I" ∈ wsX6_forceAt := by decide +kernel
set_option maxRecDepth 20000 in
theorem wdX6_forceAt_3 : Cond.fieldLink RX6 34 "CornLawsModel" "scaleWeek" "[I" ∈ wsX6_forceAt := by decide +kernel
set_option maxRecDepth 20000 in
theorem inX6_forceAt_6 : ∀ w ∈ wsX60, w ∈ wsX6_forceAt := by decide +kernel
set_option maxHeartbeats 4000000 in
set_option maxRecDepth 100000 in
theorem cX6_forceAt_ok (l : Launch) (D : va_G) (cI cII : ClassId) (q : Nat → Nat) (w : MS) (p1 : Int32) (p2 : Int32) (post : Int32 → Prop) (h : wpX6_forceAt w p1 p2 post) : Met l yX6_forceAt wsX6_forceAt ({ frames := 0, cells := 0, slots := 0, locals := 0 } : Room) (zPc [.ref (q 0), .int p1, .int p2] D cI cII (wM cI q w)) (vp_Si post) 0 0 (fun _ => False) := by
  refine Met.ofW (cc := cX6_forceAt) (maxL := 5) (ret := (some .int)) (by decide) rfl ?_
  intro p e s m args below meth c s₁ B hml hv
  obtain ⟨rfl, hP, hK⟩ := hv
  have hx := B.exec
  have hb := B.bytes
  have hr := B.returns
  have hts := atoms_spec (ws := wsX6_forceAt) B.pre
  have hown : s.vm.findClass RX6 = some m.cls := findClass_of_methodNamed B.named
  have hlocks := B.notSynchronized
  have hl := lv_entry ([.ref (q 0), .int p1, .int p2]) (n := 5) (Nat.le_of_ble_eq_true rfl)
  rw [lg_entry_eq]
  generalize (lg_sl ([.ref (q 0), .int p1, .int p2]) ++ List.replicate (5 - (lg_sl ([.ref (q 0), .int p1, .int p2])).length) Slot.unset).toArray = ls at hl ⊢
  have hl : lv_has ls 5 [(0, .ref (q 0)), (1, .int p1), (2, .int p2)] := hl
  unfold wpX6_forceAt at h
  refine lv_iconst (v := (-1)) hx hb dX6_forceAt_0 (by decide) ?_
  refine lv_istore_n (lv' := [(3, .int (-1)), (0, .ref (q 0)), (1, .int p1), (2, .int p2)]) hx hb dX6_forceAt_1 rfl hl (by decide) rfl (fun ls hl => ?_)
  refine lv_iconst (v := 0) hx hb dX6_forceAt_2 (by decide) ?_
  refine lv_istore (lv' := [(4, .int 0), (3, .int (-1)), (0, .ref (q 0)), (1, .int p1), (2, .int p2)]) hx hb dX6_forceAt_3 hl (by decide) rfl (fun ls hl => ?_)
  have hL5 : ∀ (K5 : Int32 → Int32 → Prop) (hX : ∀ (x4_5 : Int32) (x3_5 : Int32), K5 x4_5 x3_5 → ∀ ls : Array Slot, lv_has ls 5 [(4, .int x4_5), (3, .int x3_5), (0, .ref (q 0)), (1, .int p1), (2, .int p2)] → W p l e (headSpec wsX6_forceAt ({ frames := 0, cells := 0, slots := 0, locals := 0 } : Room)).room s m ([.ref (q 0), .int p1, .int p2] : List Value).toArray below meth c s.heap [] 0 0 (MQ below (vp_Si post) ([.ref (q 0), .int p1, .int p2] : List Value).toArray s 0 0 (fun _ => False)) (F0 m 80 ls [])) (n : Nat) (x4_5 : Int32) (x3_5 : Int32), wpX6_forceAt_L5 w p1 p2 K5 n x4_5 x3_5 → ∀ ls : Array Slot, lv_has ls 5 [(4, .int x4_5), (3, .int x3_5), (0, .ref (q 0)), (1, .int p1), (2, .int p2)] → W p l e (headSpec wsX6_forceAt ({ frames := 0, cells := 0, slots := 0, locals := 0 } : Room)).room s m ([.ref (q 0), .int p1, .int p2] : List Value).toArray below meth c s.heap [] 0 0 (MQ below (vp_Si post) ([.ref (q 0), .int p1, .int p2] : List Value).toArray s 0 0 (fun _ => False)) (F0 m 5 ls []) := by
    intro K5 hX n
    induction n with
    | zero => intro x4_5 x3_5 h; exact False.elim h
    | succ n ih =>
      intro x4_5 x3_5 h ls hl
      rw [wpX6_forceAt_L5] at h
      refine lv_iload hx hb dX6_forceAt_5 (lv_at hl 0 rfl) ?_
      refine lv_aload_n hx hb dX6_forceAt_7 rfl (lv_at hl 2 rfl) ?_
      refine va_get (D := D) (ci := 6) (v := .int (w.2.1 2)) (C := RX6) (T := TX6) (N := 34) hx hb hts inX6_forceAt_6 hown hK hP 0 rfl rfl 9 (by decide) (hts (.fieldLink RX6 123 "CornLawsModel" "scales" "I") wdX6_forceAt_0) (fun _ h9 => h9) rfl dX6_forceAt_8 ?_
      refine lv_icmp_ge (tgt := 80) hx hb dX6_forceAt_11 (by decide) (fun c1 => ?_) (fun c1 => ?_)
      · replace h := h.1 c1
        exact hX x4_5 x3_5 h ls (lv_sub hl [0, 1, 2, 3, 4] rfl)
      · replace h := h.2 c1
        refine lv_aload_n hx hb dX6_forceAt_14 rfl (lv_at hl 2 rfl) ?_
        refine va_get (D := D) (ci := 6) (v := .ref (q 8)) (C := RX6) (T := TX6) (N := 34) hx hb hts inX6_forceAt_6 hown hK hP 0 rfl rfl 10 (by decide) (hts (.fieldLink RX6 31 "CornLawsModel" "scaleGrain" "[I") wdX6_forceAt_1) (fun _ h9 => h9) rfl dX6_forceAt_15 ?_
        refine lv_iload hx hb dX6_forceAt_18 (lv_at hl 0 rfl) ?_
        obtain ⟨hi2, h⟩ := h
        refine va_iald (f := w.1 7) hx hb hK hP 8 0 rfl rfl hi2 dX6_forceAt_20 ?_
        refine lv_iload_n hx hb dX6_forceAt_21 rfl (lv_at hl 3 rfl) ?_
        refine lv_icmp_ne (tgt := 74) hx hb dX6_forceAt_22 (by decide) (fun c3 => ?_) (fun c3 => ?_)
        · replace h := h.1 c3
          refine lv_iinc (v := (x4_5 + 1)) (lv' := [(4, .int (x4_5 + 1)), (3, .int x3_5), (0, .ref (q 0)), (1, .int p1), (2, .int p2)]) hx hb dX6_forceAt_74 hl (k := 0) rfl rfl (by decide) rfl (fun ls hl => ?_)
          refine lv_goto (tgt := 5) hx hb dX6_forceAt_77 (by decide) ?_
          exact ih (x4_5 + 1) x3_5 h ls (lv_sub hl [0, 1, 2, 3, 4] rfl)
        · replace h := h.2 c3
          refine lv_aload_n hx hb dX6_forceAt_25 rfl (lv_at hl 2 rfl) ?_
          refine va_get (D := D) (ci := 6) (v := .ref (q 11)) (C := RX6) (T := TX6) (N := 34) hx hb hts inX6_forceAt_6 hown hK hP 0 rfl rfl 13 (by decide) (hts (.fieldLink RX6 40 "CornLawsModel" "stepMany" "[I") wdX6_forceAt_2) (fun _ h9 => h9) rfl dX6_forceAt_26 ?_
          refine lv_iload hx hb dX6_forceAt_29 (lv_at hl 0 rfl) ?_
          refine va_iald (f := w.1 10) hx hb hK hP 11 0 rfl rfl hi2 dX6_forceAt_31 ?_
          refine lv_if_le (tgt := 74) hx hb dX6_forceAt_32 (by decide) (fun c4 => ?_) (fun c4 => ?_)
          · replace h := h.1 c4
            refine lv_iinc (v := (x4_5 + 1)) (lv' := [(4, .int (x4_5 + 1)), (3, .int x3_5), (0, .ref (q 0)), (1, .int p1), (2, .int p2)]) hx hb dX6_forceAt_74 hl (k := 0) rfl rfl (by decide) rfl (fun ls hl => ?_)
            refine lv_goto (tgt := 5) hx hb dX6_forceAt_77 (by decide) ?_
            exact ih (x4_5 + 1) x3_5 h ls (lv_sub hl [0, 1, 2, 3, 4] rfl)
          · replace h := h.2 c4
            refine lv_aload_n hx hb dX6_forceAt_35 rfl (lv_at hl 2 rfl) ?_
            refine va_get (D := D) (ci := 6) (v := .ref (q 9)) (C := RX6) (T := TX6) (N := 34) hx hb hts inX6_forceAt_6 hown hK hP 0 rfl rfl 11 (by decide) (hts (.fieldLink RX6 34 "CornLawsModel" "scaleWeek" "[I") wdX6_forceAt_3) (fun _ h9 => h9) rfl dX6_forceAt_36 ?_
            refine lv_iload hx hb dX6_forceAt_39 (lv_at hl 0 rfl) ?_
            refine va_iald (f := w.1 8) hx hb hK hP 9 0 rfl rfl hi2 dX6_forceAt_41 ?_
            refine lv_iload_n hx hb dX6_forceAt_42 rfl (lv_at hl 4 rfl) ?_
            refine lv_icmp_gt (tgt := 74) hx hb dX6_forceAt_43 (by decide) (fun c5 => ?_) (fun c5 => ?_)
            · replace h := h.1 c5
              refine lv_iinc (v := (x4_5 + 1)) (lv' := [(4, .int (x4_5 + 1)), (3, .int x3_5), (0, .ref (q 0)), (1, .int p1), (2, .int p2)]) hx hb dX6_forceAt_74 hl (k := 0) rfl rfl (by decide) rfl (fun ls hl => ?_)
              refine lv_goto (tgt := 5) hx hb dX6_forceAt_77 (by decide) ?_
              exact ih (x4_5 + 1) x3_5 h ls (lv_sub hl [0, 1, 2, 3, 4] rfl)
            · replace h := h.2 c5
              refine lv_iload_n hx hb dX6_forceAt_46 rfl (lv_at hl 1 rfl) ?_
              refine lv_iconst (v := (-1)) hx hb dX6_forceAt_47 (by decide) ?_
              refine lv_icmp_eq (tgt := 67) hx hb dX6_forceAt_48 (by decide) (fun c6 => ?_) (fun c6 => ?_)
              · replace h := h.1 c6
                refine lv_iload hx hb dX6_forceAt_67 (lv_at hl 0 rfl) ?_
                refine lv_goto (tgt := 73) hx hb dX6_forceAt_69 (by decide) ?_
                refine lv_istore_n (lv' := [(3, .int x4_5), (4, .int x4_5), (0, .ref (q 0)), (1, .int p1), (2, .int p2)]) hx hb dX6_forceAt_73 rfl hl (by decide) rfl (fun ls hl => ?_)
                refine lv_iinc (v := (x4_5 + 1)) (lv' := [(4, .int (x4_5 + 1)), (3, .int x4_5), (0, .ref (q 0)), (1, .int p1), (2, .int p2)]) hx hb dX6_forceAt_74 hl (k := 1) rfl rfl (by decide) rfl (fun ls hl => ?_)
                refine lv_goto (tgt := 5) hx hb dX6_forceAt_77 (by decide) ?_
                exact ih (x4_5 + 1) x4_5 h ls (lv_sub hl [0, 1, 2, 3, 4] rfl)
              · replace h := h.2 c6
                refine lv_aload_n hx hb dX6_forceAt_51 rfl (lv_at hl 2 rfl) ?_
                refine va_get (D := D) (ci := 6) (v := .ref (q 9)) (C := RX6) (T := TX6) (N := 34) hx hb hts inX6_forceAt_6 hown hK hP 0 rfl rfl 11 (by decide) (hts (.fieldLink RX6 34 "CornLawsModel" "scaleWeek" "[I") wdX6_forceAt_3) (fun _ h9 => h9) rfl dX6_forceAt_52 ?_
                refine lv_iload hx hb dX6_forceAt_55 (lv_at hl 0 rfl) ?_
                refine va_iald (f := w.1 8) hx hb hK hP 9 0 rfl rfl hi2 dX6_forceAt_57 ?_
                refine lv_aload_n hx hb dX6_forceAt_58 rfl (lv_at hl 2 rfl) ?_
                refine va_get (D := D) (ci := 6) (v := .ref (q 9)) (C := RX6) (T := TX6) (N := 34) hx hb hts inX6_forceAt_6 hown hK hP 0 rfl rfl 11 (by decide) (hts (.fieldLink RX6 34 "CornLawsModel" "scaleWeek" "[I") wdX6_forceAt_3) (fun _ h9 => h9) rfl dX6_forceAt_59 ?_
                refine lv_iload_n hx hb dX6_forceAt_62 rfl (lv_at hl 1 rfl) ?_
                obtain ⟨hi7, h⟩ := h
                refine va_iald (f := w.1 8) hx hb hK hP 9 0 rfl rfl hi7 dX6_forceAt_63 ?_
                refine lv_icmp_lt (tgt := 72) hx hb dX6_forceAt_64 (by decide) (fun c8 => ?_) (fun c8 => ?_)
                · replace h := h.1 c8
                  refine lv_iload_n hx hb dX6_forceAt_72 rfl (lv_at hl 1 rfl) ?_
                  refine lv_istore_n (lv' := [(3, .int x3_5), (4, .int x4_5), (0, .ref (q 0)), (1, .int p1), (2, .int p2)]) hx hb dX6_forceAt_73 rfl hl (by decide) rfl (fun ls hl => ?_)
                  refine lv_iinc (v := (x4_5 + 1)) (lv' := [(4, .int (x4_5 + 1)), (3, .int x3_5), (0, .ref (q 0)), (1, .int p1), (2, .int p2)]) hx hb dX6_forceAt_74 hl (k := 1) rfl rfl (by decide) rfl (fun ls hl => ?_)
                  refine lv_goto (tgt := 5) hx hb dX6_forceAt_77 (by decide) ?_
                  exact ih (x4_5 + 1) x3_5 h ls (lv_sub hl [0, 1, 2, 3, 4] rfl)
                · replace h := h.2 c8
                  refine lv_iload hx hb dX6_forceAt_67 (lv_at hl 0 rfl) ?_
                  refine lv_goto (tgt := 73) hx hb dX6_forceAt_69 (by decide) ?_
                  refine lv_istore_n (lv' := [(3, .int x4_5), (4, .int x4_5), (0, .ref (q 0)), (1, .int p1), (2, .int p2)]) hx hb dX6_forceAt_73 rfl hl (by decide) rfl (fun ls hl => ?_)
                  refine lv_iinc (v := (x4_5 + 1)) (lv' := [(4, .int (x4_5 + 1)), (3, .int x4_5), (0, .ref (q 0)), (1, .int p1), (2, .int p2)]) hx hb dX6_forceAt_74 hl (k := 1) rfl rfl (by decide) rfl (fun ls hl => ?_)
                  refine lv_goto (tgt := 5) hx hb dX6_forceAt_77 (by decide) ?_
                  exact ih (x4_5 + 1) x4_5 h ls (lv_sub hl [0, 1, 2, 3, 4] rfl)
  obtain ⟨n, h⟩ := h
  refine hL5 _ (fun x4_5 x3_5 h ls hl => ?_) n 0 (-1) h ls hl
  refine lv_iload_n hx hb dX6_forceAt_80 rfl (lv_at hl 1 rfl) ?_
  exact W.iret (v := x3_5) hx hb hr (fun t ht hW => ⟨x3_5, rfl, h, ht⟩) (fun _ h9 => by cases h9) dX6_forceAt_81

/-! X6_force -/
set_option maxHeartbeats 4000000 in
set_option maxRecDepth 100000 in
theorem cX6_force_ok (l : Launch) (D : va_G) (cI cII : ClassId) (q : Nat → Nat) (w : MS) (p1 : Int32) (p2 : Int32) (post : Int32 → Prop) (h : wpX6_force w p1 p2 post) : Met l yX6_force wsX6_force ({ frames := 2, cells := 0, slots := 0, locals := 42 } : Room) (zPc [.ref (q 0), .int p1, .int p2] D cI cII (wM cI q w)) (vp_Si post) 0 0 (fun _ => False) := by
  refine Met.ofW (cc := cX6_force) (maxL := 3) (ret := (some .int)) (by decide) rfl ?_
  intro p e s m args below meth c s₁ B hml hv
  obtain ⟨rfl, hP, hK⟩ := hv
  have hx := B.exec
  have hb := B.bytes
  have hr := B.returns
  have hts := atoms_spec (ws := wsX6_force) B.pre
  have hown : s.vm.findClass RX6 = some m.cls := findClass_of_methodNamed B.named
  have hlocks := B.notSynchronized
  have hl := lv_entry ([.ref (q 0), .int p1, .int p2]) (n := 3) (Nat.le_of_ble_eq_true rfl)
  rw [lg_entry_eq]
  generalize (lg_sl ([.ref (q 0), .int p1, .int p2]) ++ List.replicate (3 - (lg_sl ([.ref (q 0), .int p1, .int p2])).length) Slot.unset).toArray = ls at hl ⊢
  have hl : lv_has ls 3 [(0, .ref (q 0)), (1, .int p1), (2, .int p2)] := hl
  unfold wpX6_force at h
  refine lv_iload_n hx hb dX6_force_0 rfl (lv_at hl 1 rfl) ?_
  refine vp_callSi (W.runS (As := [.int p1]) (rest := []) ⟨hx, hb, hml, hown, hts⟩ (cX6_isGrain_ok l p1 _ h) (va_cwS 1 hts gX6_force_X6_isGrain rfl rfl rfl (by decide +kernel) ⟨Nat.le_of_ble_eq_true rfl, Nat.le_of_ble_eq_true rfl⟩) z_preS rfl rfl hl.1 rfl (lv_room (Nat.le_of_ble_eq_true rfl)) dX6_force_1 ⟨Nat.le_of_ble_eq_true rfl, Nat.le_of_ble_eq_true rfl⟩) (fun r1 h => ?_)
  refine lv_if_eq (tgt := 27) hx hb dX6_force_4 (by decide) (fun c2 => ?_) (fun c2 => ?_)
  · replace h := h.1 c2
    refine lv_bipush (v := (-2)) hx hb dX6_force_27 (by decide) ?_
    exact W.iret (v := (-2)) hx hb hr (fun t ht hW => ⟨(-2), rfl, h, ht⟩) (fun _ h9 => by cases h9) dX6_force_29
  · replace h := h.2 c2
    refine lv_iload_n hx hb dX6_force_7 rfl (lv_at hl 2 rfl) ?_
    refine lv_iconst (v := 0) hx hb dX6_force_8 (by decide) ?_
    refine lv_sipush (v := 220) hx hb dX6_force_9 (by decide) ?_
    refine vp_callSi (W.runS (As := [.int p2, .int 0, .int 220]) (rest := []) ⟨hx, hb, hml, hown, hts⟩ (cX6_in_ok l p2 0 220 _ h) (va_cwS 3 hts gX6_force_X6_in rfl rfl rfl (by decide +kernel) ⟨Nat.le_of_ble_eq_true rfl, Nat.le_of_ble_eq_true rfl⟩) z_preS rfl rfl hl.1 rfl (lv_room (Nat.le_of_ble_eq_true rfl)) dX6_force_12 ⟨Nat.le_of_ble_eq_true rfl, Nat.le_of_ble_eq_true rfl⟩) (fun r3 h => ?_)
    refine lv_if_eq (tgt := 27) hx hb dX6_force_15 (by decide) (fun c4 => ?_) (fun c4 => ?_)
    · replace h := h.1 c4
      refine lv_bipush (v := (-2)) hx hb dX6_force_27 (by decide) ?_
      exact W.iret (v := (-2)) hx hb hr (fun t ht hW => ⟨(-2), rfl, h, ht⟩) (fun _ h9 => by cases h9) dX6_force_29
    · replace h := h.2 c4
      refine lv_aload_n hx hb dX6_force_18 rfl (lv_at hl 0 rfl) ?_
      refine lv_iload_n hx hb dX6_force_19 rfl (lv_at hl 1 rfl) ?_
      refine lv_iload_n hx hb dX6_force_20 rfl (lv_at hl 2 rfl) ?_
      refine vp_callSi (W.runV (C := RX6) (As := [.int p1, .int p2]) (rest := []) ⟨hx, hb, hml, hown, hts⟩ (cX6_forceAt_ok l D cI cII q w p1 p2 _ h) (cwV 2 hts gX6_force_X6_forceAt rfl rfl rfl (by decide +kernel) ⟨Nat.le_of_ble_eq_true rfl, Nat.le_of_ble_eq_true rfl⟩) (z_preV hK hP rfl rfl) rfl rfl hl.1 rfl (lv_room (Nat.le_of_ble_eq_true rfl)) dX6_force_21 ⟨Nat.le_of_ble_eq_true rfl, Nat.le_of_ble_eq_true rfl⟩) (fun r5 h => ?_)
      refine lv_goto (tgt := 29) hx hb dX6_force_24 (by decide) ?_
      exact W.iret (v := r5) hx hb hr (fun t ht hW => ⟨r5, rfl, h, ht⟩) (fun _ h9 => by cases h9) dX6_force_29

/-! X6_ownDuty -/
set_option maxRecDepth 20000 in
theorem wdX6_ownDuty_0 : Cond.fieldLink RX6 89 "CornLawsModel" "always" "I" ∈ wsX6_ownDuty := by decide +kernel
set_option maxRecDepth 20000 in
theorem wdX6_ownDuty_1 : Cond.fieldLink RX6 40 "CornLawsModel" "stepMany" "[I" ∈ wsX6_ownDuty := by decide +kernel
set_option maxRecDepth 20000 in
theorem wdX6_ownDuty_2 : Cond.fieldLink RX6 43 "CornLawsModel" "stepPrice" "[I" ∈ wsX6_ownDuty := by decide +kernel
set_option maxRecDepth 20000 in
theorem wdX6_ownDuty_3 : Cond.fieldLink RX6 46 "CornLawsModel" "stepDuty" "[I" ∈ wsX6_ownDuty := by decide +kernel
set_option maxRecDepth 20000 in
theorem wdX6_ownDuty_4 : Cond.fieldLink RX6 31 "CornLawsModel" "scaleGrain" "[I" ∈ wsX6_ownDuty := by decide +kernel
set_option maxRecDepth 20000 in
theorem inX6_ownDuty_6 : ∀ w ∈ wsX60, w ∈ wsX6_ownDuty := by decide +kernel
set_option maxHeartbeats 4000000 in
set_option maxRecDepth 100000 in
theorem cX6_ownDuty_ok (l : Launch) (D : va_G) (cI cII : ClassId) (q : Nat → Nat) (w : MS) (p1 : Int32) (p2 : Int32) (p3 : Int32) (post : Int32 → Prop) (h : wpX6_ownDuty w p1 p2 p3 post) : Met l yX6_ownDuty wsX6_ownDuty ({ frames := 3, cells := 0, slots := 0, locals := 77 } : Room) (zPc [.ref (q 0), .int p1, .int p2, .int p3] D cI cII (wM cI q w)) (vp_Si post) 0 0 (fun _ => False) := by
  refine Met.ofW (cc := cX6_ownDuty) (maxL := 8) (ret := (some .int)) (by decide) rfl ?_
  intro p e s m args below meth c s₁ B hml hv
  obtain ⟨rfl, hP, hK⟩ := hv
  have hx := B.exec
  have hb := B.bytes
  have hr := B.returns
  have hts := atoms_spec (ws := wsX6_ownDuty) B.pre
  have hown : s.vm.findClass RX6 = some m.cls := findClass_of_methodNamed B.named
  have hlocks := B.notSynchronized
  have hl := lv_entry ([.ref (q 0), .int p1, .int p2, .int p3]) (n := 8) (Nat.le_of_ble_eq_true rfl)
  rw [lg_entry_eq]
  generalize (lg_sl ([.ref (q 0), .int p1, .int p2, .int p3]) ++ List.replicate (8 - (lg_sl ([.ref (q 0), .int p1, .int p2, .int p3])).length) Slot.unset).toArray = ls at hl ⊢
  have hl : lv_has ls 8 [(0, .ref (q 0)), (1, .int p1), (2, .int p2), (3, .int p3)] := hl
  unfold wpX6_ownDuty at h
  have hJ : ∀ (j0 : Int32), wpX6_ownDuty_J34 w p1 p2 p3 post j0 → ∀ ls : Array Slot, lv_has ls 8 [(0, .ref (q 0)), (1, .int p1), (2, .int p2), (3, .int p3)] → W p l e (headSpec wsX6_ownDuty ({ frames := 3, cells := 0, slots := 0, locals := 77 } : Room)).room s m ([.ref (q 0), .int p1, .int p2, .int p3] : List Value).toArray below meth c s.heap [] 0 0 (MQ below (vp_Si post) ([.ref (q 0), .int p1, .int p2, .int p3] : List Value).toArray s 0 0 (fun _ => False)) (F0 m 34 ls [.int j0]) := by
    intro j0 h ls hl
    unfold wpX6_ownDuty_J34 at h
    refine lv_istore (lv' := [(4, .int j0), (0, .ref (q 0)), (1, .int p1), (2, .int p2), (3, .int p3)]) hx hb dX6_ownDuty_34 hl (by decide) rfl (fun ls hl => ?_)
    refine lv_iload hx hb dX6_ownDuty_36 (lv_at hl 0 rfl) ?_
    refine lv_iconst (v := (-1)) hx hb dX6_ownDuty_38 (by decide) ?_
    refine lv_icmp_eq (tgt := 52) hx hb dX6_ownDuty_39 (by decide) (fun c1 => ?_) (fun c1 => ?_)
    · replace h := h.1 c1
      refine lv_iconst (v := 0) hx hb dX6_ownDuty_52 (by decide) ?_
      exact W.iret (v := 0) hx hb hr (fun t ht hW => ⟨0, rfl, h, ht⟩) (fun _ h9 => by cases h9) dX6_ownDuty_53
    · replace h := h.2 c1
      refine lv_aload_n hx hb dX6_ownDuty_42 rfl (lv_at hl 1 rfl) ?_
      refine va_get (D := D) (ci := 6) (v := .ref (q 11)) (C := RX6) (T := TX6) (N := 34) hx hb hts inX6_ownDuty_6 hown hK hP 0 rfl rfl 13 (by decide) (hts (.fieldLink RX6 40 "CornLawsModel" "stepMany" "[I") wdX6_ownDuty_1) (fun _ h9 => h9) rfl dX6_ownDuty_43 ?_
      refine lv_iload hx hb dX6_ownDuty_46 (lv_at hl 0 rfl) ?_
      obtain ⟨hi2, h⟩ := h
      refine va_iald (f := w.1 10) hx hb hK hP 11 0 rfl rfl hi2 dX6_ownDuty_48 ?_
      refine lv_if_ne (tgt := 54) hx hb dX6_ownDuty_49 (by decide) (fun c3 => ?_) (fun c3 => ?_)
      · replace h := h.1 c3
        refine lv_aload_n hx hb dX6_ownDuty_54 rfl (lv_at hl 1 rfl) ?_
        refine lv_iload_n hx hb dX6_ownDuty_55 rfl (lv_at hl 2 rfl) ?_
        refine lv_iload_n hx hb dX6_ownDuty_56 rfl (lv_at hl 3 rfl) ?_
        refine lv_iload_n hx hb dX6_ownDuty_57 rfl (lv_at hl 4 rfl) ?_
        refine vp_callSi (W.runV (C := RX6) (As := [.int p1, .int p2, .int p3]) (rest := []) ⟨hx, hb, hml, hown, hts⟩ (cX6_averageAt_ok l D cI cII q w p1 p2 p3 _ h) (cwV 3 hts gX6_ownDuty_X6_averageAt rfl rfl rfl (by decide +kernel) ⟨Nat.le_of_ble_eq_true rfl, Nat.le_of_ble_eq_true rfl⟩) (z_preV hK hP rfl rfl) rfl rfl hl.1 rfl (lv_room (Nat.le_of_ble_eq_true rfl)) dX6_ownDuty_58 ⟨Nat.le_of_ble_eq_true rfl, Nat.le_of_ble_eq_true rfl⟩) (fun r4 h => ?_)
        refine lv_istore (lv' := [(5, .int r4), (4, .int j0), (0, .ref (q 0)), (1, .int p1), (2, .int p2), (3, .int p3)]) hx hb dX6_ownDuty_61 hl (by decide) rfl (fun ls hl => ?_)
        refine lv_iconst (v := 0) hx hb dX6_ownDuty_63 (by decide) ?_
        refine lv_istore (lv' := [(6, .int 0), (5, .int r4), (4, .int j0), (0, .ref (q 0)), (1, .int p1), (2, .int p2), (3, .int p3)]) hx hb dX6_ownDuty_64 hl (by decide) rfl (fun ls hl => ?_)
        refine lv_iconst (v := 1) hx hb dX6_ownDuty_66 (by decide) ?_
        refine lv_istore (lv' := [(7, .int 1), (6, .int 0), (5, .int r4), (4, .int j0), (0, .ref (q 0)), (1, .int p1), (2, .int p2), (3, .int p3)]) hx hb dX6_ownDuty_67 hl (by decide) rfl (fun ls hl => ?_)
        have hL69 : ∀ (K69 : Int32 → Int32 → Prop) (hX : ∀ (x7_69 : Int32) (x6_69 : Int32), K69 x7_69 x6_69 → ∀ ls : Array Slot, lv_has ls 8 [(7, .int x7_69), (6, .int x6_69), (5, .int r4), (4, .int j0), (0, .ref (q 0)), (1, .int p1), (2, .int p2), (3, .int p3)] → W p l e (headSpec wsX6_ownDuty ({ frames := 3, cells := 0, slots := 0, locals := 77 } : Room)).room s m ([.ref (q 0), .int p1, .int p2, .int p3] : List Value).toArray below meth c s.heap [] 0 0 (MQ below (vp_Si post) ([.ref (q 0), .int p1, .int p2, .int p3] : List Value).toArray s 0 0 (fun _ => False)) (F0 m 114 ls [])) (n : Nat) (x7_69 : Int32) (x6_69 : Int32), wpX6_ownDuty_L69 w j0 r4 K69 n x7_69 x6_69 → ∀ ls : Array Slot, lv_has ls 8 [(7, .int x7_69), (6, .int x6_69), (5, .int r4), (4, .int j0), (0, .ref (q 0)), (1, .int p1), (2, .int p2), (3, .int p3)] → W p l e (headSpec wsX6_ownDuty ({ frames := 3, cells := 0, slots := 0, locals := 77 } : Room)).room s m ([.ref (q 0), .int p1, .int p2, .int p3] : List Value).toArray below meth c s.heap [] 0 0 (MQ below (vp_Si post) ([.ref (q 0), .int p1, .int p2, .int p3] : List Value).toArray s 0 0 (fun _ => False)) (F0 m 69 ls []) := by
          intro K69 hX n
          induction n with
          | zero => intro x7_69 x6_69 h; exact False.elim h
          | succ n ih =>
            intro x7_69 x6_69 h ls hl
            rw [wpX6_ownDuty_L69] at h
            refine lv_iload hx hb dX6_ownDuty_69 (lv_at hl 0 rfl) ?_
            refine lv_aload_n hx hb dX6_ownDuty_71 rfl (lv_at hl 4 rfl) ?_
            refine va_get (D := D) (ci := 6) (v := .ref (q 11)) (C := RX6) (T := TX6) (N := 34) hx hb hts inX6_ownDuty_6 hown hK hP 0 rfl rfl 13 (by decide) (hts (.fieldLink RX6 40 "CornLawsModel" "stepMany" "[I") wdX6_ownDuty_1) (fun _ h9 => h9) rfl dX6_ownDuty_72 ?_
            refine lv_iload hx hb dX6_ownDuty_75 (lv_at hl 3 rfl) ?_
            refine va_iald (f := w.1 10) hx hb hK hP 11 0 rfl rfl hi2 dX6_ownDuty_77 ?_
            refine lv_icmp_ge (tgt := 114) hx hb dX6_ownDuty_78 (by decide) (fun c5 => ?_) (fun c5 => ?_)
            · replace h := h.1 c5
              exact hX x7_69 x6_69 h ls (lv_sub hl [0, 1, 2, 3, 4, 5, 6, 7] rfl)
            · replace h := h.2 c5
              refine lv_aload_n hx hb dX6_ownDuty_81 rfl (lv_at hl 4 rfl) ?_
              refine va_get (D := D) (ci := 6) (v := .ref (q 12)) (C := RX6) (T := TX6) (N := 34) hx hb hts inX6_ownDuty_6 hown hK hP 0 rfl rfl 14 (by decide) (hts (.fieldLink RX6 43 "CornLawsModel" "stepPrice" "[I") wdX6_ownDuty_2) (fun _ h9 => h9) rfl dX6_ownDuty_82 ?_
              refine lv_bipush (v := 8) hx hb dX6_ownDuty_85 (by decide) ?_
              refine lv_iload hx hb dX6_ownDuty_87 (lv_at hl 3 rfl) ?_
              refine lv_imul hx hb dX6_ownDuty_89 ?_
              refine lv_iload hx hb dX6_ownDuty_90 (lv_at hl 0 rfl) ?_
              refine lv_iadd hx hb dX6_ownDuty_92 ?_
              obtain ⟨hi6, h⟩ := h
              refine va_iald (f := w.1 11) hx hb hK hP 12 0 rfl rfl hi6 dX6_ownDuty_93 ?_
              refine lv_iload hx hb dX6_ownDuty_94 (lv_at hl 2 rfl) ?_
              refine lv_icmp_gt (tgt := 104) hx hb dX6_ownDuty_96 (by decide) (fun c7 => ?_) (fun c7 => ?_)
              · replace h := h.1 c7
                refine lv_iload hx hb dX6_ownDuty_104 (lv_at hl 1 rfl) ?_
                refine lv_istore (lv' := [(6, .int x6_69), (7, .int x7_69), (5, .int r4), (4, .int j0), (0, .ref (q 0)), (1, .int p1), (2, .int p2), (3, .int p3)]) hx hb dX6_ownDuty_106 hl (by decide) rfl (fun ls hl => ?_)
                refine lv_iinc (v := (x7_69 + 1)) (lv' := [(7, .int (x7_69 + 1)), (6, .int x6_69), (5, .int r4), (4, .int j0), (0, .ref (q 0)), (1, .int p1), (2, .int p2), (3, .int p3)]) hx hb dX6_ownDuty_108 hl (k := 1) rfl rfl (by decide) rfl (fun ls hl => ?_)
                refine lv_goto (tgt := 69) hx hb dX6_ownDuty_111 (by decide) ?_
                exact ih (x7_69 + 1) x6_69 h ls (lv_sub hl [0, 1, 2, 3, 4, 5, 6, 7] rfl)
              · replace h := h.2 c7
                refine lv_iload hx hb dX6_ownDuty_99 (lv_at hl 0 rfl) ?_
                refine lv_goto (tgt := 106) hx hb dX6_ownDuty_101 (by decide) ?_
                refine lv_istore (lv' := [(6, .int x7_69), (7, .int x7_69), (5, .int r4), (4, .int j0), (0, .ref (q 0)), (1, .int p1), (2, .int p2), (3, .int p3)]) hx hb dX6_ownDuty_106 hl (by decide) rfl (fun ls hl => ?_)
                refine lv_iinc (v := (x7_69 + 1)) (lv' := [(7, .int (x7_69 + 1)), (6, .int x7_69), (5, .int r4), (4, .int j0), (0, .ref (q 0)), (1, .int p1), (2, .int p2), (3, .int p3)]) hx hb dX6_ownDuty_108 hl (k := 1) rfl rfl (by decide) rfl (fun ls hl => ?_)
                refine lv_goto (tgt := 69) hx hb dX6_ownDuty_111 (by decide) ?_
                exact ih (x7_69 + 1) x7_69 h ls (lv_sub hl [0, 1, 2, 3, 4, 5, 6, 7] rfl)
        obtain ⟨n, h⟩ := h
        refine hL69 _ (fun x7_69 x6_69 h ls hl => ?_) n 1 0 h ls hl
        refine lv_aload_n hx hb dX6_ownDuty_114 rfl (lv_at hl 4 rfl) ?_
        refine va_get (D := D) (ci := 6) (v := .ref (q 13)) (C := RX6) (T := TX6) (N := 34) hx hb hts inX6_ownDuty_6 hown hK hP 0 rfl rfl 15 (by decide) (hts (.fieldLink RX6 46 "CornLawsModel" "stepDuty" "[I") wdX6_ownDuty_3) (fun _ h9 => h9) rfl dX6_ownDuty_115 ?_
        refine lv_bipush (v := 8) hx hb dX6_ownDuty_118 (by decide) ?_
        refine lv_iload hx hb dX6_ownDuty_120 (lv_at hl 3 rfl) ?_
        refine lv_imul hx hb dX6_ownDuty_122 ?_
        refine lv_iload hx hb dX6_ownDuty_123 (lv_at hl 1 rfl) ?_
        refine lv_iadd hx hb dX6_ownDuty_125 ?_
        obtain ⟨hi8, h⟩ := h
        refine va_iald (f := w.1 12) hx hb hK hP 13 0 rfl rfl hi8 dX6_ownDuty_126 ?_
        exact W.iret (v := (w.1 12 ((8 * j0) + x6_69).toNatClampNeg)) hx hb hr (fun t ht hW => ⟨(w.1 12 ((8 * j0) + x6_69).toNatClampNeg), rfl, h, ht⟩) (fun _ h9 => by cases h9) dX6_ownDuty_127
      · replace h := h.2 c3
        refine lv_iconst (v := 0) hx hb dX6_ownDuty_52 (by decide) ?_
        exact W.iret (v := 0) hx hb hr (fun t ht hW => ⟨0, rfl, h, ht⟩) (fun _ h9 => by cases h9) dX6_ownDuty_53
  refine lv_aload_n hx hb dX6_ownDuty_0 rfl (lv_at hl 0 rfl) ?_
  refine va_get (D := D) (ci := 6) (v := .int (w.2.1 7)) (C := RX6) (T := TX6) (N := 34) hx hb hts inX6_ownDuty_6 hown hK hP 0 rfl rfl 33 (by decide) (hts (.fieldLink RX6 89 "CornLawsModel" "always" "I") wdX6_ownDuty_0) (fun _ h9 => h9) rfl dX6_ownDuty_1 ?_
  refine lv_iconst (v := (-1)) hx hb dX6_ownDuty_4 (by decide) ?_
  refine lv_icmp_eq (tgt := 28) hx hb dX6_ownDuty_5 (by decide) (fun c9 => ?_) (fun c9 => ?_)
  · replace h := h.1 c9
    refine lv_aload_n hx hb dX6_ownDuty_28 rfl (lv_at hl 0 rfl) ?_
    refine lv_iload_n hx hb dX6_ownDuty_29 rfl (lv_at hl 1 rfl) ?_
    refine lv_iload_n hx hb dX6_ownDuty_30 rfl (lv_at hl 2 rfl) ?_
    refine vp_callSi (W.runV (C := RX6) (As := [.int p1, .int p2]) (rest := []) ⟨hx, hb, hml, hown, hts⟩ (cX6_forceAt_ok l D cI cII q w p1 p2 _ h) (cwV 2 hts gX6_ownDuty_X6_forceAt rfl rfl rfl (by decide +kernel) ⟨Nat.le_of_ble_eq_true rfl, Nat.le_of_ble_eq_true rfl⟩) (z_preV hK hP rfl rfl) rfl rfl hl.1 rfl (lv_room (Nat.le_of_ble_eq_true rfl)) dX6_ownDuty_31 ⟨Nat.le_of_ble_eq_true rfl, Nat.le_of_ble_eq_true rfl⟩) (fun r10 h => ?_)
    exact hJ r10 h ls (lv_sub hl [0, 1, 2, 3] rfl)
  · replace h := h.2 c9
    refine lv_aload_n hx hb dX6_ownDuty_8 rfl (lv_at hl 0 rfl) ?_
    refine va_get (D := D) (ci := 6) (v := .ref (q 8)) (C := RX6) (T := TX6) (N := 34) hx hb hts inX6_ownDuty_6 hown hK hP 0 rfl rfl 10 (by decide) (hts (.fieldLink RX6 31 "CornLawsModel" "scaleGrain" "[I") wdX6_ownDuty_4) (fun _ h9 => h9) rfl dX6_ownDuty_9 ?_
    refine lv_aload_n hx hb dX6_ownDuty_12 rfl (lv_at hl 0 rfl) ?_
    refine va_get (D := D) (ci := 6) (v := .int (w.2.1 7)) (C := RX6) (T := TX6) (N := 34) hx hb hts inX6_ownDuty_6 hown hK hP 0 rfl rfl 33 (by decide) (hts (.fieldLink RX6 89 "CornLawsModel" "always" "I") wdX6_ownDuty_0) (fun _ h9 => h9) rfl dX6_ownDuty_13 ?_
    obtain ⟨hi11, h⟩ := h
    refine va_iald (f := w.1 7) hx hb hK hP 8 0 rfl rfl hi11 dX6_ownDuty_16 ?_
    refine lv_iload_n hx hb dX6_ownDuty_17 rfl (lv_at hl 1 rfl) ?_
    refine lv_icmp_ne (tgt := 28) hx hb dX6_ownDuty_18 (by decide) (fun c12 => ?_) (fun c12 => ?_)
    · replace h := h.1 c12
      refine lv_aload_n hx hb dX6_ownDuty_28 rfl (lv_at hl 0 rfl) ?_
      refine lv_iload_n hx hb dX6_ownDuty_29 rfl (lv_at hl 1 rfl) ?_
      refine lv_iload_n hx hb dX6_ownDuty_30 rfl (lv_at hl 2 rfl) ?_
      refine vp_callSi (W.runV (C := RX6) (As := [.int p1, .int p2]) (rest := []) ⟨hx, hb, hml, hown, hts⟩ (cX6_forceAt_ok l D cI cII q w p1 p2 _ h) (cwV 2 hts gX6_ownDuty_X6_forceAt rfl rfl rfl (by decide +kernel) ⟨Nat.le_of_ble_eq_true rfl, Nat.le_of_ble_eq_true rfl⟩) (z_preV hK hP rfl rfl) rfl rfl hl.1 rfl (lv_room (Nat.le_of_ble_eq_true rfl)) dX6_ownDuty_31 ⟨Nat.le_of_ble_eq_true rfl, Nat.le_of_ble_eq_true rfl⟩) (fun r13 h => ?_)
      exact hJ r13 h ls (lv_sub hl [0, 1, 2, 3] rfl)
    · replace h := h.2 c12
      refine lv_aload_n hx hb dX6_ownDuty_21 rfl (lv_at hl 0 rfl) ?_
      refine va_get (D := D) (ci := 6) (v := .int (w.2.1 7)) (C := RX6) (T := TX6) (N := 34) hx hb hts inX6_ownDuty_6 hown hK hP 0 rfl rfl 33 (by decide) (hts (.fieldLink RX6 89 "CornLawsModel" "always" "I") wdX6_ownDuty_0) (fun _ h9 => h9) rfl dX6_ownDuty_22 ?_
      refine lv_goto (tgt := 34) hx hb dX6_ownDuty_25 (by decide) ?_
      exact hJ (w.2.1 7) h ls (lv_sub hl [0, 1, 2, 3] rfl)

/-! X6_dutyAt -/
set_option maxRecDepth 20000 in
theorem wdX6_dutyAt_0 : Cond.fieldLink RX6 49 "CornLawsModel" "hangsOn" "[I" ∈ wsX6_dutyAt := by decide +kernel
set_option maxRecDepth 20000 in
theorem wdX6_dutyAt_1 : Cond.fieldLink RX6 52 "CornLawsModel" "hangUp" "[I" ∈ wsX6_dutyAt := by decide +kernel
set_option maxRecDepth 20000 in
theorem wdX6_dutyAt_2 : Cond.fieldLink RX6 55 "CornLawsModel" "hangLow" "[I" ∈ wsX6_dutyAt := by decide +kernel
set_option maxRecDepth 20000 in
theorem inX6_dutyAt_6 : ∀ w ∈ wsX60, w ∈ wsX6_dutyAt := by decide +kernel
set_option maxHeartbeats 4000000 in
set_option maxRecDepth 100000 in
theorem cX6_dutyAt_ok (l : Launch) (D : va_G) (cI cII : ClassId) (q : Nat → Nat) (w : MS) (p1 : Int32) (p2 : Int32) (p3 : Int32) (post : Int32 → Prop) (h : wpX6_dutyAt w p1 p2 p3 post) : Met l yX6_dutyAt wsX6_dutyAt ({ frames := 4, cells := 0, slots := 0, locals := 104 } : Room) (zPc [.ref (q 0), .int p1, .int p2, .int p3] D cI cII (wM cI q w)) (vp_Si post) 0 0 (fun _ => False) := by
  refine Met.ofW (cc := cX6_dutyAt) (maxL := 5) (ret := (some .int)) (by decide) rfl ?_
  intro p e s m args below meth c s₁ B hml hv
  obtain ⟨rfl, hP, hK⟩ := hv
  have hx := B.exec
  have hb := B.bytes
  have hr := B.returns
  have hts := atoms_spec (ws := wsX6_dutyAt) B.pre
  have hown : s.vm.findClass RX6 = some m.cls := findClass_of_methodNamed B.named
  have hlocks := B.notSynchronized
  have hl := lv_entry ([.ref (q 0), .int p1, .int p2, .int p3]) (n := 5) (Nat.le_of_ble_eq_true rfl)
  rw [lg_entry_eq]
  generalize (lg_sl ([.ref (q 0), .int p1, .int p2, .int p3]) ++ List.replicate (5 - (lg_sl ([.ref (q 0), .int p1, .int p2, .int p3])).length) Slot.unset).toArray = ls at hl ⊢
  have hl : lv_has ls 5 [(0, .ref (q 0)), (1, .int p1), (2, .int p2), (3, .int p3)] := hl
  unfold wpX6_dutyAt at h
  refine lv_aload_n hx hb dX6_dutyAt_0 rfl (lv_at hl 0 rfl) ?_
  refine va_get (D := D) (ci := 6) (v := .ref (q 14)) (C := RX6) (T := TX6) (N := 34) hx hb hts inX6_dutyAt_6 hown hK hP 0 rfl rfl 16 (by decide) (hts (.fieldLink RX6 49 "CornLawsModel" "hangsOn" "[I") wdX6_dutyAt_0) (fun _ h9 => h9) rfl dX6_dutyAt_1 ?_
  refine lv_iload_n hx hb dX6_dutyAt_4 rfl (lv_at hl 1 rfl) ?_
  obtain ⟨hi1, h⟩ := h
  refine va_iald (f := w.1 13) hx hb hK hP 14 0 rfl rfl hi1 dX6_dutyAt_5 ?_
  refine lv_istore (lv' := [(4, .int (w.1 13 p1.toNatClampNeg)), (0, .ref (q 0)), (1, .int p1), (2, .int p2), (3, .int p3)]) hx hb dX6_dutyAt_6 hl (by decide) rfl (fun ls hl => ?_)
  refine lv_iload hx hb dX6_dutyAt_8 (lv_at hl 0 rfl) ?_
  refine lv_iconst (v := (-1)) hx hb dX6_dutyAt_10 (by decide) ?_
  refine lv_icmp_ne (tgt := 24) hx hb dX6_dutyAt_11 (by decide) (fun c2 => ?_) (fun c2 => ?_)
  · replace h := h.1 c2
    refine lv_aload_n hx hb dX6_dutyAt_24 rfl (lv_at hl 1 rfl) ?_
    refine lv_iload hx hb dX6_dutyAt_25 (lv_at hl 0 rfl) ?_
    refine lv_iload_n hx hb dX6_dutyAt_27 rfl (lv_at hl 3 rfl) ?_
    refine lv_iload_n hx hb dX6_dutyAt_28 rfl (lv_at hl 4 rfl) ?_
    refine vp_callSi (W.runV (C := RX6) (As := [.int (w.1 13 p1.toNatClampNeg), .int p2, .int p3]) (rest := []) ⟨hx, hb, hml, hown, hts⟩ (cX6_ownDuty_ok l D cI cII q w (w.1 13 p1.toNatClampNeg) p2 p3 _ h) (cwV 3 hts gX6_dutyAt_X6_ownDuty rfl rfl rfl (by decide +kernel) ⟨Nat.le_of_ble_eq_true rfl, Nat.le_of_ble_eq_true rfl⟩) (z_preV hK hP rfl rfl) rfl rfl hl.1 rfl (lv_room (Nat.le_of_ble_eq_true rfl)) dX6_dutyAt_29 ⟨Nat.le_of_ble_eq_true rfl, Nat.le_of_ble_eq_true rfl⟩) (fun r3 h => ?_)
    refine lv_aload_n hx hb dX6_dutyAt_32 rfl (lv_at hl 1 rfl) ?_
    refine va_get (D := D) (ci := 6) (v := .ref (q 15)) (C := RX6) (T := TX6) (N := 34) hx hb hts inX6_dutyAt_6 hown hK hP 0 rfl rfl 17 (by decide) (hts (.fieldLink RX6 52 "CornLawsModel" "hangUp" "[I") wdX6_dutyAt_1) (fun _ h9 => h9) rfl dX6_dutyAt_33 ?_
    refine lv_iload_n hx hb dX6_dutyAt_36 rfl (lv_at hl 2 rfl) ?_
    refine va_iald (f := w.1 14) hx hb hK hP 15 0 rfl rfl hi1 dX6_dutyAt_37 ?_
    refine lv_imul hx hb dX6_dutyAt_38 ?_
    refine lv_aload_n hx hb dX6_dutyAt_39 rfl (lv_at hl 1 rfl) ?_
    refine va_get (D := D) (ci := 6) (v := .ref (q 16)) (C := RX6) (T := TX6) (N := 34) hx hb hts inX6_dutyAt_6 hown hK hP 0 rfl rfl 18 (by decide) (hts (.fieldLink RX6 55 "CornLawsModel" "hangLow" "[I") wdX6_dutyAt_2) (fun _ h9 => h9) rfl dX6_dutyAt_40 ?_
    refine lv_iload_n hx hb dX6_dutyAt_43 rfl (lv_at hl 2 rfl) ?_
    refine va_iald (f := w.1 15) hx hb hK hP 16 0 rfl rfl hi1 dX6_dutyAt_44 ?_
    obtain ⟨hdiv, h⟩ := h
    refine lv_idiv hx hb dX6_dutyAt_45 hdiv ?_
    exact W.iret (v := ((r3 * (w.1 14 p1.toNatClampNeg)) / (w.1 15 p1.toNatClampNeg))) hx hb hr (fun t ht hW => ⟨((r3 * (w.1 14 p1.toNatClampNeg)) / (w.1 15 p1.toNatClampNeg)), rfl, h, ht⟩) (fun _ h9 => by cases h9) dX6_dutyAt_46
  · replace h := h.2 c2
    refine lv_aload_n hx hb dX6_dutyAt_14 rfl (lv_at hl 1 rfl) ?_
    refine lv_iload_n hx hb dX6_dutyAt_15 rfl (lv_at hl 2 rfl) ?_
    refine lv_iload_n hx hb dX6_dutyAt_16 rfl (lv_at hl 3 rfl) ?_
    refine lv_iload_n hx hb dX6_dutyAt_17 rfl (lv_at hl 4 rfl) ?_
    refine vp_callSi (W.runV (C := RX6) (As := [.int p1, .int p2, .int p3]) (rest := []) ⟨hx, hb, hml, hown, hts⟩ (cX6_ownDuty_ok l D cI cII q w p1 p2 p3 _ h) (cwV 3 hts gX6_dutyAt_X6_ownDuty rfl rfl rfl (by decide +kernel) ⟨Nat.le_of_ble_eq_true rfl, Nat.le_of_ble_eq_true rfl⟩) (z_preV hK hP rfl rfl) rfl rfl hl.1 rfl (lv_room (Nat.le_of_ble_eq_true rfl)) dX6_dutyAt_18 ⟨Nat.le_of_ble_eq_true rfl, Nat.le_of_ble_eq_true rfl⟩) (fun r4 h => ?_)
    refine lv_goto (tgt := 46) hx hb dX6_dutyAt_21 (by decide) ?_
    exact W.iret (v := r4) hx hb hr (fun t ht hW => ⟨r4, rfl, h, ht⟩) (fun _ h9 => by cases h9) dX6_dutyAt_46

/-! X6_duty -/
set_option maxHeartbeats 4000000 in
set_option maxRecDepth 100000 in
theorem cX6_duty_ok (l : Launch) (D : va_G) (cI cII : ClassId) (q : Nat → Nat) (w : MS) (p1 : Int32) (p2 : Int32) (post : Int32 → Prop) (h : wpX6_duty w p1 p2 post) : Met l yX6_duty wsX6_duty ({ frames := 5, cells := 0, slots := 0, locals := 128 } : Room) (zPc [.ref (q 0), .int p1, .int p2] D cI cII (wM cI q w)) (vp_Si post) 0 0 (fun _ => False) := by
  refine Met.ofW (cc := cX6_duty) (maxL := 3) (ret := (some .int)) (by decide) rfl ?_
  intro p e s m args below meth c s₁ B hml hv
  obtain ⟨rfl, hP, hK⟩ := hv
  have hx := B.exec
  have hb := B.bytes
  have hr := B.returns
  have hts := atoms_spec (ws := wsX6_duty) B.pre
  have hown : s.vm.findClass RX6 = some m.cls := findClass_of_methodNamed B.named
  have hlocks := B.notSynchronized
  have hl := lv_entry ([.ref (q 0), .int p1, .int p2]) (n := 3) (Nat.le_of_ble_eq_true rfl)
  rw [lg_entry_eq]
  generalize (lg_sl ([.ref (q 0), .int p1, .int p2]) ++ List.replicate (3 - (lg_sl ([.ref (q 0), .int p1, .int p2])).length) Slot.unset).toArray = ls at hl ⊢
  have hl : lv_has ls 3 [(0, .ref (q 0)), (1, .int p1), (2, .int p2)] := hl
  unfold wpX6_duty at h
  refine lv_iload_n hx hb dX6_duty_0 rfl (lv_at hl 1 rfl) ?_
  refine vp_callSi (W.runS (As := [.int p1]) (rest := []) ⟨hx, hb, hml, hown, hts⟩ (cX6_isGrain_ok l p1 _ h) (va_cwS 1 hts gX6_duty_X6_isGrain rfl rfl rfl (by decide +kernel) ⟨Nat.le_of_ble_eq_true rfl, Nat.le_of_ble_eq_true rfl⟩) z_preS rfl rfl hl.1 rfl (lv_room (Nat.le_of_ble_eq_true rfl)) dX6_duty_1 ⟨Nat.le_of_ble_eq_true rfl, Nat.le_of_ble_eq_true rfl⟩) (fun r1 h => ?_)
  refine lv_if_eq (tgt := 28) hx hb dX6_duty_4 (by decide) (fun c2 => ?_) (fun c2 => ?_)
  · replace h := h.1 c2
    refine lv_bipush (v := (-2)) hx hb dX6_duty_28 (by decide) ?_
    exact W.iret (v := (-2)) hx hb hr (fun t ht hW => ⟨(-2), rfl, h, ht⟩) (fun _ h9 => by cases h9) dX6_duty_30
  · replace h := h.2 c2
    refine lv_iload_n hx hb dX6_duty_7 rfl (lv_at hl 2 rfl) ?_
    refine lv_iconst (v := 0) hx hb dX6_duty_8 (by decide) ?_
    refine lv_sipush (v := 220) hx hb dX6_duty_9 (by decide) ?_
    refine vp_callSi (W.runS (As := [.int p2, .int 0, .int 220]) (rest := []) ⟨hx, hb, hml, hown, hts⟩ (cX6_in_ok l p2 0 220 _ h) (va_cwS 3 hts gX6_duty_X6_in rfl rfl rfl (by decide +kernel) ⟨Nat.le_of_ble_eq_true rfl, Nat.le_of_ble_eq_true rfl⟩) z_preS rfl rfl hl.1 rfl (lv_room (Nat.le_of_ble_eq_true rfl)) dX6_duty_12 ⟨Nat.le_of_ble_eq_true rfl, Nat.le_of_ble_eq_true rfl⟩) (fun r3 h => ?_)
    refine lv_if_eq (tgt := 28) hx hb dX6_duty_15 (by decide) (fun c4 => ?_) (fun c4 => ?_)
    · replace h := h.1 c4
      refine lv_bipush (v := (-2)) hx hb dX6_duty_28 (by decide) ?_
      exact W.iret (v := (-2)) hx hb hr (fun t ht hW => ⟨(-2), rfl, h, ht⟩) (fun _ h9 => by cases h9) dX6_duty_30
    · replace h := h.2 c4
      refine lv_aload_n hx hb dX6_duty_18 rfl (lv_at hl 0 rfl) ?_
      refine lv_iload_n hx hb dX6_duty_19 rfl (lv_at hl 1 rfl) ?_
      refine lv_iload_n hx hb dX6_duty_20 rfl (lv_at hl 2 rfl) ?_
      refine lv_iload_n hx hb dX6_duty_21 rfl (lv_at hl 2 rfl) ?_
      refine vp_callSi (W.runV (C := RX6) (As := [.int p1, .int p2, .int p2]) (rest := []) ⟨hx, hb, hml, hown, hts⟩ (cX6_dutyAt_ok l D cI cII q w p1 p2 p2 _ h) (cwV 3 hts gX6_duty_X6_dutyAt rfl rfl rfl (by decide +kernel) ⟨Nat.le_of_ble_eq_true rfl, Nat.le_of_ble_eq_true rfl⟩) (z_preV hK hP rfl rfl) rfl rfl hl.1 rfl (lv_room (Nat.le_of_ble_eq_true rfl)) dX6_duty_22 ⟨Nat.le_of_ble_eq_true rfl, Nat.le_of_ble_eq_true rfl⟩) (fun r5 h => ?_)
      refine lv_goto (tgt := 30) hx hb dX6_duty_25 (by decide) ?_
      exact W.iret (v := r5) hx hb hr (fun t ht hW => ⟨r5, rfl, h, ht⟩) (fun _ h9 => by cases h9) dX6_duty_30

/-! X6_cargo -/
set_option maxRecDepth 20000 in
theorem wdX6_cargo_0 : Cond.fieldLink RX6 99 "CornLawsModel" "cargoes" "I" ∈ wsX6_cargo := by decide +kernel
set_option maxRecDepth 20000 in
theorem wdX6_cargo_1 : Cond.fieldLink RX6 58 "CornLawsModel" "cargoGrain" "[I" ∈ wsX6_cargo := by decide +kernel
set_option maxRecDepth 20000 in
theorem wdX6_cargo_2 : Cond.fieldLink RX6 61 "CornLawsModel" "cargoBond" "[I" ∈ wsX6_cargo := by decide +kernel
set_option maxRecDepth 20000 in
theorem wdX6_cargo_3 : Cond.fieldLink RX6 64 "CornLawsModel" "cargoOut" "[I" ∈ wsX6_cargo := by decide +kernel
set_option maxRecDepth 20000 in
theorem wdX6_cargo_4 : Cond.fieldLink RX6 67 "CornLawsModel" "cargoShipped" "[I" ∈ wsX6_cargo := by decide +kernel
set_option maxRecDepth 20000 in
theorem wdX6_cargo_5 : Cond.fieldLink RX6 70 "CornLawsModel" "cargoSpoilt" "[I" ∈ wsX6_cargo := by decide +kernel
set_option maxRecDepth 20000 in
theorem wdX6_cargo_6 : Cond.fieldLink RX6 73 "CornLawsModel" "cargoWeek" "[I" ∈ wsX6_cargo := by decide +kernel
set_option maxRecDepth 20000 in
theorem wdX6_cargo_7 : Cond.fieldLink RX6 96 "CornLawsModel" "week" "I" ∈ wsX6_cargo := by decide +kernel
set_option maxRecDepth 20000 in
theorem inX6_cargo_6 : ∀ w ∈ wsX60, w ∈ wsX6_cargo := by decide +kernel
set_option maxHeartbeats 4000000 in
set_option maxRecDepth 100000 in
theorem cX6_cargo_ok (l : Launch) (D : va_G) (cI cII : ClassId) (q : Nat → Nat) (w : MS) (p1 : Int32) (p2 : Int32) (post : Int32 → MS → Prop) (h : wpX6_cargo w p1 p2 post) : Met l yX6_cargo wsX6_cargo ({ frames := 2, cells := 0, slots := 0, locals := 42 } : Room) (zPm [.ref (q 0), .int p1, .int p2] D cI cII (wM cI q w)) (va_Qi post (fun (z : MS) (t : State) => va_P D vwCl (wM cI q z) t.heap) (z_in (wM cI q w))) 0 0 (z_in (wM cI q w)) := by
  refine Met.ofW (cc := cX6_cargo) (maxL := 3) (ret := (some .int)) (by decide) rfl ?_
  intro p e s m args below meth c s₁ B hml hv
  obtain ⟨rfl, hP, hK, hD0⟩ := hv
  have hx := B.exec
  have hb := B.bytes
  have hr := B.returns
  have hts := atoms_spec (ws := wsX6_cargo) B.pre
  have hown : s.vm.findClass RX6 = some m.cls := findClass_of_methodNamed B.named
  have hlocks := B.notSynchronized
  have hD := z_Dself hD0
  generalize hAe : z_in (wM cI q w) = A at hD ⊢
  have hS : va_S A s.heap s.heap [] := va_S.rf
  have hl := lv_entry ([.ref (q 0), .int p1, .int p2]) (n := 3) (Nat.le_of_ble_eq_true rfl)
  rw [lg_entry_eq]
  generalize (lg_sl ([.ref (q 0), .int p1, .int p2]) ++ List.replicate (3 - (lg_sl ([.ref (q 0), .int p1, .int p2])).length) Slot.unset).toArray = ls at hl ⊢
  have hl : lv_has ls 3 [(0, .ref (q 0)), (1, .int p1), (2, .int p2)] := hl
  unfold wpX6_cargo at h
  refine lv_iload_n hx hb dX6_cargo_0 rfl (lv_at hl 1 rfl) ?_
  refine vp_callSi (W.runS (As := [.int p1]) (rest := []) ⟨hx, hb, hml, hown, hts⟩ (cX6_isGrain_ok l p1 _ h) (va_cwS 1 hts gX6_cargo_X6_isGrain rfl rfl rfl (by decide +kernel) ⟨Nat.le_of_ble_eq_true rfl, Nat.le_of_ble_eq_true rfl⟩) z_preS rfl rfl hl.1 rfl (lv_room (Nat.le_of_ble_eq_true rfl)) dX6_cargo_1 ⟨Nat.le_of_ble_eq_true rfl, Nat.le_of_ble_eq_true rfl⟩) (fun r1 h => ?_)
  refine lv_if_eq (tgt := 18) hx hb dX6_cargo_4 (by decide) (fun c2 => ?_) (fun c2 => ?_)
  · replace h := h.1 c2
    refine lv_bipush (v := (-2)) hx hb dX6_cargo_18 (by decide) ?_
    exact W.iret (v := (-2)) hx hb hr (fun t ht hW => ⟨⟨(-2), w, rfl, h, by show va_P D vwCl _ t.heap; rw [ht]; exact hP⟩, hS.F ht⟩) hS.2.2 dX6_cargo_20
  · replace h := h.2 c2
    refine lv_iload_n hx hb dX6_cargo_7 rfl (lv_at hl 2 rfl) ?_
    refine lv_iconst (v := 1) hx hb dX6_cargo_8 (by decide) ?_
    refine lv_sipush (v := 10000) hx hb dX6_cargo_9 (by decide) ?_
    refine vp_callSi (W.runS (As := [.int p2, .int 1, .int 10000]) (rest := []) ⟨hx, hb, hml, hown, hts⟩ (cX6_in_ok l p2 1 10000 _ h) (va_cwS 3 hts gX6_cargo_X6_in rfl rfl rfl (by decide +kernel) ⟨Nat.le_of_ble_eq_true rfl, Nat.le_of_ble_eq_true rfl⟩) z_preS rfl rfl hl.1 rfl (lv_room (Nat.le_of_ble_eq_true rfl)) dX6_cargo_12 ⟨Nat.le_of_ble_eq_true rfl, Nat.le_of_ble_eq_true rfl⟩) (fun r3 h => ?_)
    refine lv_if_ne (tgt := 21) hx hb dX6_cargo_15 (by decide) (fun c4 => ?_) (fun c4 => ?_)
    · replace h := h.1 c4
      refine lv_aload_n hx hb dX6_cargo_21 rfl (lv_at hl 0 rfl) ?_
      refine va_get (D := D) (ci := 6) (v := .int (w.2.1 3)) (C := RX6) (T := TX6) (N := 34) hx hb hts inX6_cargo_6 hown hK hP 0 rfl rfl 19 (by decide) (hts (.fieldLink RX6 99 "CornLawsModel" "cargoes" "I") wdX6_cargo_0) (fun _ h9 => h9) rfl dX6_cargo_22 ?_
      refine lv_bipush (v := 20) hx hb dX6_cargo_25 (by decide) ?_
      refine lv_icmp_ne (tgt := 33) hx hb dX6_cargo_27 (by decide) (fun c5 => ?_) (fun c5 => ?_)
      · replace h := h.1 c5
        refine lv_aload_n hx hb dX6_cargo_33 rfl (lv_at hl 0 rfl) ?_
        refine va_get (D := D) (ci := 6) (v := .ref (q 17)) (C := RX6) (T := TX6) (N := 34) hx hb hts inX6_cargo_6 hown hK hP 0 rfl rfl 20 (by decide) (hts (.fieldLink RX6 58 "CornLawsModel" "cargoGrain" "[I") wdX6_cargo_1) (fun _ h9 => h9) rfl dX6_cargo_34 ?_
        refine lv_aload_n hx hb dX6_cargo_37 rfl (lv_at hl 0 rfl) ?_
        refine va_get (D := D) (ci := 6) (v := .int (w.2.1 3)) (C := RX6) (T := TX6) (N := 34) hx hb hts inX6_cargo_6 hown hK hP 0 rfl rfl 19 (by decide) (hts (.fieldLink RX6 99 "CornLawsModel" "cargoes" "I") wdX6_cargo_0) (fun _ h9 => h9) rfl dX6_cargo_38 ?_
        refine lv_iload_n hx hb dX6_cargo_41 rfl (lv_at hl 1 rfl) ?_
        obtain ⟨hi6, h⟩ := h
        refine va_iast (f := w.1 16) hx hb hK hP hD hS 17 0 rfl rfl hi6 dX6_cargo_42 (fun H locs hP hD hS => ?_)
        have hP : va_P D vwCl (wM cI q ((va_up w.1 16 (upd (w.1 16) ((w.2.1 3).toNatClampNeg) (p1))), w.2.1, w.2.2)) H := hP
        have hD : va_D A (wM cI q ((va_up w.1 16 (upd (w.1 16) ((w.2.1 3).toNatClampNeg) (p1))), w.2.1, w.2.2)) := hD
        refine lv_aload_n hx hb dX6_cargo_43 rfl (lv_at hl 0 rfl) ?_
        refine va_get (D := D) (ci := 6) (v := .ref (q 18)) (C := RX6) (T := TX6) (N := 34) hx hb hts inX6_cargo_6 hown hK hP 0 rfl rfl 21 (by decide) (hts (.fieldLink RX6 61 "CornLawsModel" "cargoBond" "[I") wdX6_cargo_2) (fun _ h9 => h9) rfl dX6_cargo_44 ?_
        refine lv_aload_n hx hb dX6_cargo_47 rfl (lv_at hl 0 rfl) ?_
        refine va_get (D := D) (ci := 6) (v := .int (w.2.1 3)) (C := RX6) (T := TX6) (N := 34) hx hb hts inX6_cargo_6 hown hK hP 0 rfl rfl 19 (by decide) (hts (.fieldLink RX6 99 "CornLawsModel" "cargoes" "I") wdX6_cargo_0) (fun _ h9 => h9) rfl dX6_cargo_48 ?_
        refine lv_iload_n hx hb dX6_cargo_51 rfl (lv_at hl 2 rfl) ?_
        refine va_iast (f := w.1 17) hx hb hK hP hD hS 18 0 rfl rfl hi6 dX6_cargo_52 (fun H locs hP hD hS => ?_)
        have hP : va_P D vwCl (wM cI q ((va_up (va_up w.1 16 (upd (w.1 16) ((w.2.1 3).toNatClampNeg) (p1))) 17 (upd (w.1 17) ((w.2.1 3).toNatClampNeg) (p2))), w.2.1, w.2.2)) H := hP
        have hD : va_D A (wM cI q ((va_up (va_up w.1 16 (upd (w.1 16) ((w.2.1 3).toNatClampNeg) (p1))) 17 (upd (w.1 17) ((w.2.1 3).toNatClampNeg) (p2))), w.2.1, w.2.2)) := hD
        refine lv_aload_n hx hb dX6_cargo_53 rfl (lv_at hl 0 rfl) ?_
        refine va_get (D := D) (ci := 6) (v := .ref (q 19)) (C := RX6) (T := TX6) (N := 34) hx hb hts inX6_cargo_6 hown hK hP 0 rfl rfl 22 (by decide) (hts (.fieldLink RX6 64 "CornLawsModel" "cargoOut" "[I") wdX6_cargo_3) (fun _ h9 => h9) rfl dX6_cargo_54 ?_
        refine lv_aload_n hx hb dX6_cargo_57 rfl (lv_at hl 0 rfl) ?_
        refine va_get (D := D) (ci := 6) (v := .int (w.2.1 3)) (C := RX6) (T := TX6) (N := 34) hx hb hts inX6_cargo_6 hown hK hP 0 rfl rfl 19 (by decide) (hts (.fieldLink RX6 99 "CornLawsModel" "cargoes" "I") wdX6_cargo_0) (fun _ h9 => h9) rfl dX6_cargo_58 ?_
        refine lv_iconst (v := 0) hx hb dX6_cargo_61 (by decide) ?_
        refine va_iast (f := w.1 18) hx hb hK hP hD hS 19 0 rfl rfl hi6 dX6_cargo_62 (fun H locs hP hD hS => ?_)
        have hP : va_P D vwCl (wM cI q ((va_up (va_up (va_up w.1 16 (upd (w.1 16) ((w.2.1 3).toNatClampNeg) (p1))) 17 (upd (w.1 17) ((w.2.1 3).toNatClampNeg) (p2))) 18 (upd (w.1 18) ((w.2.1 3).toNatClampNeg) (0))), w.2.1, w.2.2)) H := hP
        have hD : va_D A (wM cI q ((va_up (va_up (va_up w.1 16 (upd (w.1 16) ((w.2.1 3).toNatClampNeg) (p1))) 17 (upd (w.1 17) ((w.2.1 3).toNatClampNeg) (p2))) 18 (upd (w.1 18) ((w.2.1 3).toNatClampNeg) (0))), w.2.1, w.2.2)) := hD
        refine lv_aload_n hx hb dX6_cargo_63 rfl (lv_at hl 0 rfl) ?_
        refine va_get (D := D) (ci := 6) (v := .ref (q 20)) (C := RX6) (T := TX6) (N := 34) hx hb hts inX6_cargo_6 hown hK hP 0 rfl rfl 23 (by decide) (hts (.fieldLink RX6 67 "CornLawsModel" "cargoShipped" "[I") wdX6_cargo_4) (fun _ h9 => h9) rfl dX6_cargo_64 ?_
        refine lv_aload_n hx hb dX6_cargo_67 rfl (lv_at hl 0 rfl) ?_
        refine va_get (D := D) (ci := 6) (v := .int (w.2.1 3)) (C := RX6) (T := TX6) (N := 34) hx hb hts inX6_cargo_6 hown hK hP 0 rfl rfl 19 (by decide) (hts (.fieldLink RX6 99 "CornLawsModel" "cargoes" "I") wdX6_cargo_0) (fun _ h9 => h9) rfl dX6_cargo_68 ?_
        refine lv_iconst (v := 0) hx hb dX6_cargo_71 (by decide) ?_
        refine va_iast (f := w.1 19) hx hb hK hP hD hS 20 0 rfl rfl hi6 dX6_cargo_72 (fun H locs hP hD hS => ?_)
        have hP : va_P D vwCl (wM cI q ((va_up (va_up (va_up (va_up w.1 16 (upd (w.1 16) ((w.2.1 3).toNatClampNeg) (p1))) 17 (upd (w.1 17) ((w.2.1 3).toNatClampNeg) (p2))) 18 (upd (w.1 18) ((w.2.1 3).toNatClampNeg) (0))) 19 (upd (w.1 19) ((w.2.1 3).toNatClampNeg) (0))), w.2.1, w.2.2)) H := hP
        have hD : va_D A (wM cI q ((va_up (va_up (va_up (va_up w.1 16 (upd (w.1 16) ((w.2.1 3).toNatClampNeg) (p1))) 17 (upd (w.1 17) ((w.2.1 3).toNatClampNeg) (p2))) 18 (upd (w.1 18) ((w.2.1 3).toNatClampNeg) (0))) 19 (upd (w.1 19) ((w.2.1 3).toNatClampNeg) (0))), w.2.1, w.2.2)) := hD
        refine lv_aload_n hx hb dX6_cargo_73 rfl (lv_at hl 0 rfl) ?_
        refine va_get (D := D) (ci := 6) (v := .ref (q 21)) (C := RX6) (T := TX6) (N := 34) hx hb hts inX6_cargo_6 hown hK hP 0 rfl rfl 24 (by decide) (hts (.fieldLink RX6 70 "CornLawsModel" "cargoSpoilt" "[I") wdX6_cargo_5) (fun _ h9 => h9) rfl dX6_cargo_74 ?_
        refine lv_aload_n hx hb dX6_cargo_77 rfl (lv_at hl 0 rfl) ?_
        refine va_get (D := D) (ci := 6) (v := .int (w.2.1 3)) (C := RX6) (T := TX6) (N := 34) hx hb hts inX6_cargo_6 hown hK hP 0 rfl rfl 19 (by decide) (hts (.fieldLink RX6 99 "CornLawsModel" "cargoes" "I") wdX6_cargo_0) (fun _ h9 => h9) rfl dX6_cargo_78 ?_
        refine lv_iconst (v := 0) hx hb dX6_cargo_81 (by decide) ?_
        refine va_iast (f := w.1 20) hx hb hK hP hD hS 21 0 rfl rfl hi6 dX6_cargo_82 (fun H locs hP hD hS => ?_)
        have hP : va_P D vwCl (wM cI q ((va_up (va_up (va_up (va_up (va_up w.1 16 (upd (w.1 16) ((w.2.1 3).toNatClampNeg) (p1))) 17 (upd (w.1 17) ((w.2.1 3).toNatClampNeg) (p2))) 18 (upd (w.1 18) ((w.2.1 3).toNatClampNeg) (0))) 19 (upd (w.1 19) ((w.2.1 3).toNatClampNeg) (0))) 20 (upd (w.1 20) ((w.2.1 3).toNatClampNeg) (0))), w.2.1, w.2.2)) H := hP
        have hD : va_D A (wM cI q ((va_up (va_up (va_up (va_up (va_up w.1 16 (upd (w.1 16) ((w.2.1 3).toNatClampNeg) (p1))) 17 (upd (w.1 17) ((w.2.1 3).toNatClampNeg) (p2))) 18 (upd (w.1 18) ((w.2.1 3).toNatClampNeg) (0))) 19 (upd (w.1 19) ((w.2.1 3).toNatClampNeg) (0))) 20 (upd (w.1 20) ((w.2.1 3).toNatClampNeg) (0))), w.2.1, w.2.2)) := hD
        refine lv_aload_n hx hb dX6_cargo_83 rfl (lv_at hl 0 rfl) ?_
        refine va_get (D := D) (ci := 6) (v := .ref (q 22)) (C := RX6) (T := TX6) (N := 34) hx hb hts inX6_cargo_6 hown hK hP 0 rfl rfl 25 (by decide) (hts (.fieldLink RX6 73 "CornLawsModel" "cargoWeek" "[I") wdX6_cargo_6) (fun _ h9 => h9) rfl dX6_cargo_84 ?_
        refine lv_aload_n hx hb dX6_cargo_87 rfl (lv_at hl 0 rfl) ?_
        refine va_get (D := D) (ci := 6) (v := .int (w.2.1 3)) (C := RX6) (T := TX6) (N := 34) hx hb hts inX6_cargo_6 hown hK hP 0 rfl rfl 19 (by decide) (hts (.fieldLink RX6 99 "CornLawsModel" "cargoes" "I") wdX6_cargo_0) (fun _ h9 => h9) rfl dX6_cargo_88 ?_
        refine lv_aload_n hx hb dX6_cargo_91 rfl (lv_at hl 0 rfl) ?_
        refine va_get (D := D) (ci := 6) (v := .int (w.2.1 0)) (C := RX6) (T := TX6) (N := 34) hx hb hts inX6_cargo_6 hown hK hP 0 rfl rfl 0 (by decide) (hts (.fieldLink RX6 96 "CornLawsModel" "week" "I") wdX6_cargo_7) (fun _ h9 => h9) rfl dX6_cargo_92 ?_
        refine va_iast (f := w.1 21) hx hb hK hP hD hS 22 0 rfl rfl hi6 dX6_cargo_95 (fun H locs hP hD hS => ?_)
        have hP : va_P D vwCl (wM cI q ((va_up (va_up (va_up (va_up (va_up (va_up w.1 16 (upd (w.1 16) ((w.2.1 3).toNatClampNeg) (p1))) 17 (upd (w.1 17) ((w.2.1 3).toNatClampNeg) (p2))) 18 (upd (w.1 18) ((w.2.1 3).toNatClampNeg) (0))) 19 (upd (w.1 19) ((w.2.1 3).toNatClampNeg) (0))) 20 (upd (w.1 20) ((w.2.1 3).toNatClampNeg) (0))) 21 (upd (w.1 21) ((w.2.1 3).toNatClampNeg) ((w.2.1 0)))), w.2.1, w.2.2)) H := hP
        have hD : va_D A (wM cI q ((va_up (va_up (va_up (va_up (va_up (va_up w.1 16 (upd (w.1 16) ((w.2.1 3).toNatClampNeg) (p1))) 17 (upd (w.1 17) ((w.2.1 3).toNatClampNeg) (p2))) 18 (upd (w.1 18) ((w.2.1 3).toNatClampNeg) (0))) 19 (upd (w.1 19) ((w.2.1 3).toNatClampNeg) (0))) 20 (upd (w.1 20) ((w.2.1 3).toNatClampNeg) (0))) 21 (upd (w.1 21) ((w.2.1 3).toNatClampNeg) ((w.2.1 0)))), w.2.1, w.2.2)) := hD
        refine lv_aload_n hx hb dX6_cargo_96 rfl (lv_at hl 0 rfl) ?_
        refine lv_dup hx hb dX6_cargo_97 rfl ?_
        refine va_get (D := D) (ci := 6) (v := .int (w.2.1 3)) (C := RX6) (T := TX6) (N := 34) hx hb hts inX6_cargo_6 hown hK hP 0 rfl rfl 19 (by decide) (hts (.fieldLink RX6 99 "CornLawsModel" "cargoes" "I") wdX6_cargo_0) (fun _ h9 => h9) rfl dX6_cargo_98 ?_
        refine lv_iconst (v := 1) hx hb dX6_cargo_101 (by decide) ?_
        refine lv_iadd hx hb dX6_cargo_102 ?_
        refine va_put (D := D) (ci := 6) (v := .int ((w.2.1 3) + 1)) (ty := .int) (C := RX6) (T := TX6) (N := 34) hx hb hts inX6_cargo_6 tyX6 tyX6_ok nmX6 hown hK hP hD hS 0 rfl rfl 19 (by decide) (hts (.fieldLink RX6 99 "CornLawsModel" "cargoes" "I") wdX6_cargo_0) (fun _ h9 => h9) rfl (by decide +kernel) rfl rfl (Nat.le_of_ble_eq_true rfl) dX6_cargo_103 (fun H locs hP hD hS => ?_)
        have hP : va_P D vwCl (wM cI q ((va_up (va_up (va_up (va_up (va_up (va_up w.1 16 (upd (w.1 16) ((w.2.1 3).toNatClampNeg) (p1))) 17 (upd (w.1 17) ((w.2.1 3).toNatClampNeg) (p2))) 18 (upd (w.1 18) ((w.2.1 3).toNatClampNeg) (0))) 19 (upd (w.1 19) ((w.2.1 3).toNatClampNeg) (0))) 20 (upd (w.1 20) ((w.2.1 3).toNatClampNeg) (0))) 21 (upd (w.1 21) ((w.2.1 3).toNatClampNeg) ((w.2.1 0)))), (upd w.2.1 3 (((w.2.1 3) + 1))), w.2.2)) H := hP
        have hD : va_D A (wM cI q ((va_up (va_up (va_up (va_up (va_up (va_up w.1 16 (upd (w.1 16) ((w.2.1 3).toNatClampNeg) (p1))) 17 (upd (w.1 17) ((w.2.1 3).toNatClampNeg) (p2))) 18 (upd (w.1 18) ((w.2.1 3).toNatClampNeg) (0))) 19 (upd (w.1 19) ((w.2.1 3).toNatClampNeg) (0))) 20 (upd (w.1 20) ((w.2.1 3).toNatClampNeg) (0))) 21 (upd (w.1 21) ((w.2.1 3).toNatClampNeg) ((w.2.1 0)))), (upd w.2.1 3 (((w.2.1 3) + 1))), w.2.2)) := hD
        refine lv_aload_n hx hb dX6_cargo_106 rfl (lv_at hl 0 rfl) ?_
        refine va_get (D := D) (ci := 6) (v := .int (((w.2.1 3) + 1))) (C := RX6) (T := TX6) (N := 34) hx hb hts inX6_cargo_6 hown hK hP 0 rfl rfl 19 (by decide) (hts (.fieldLink RX6 99 "CornLawsModel" "cargoes" "I") wdX6_cargo_0) (fun _ h9 => h9) rfl dX6_cargo_107 ?_
        refine lv_iconst (v := 1) hx hb dX6_cargo_110 (by decide) ?_
        refine lv_isub hx hb dX6_cargo_111 ?_
        exact W.iret (v := ((((w.2.1 3) + 1)) - 1)) hx hb hr (fun t ht hW => ⟨⟨((((w.2.1 3) + 1)) - 1), ((va_up (va_up (va_up (va_up (va_up (va_up w.1 16 (upd (w.1 16) ((w.2.1 3).toNatClampNeg) (p1))) 17 (upd (w.1 17) ((w.2.1 3).toNatClampNeg) (p2))) 18 (upd (w.1 18) ((w.2.1 3).toNatClampNeg) (0))) 19 (upd (w.1 19) ((w.2.1 3).toNatClampNeg) (0))) 20 (upd (w.1 20) ((w.2.1 3).toNatClampNeg) (0))) 21 (upd (w.1 21) ((w.2.1 3).toNatClampNeg) ((w.2.1 0)))), (upd w.2.1 3 (((w.2.1 3) + 1))), w.2.2), rfl, h, by show va_P D vwCl _ t.heap; rw [ht]; exact hP⟩, hS.F ht⟩) hS.2.2 dX6_cargo_112
      · replace h := h.2 c5
        refine lv_bipush (v := (-4)) hx hb dX6_cargo_30 (by decide) ?_
        exact W.iret (v := (-4)) hx hb hr (fun t ht hW => ⟨⟨(-4), w, rfl, h, by show va_P D vwCl _ t.heap; rw [ht]; exact hP⟩, hS.F ht⟩) hS.2.2 dX6_cargo_32
    · replace h := h.2 c4
      refine lv_bipush (v := (-2)) hx hb dX6_cargo_18 (by decide) ?_
      exact W.iret (v := (-2)) hx hb hr (fun t ht hW => ⟨⟨(-2), w, rfl, h, by show va_P D vwCl _ t.heap; rw [ht]; exact hP⟩, hS.F ht⟩) hS.2.2 dX6_cargo_20

/-! X6_isCargo -/
set_option maxRecDepth 20000 in
theorem wdX6_isCargo_0 : Cond.fieldLink RX6 99 "CornLawsModel" "cargoes" "I" ∈ wsX6_isCargo := by decide +kernel
set_option maxRecDepth 20000 in
theorem inX6_isCargo_6 : ∀ w ∈ wsX60, w ∈ wsX6_isCargo := by decide +kernel
set_option maxHeartbeats 4000000 in
set_option maxRecDepth 100000 in
theorem cX6_isCargo_ok (l : Launch) (D : va_G) (cI cII : ClassId) (q : Nat → Nat) (w : MS) (p1 : Int32) (post : Int32 → Prop) (h : wpX6_isCargo w p1 post) : Met l yX6_isCargo wsX6_isCargo ({ frames := 1, cells := 0, slots := 0, locals := 22 } : Room) (zPc [.ref (q 0), .int p1] D cI cII (wM cI q w)) (vp_Si post) 0 0 (fun _ => False) := by
  refine Met.ofW (cc := cX6_isCargo) (maxL := 2) (ret := (some .boolean)) (by decide) rfl ?_
  intro p e s m args below meth c s₁ B hml hv
  obtain ⟨rfl, hP, hK⟩ := hv
  have hx := B.exec
  have hb := B.bytes
  have hr := B.returns
  have hts := atoms_spec (ws := wsX6_isCargo) B.pre
  have hown : s.vm.findClass RX6 = some m.cls := findClass_of_methodNamed B.named
  have hlocks := B.notSynchronized
  have hl := lv_entry ([.ref (q 0), .int p1]) (n := 2) (Nat.le_of_ble_eq_true rfl)
  rw [lg_entry_eq]
  generalize (lg_sl ([.ref (q 0), .int p1]) ++ List.replicate (2 - (lg_sl ([.ref (q 0), .int p1])).length) Slot.unset).toArray = ls at hl ⊢
  have hl : lv_has ls 2 [(0, .ref (q 0)), (1, .int p1)] := hl
  unfold wpX6_isCargo at h
  refine lv_iload_n hx hb dX6_isCargo_0 rfl (lv_at hl 1 rfl) ?_
  refine lv_iconst (v := 0) hx hb dX6_isCargo_1 (by decide) ?_
  refine lv_aload_n hx hb dX6_isCargo_2 rfl (lv_at hl 0 rfl) ?_
  refine va_get (D := D) (ci := 6) (v := .int (w.2.1 3)) (C := RX6) (T := TX6) (N := 34) hx hb hts inX6_isCargo_6 hown hK hP 0 rfl rfl 19 (by decide) (hts (.fieldLink RX6 99 "CornLawsModel" "cargoes" "I") wdX6_isCargo_0) (fun _ h9 => h9) rfl dX6_isCargo_3 ?_
  refine lv_iconst (v := 1) hx hb dX6_isCargo_6 (by decide) ?_
  refine lv_isub hx hb dX6_isCargo_7 ?_
  refine vp_callSi (W.runS (As := [.int p1, .int 0, .int ((w.2.1 3) - 1)]) (rest := []) ⟨hx, hb, hml, hown, hts⟩ (cX6_in_ok l p1 0 ((w.2.1 3) - 1) _ h) (va_cwS 3 hts gX6_isCargo_X6_in rfl rfl rfl (by decide +kernel) ⟨Nat.le_of_ble_eq_true rfl, Nat.le_of_ble_eq_true rfl⟩) z_preS rfl rfl hl.1 rfl (lv_room (Nat.le_of_ble_eq_true rfl)) dX6_isCargo_8 ⟨Nat.le_of_ble_eq_true rfl, Nat.le_of_ble_eq_true rfl⟩) (fun r1 h => ?_)
  obtain ⟨hnar, h⟩ := h
  exact W.zret (v := r1) (ty := .boolean) hx hb hr hnar (fun t ht hW => ⟨r1, rfl, h, ht⟩) (fun _ h9 => by cases h9) dX6_isCargo_11

/-! X6_spoil -/
set_option maxRecDepth 20000 in
theorem wdX6_spoil_0 : Cond.fieldLink RX6 102 "CornLawsModel" "spoils" "I" ∈ wsX6_spoil := by decide +kernel
set_option maxRecDepth 20000 in
theorem inX6_spoil_6 : ∀ w ∈ wsX60, w ∈ wsX6_spoil := by decide +kernel
set_option maxHeartbeats 4000000 in
set_option maxRecDepth 100000 in
theorem cX6_spoil_ok (l : Launch) (D : va_G) (cI cII : ClassId) (q : Nat → Nat) (w : MS) (p1 : Int32) (post : Int32 → MS → Prop) (h : wpX6_spoil w p1 post) : Met l yX6_spoil wsX6_spoil ({ frames := 1, cells := 0, slots := 0, locals := 22 } : Room) (zPm [.ref (q 0), .int p1] D cI cII (wM cI q w)) (va_Qi post (fun (z : MS) (t : State) => va_P D vwCl (wM cI q z) t.heap) (z_in (wM cI q w))) 0 0 (z_in (wM cI q w)) := by
  refine Met.ofW (cc := cX6_spoil) (maxL := 3) (ret := (some .int)) (by decide) rfl ?_
  intro p e s m args below meth c s₁ B hml hv
  obtain ⟨rfl, hP, hK, hD0⟩ := hv
  have hx := B.exec
  have hb := B.bytes
  have hr := B.returns
  have hts := atoms_spec (ws := wsX6_spoil) B.pre
  have hown : s.vm.findClass RX6 = some m.cls := findClass_of_methodNamed B.named
  have hlocks := B.notSynchronized
  have hD := z_Dself hD0
  generalize hAe : z_in (wM cI q w) = A at hD ⊢
  have hS : va_S A s.heap s.heap [] := va_S.rf
  have hl := lv_entry ([.ref (q 0), .int p1]) (n := 3) (Nat.le_of_ble_eq_true rfl)
  rw [lg_entry_eq]
  generalize (lg_sl ([.ref (q 0), .int p1]) ++ List.replicate (3 - (lg_sl ([.ref (q 0), .int p1])).length) Slot.unset).toArray = ls at hl ⊢
  have hl : lv_has ls 3 [(0, .ref (q 0)), (1, .int p1)] := hl
  unfold wpX6_spoil at h
  refine lv_iload_n hx hb dX6_spoil_0 rfl (lv_at hl 1 rfl) ?_
  refine lv_iconst (v := 0) hx hb dX6_spoil_1 (by decide) ?_
  refine lv_bipush (v := 100) hx hb dX6_spoil_2 (by decide) ?_
  refine vp_callSi (W.runS (As := [.int p1, .int 0, .int 100]) (rest := []) ⟨hx, hb, hml, hown, hts⟩ (cX6_in_ok l p1 0 100 _ h) (va_cwS 3 hts gX6_spoil_X6_in rfl rfl rfl (by decide +kernel) ⟨Nat.le_of_ble_eq_true rfl, Nat.le_of_ble_eq_true rfl⟩) z_preS rfl rfl hl.1 rfl (lv_room (Nat.le_of_ble_eq_true rfl)) dX6_spoil_4 ⟨Nat.le_of_ble_eq_true rfl, Nat.le_of_ble_eq_true rfl⟩) (fun r1 h => ?_)
  refine lv_if_ne (tgt := 13) hx hb dX6_spoil_7 (by decide) (fun c2 => ?_) (fun c2 => ?_)
  · replace h := h.1 c2
    refine lv_aload_n hx hb dX6_spoil_13 rfl (lv_at hl 0 rfl) ?_
    refine va_get (D := D) (ci := 6) (v := .int (w.2.1 4)) (C := RX6) (T := TX6) (N := 34) hx hb hts inX6_spoil_6 hown hK hP 0 rfl rfl 26 (by decide) (hts (.fieldLink RX6 102 "CornLawsModel" "spoils" "I") wdX6_spoil_0) (fun _ h9 => h9) rfl dX6_spoil_14 ?_
    refine lv_istore_n (lv' := [(2, .int (w.2.1 4)), (0, .ref (q 0)), (1, .int p1)]) hx hb dX6_spoil_17 rfl hl (by decide) rfl (fun ls hl => ?_)
    refine lv_aload_n hx hb dX6_spoil_18 rfl (lv_at hl 1 rfl) ?_
    refine lv_iload_n hx hb dX6_spoil_19 rfl (lv_at hl 2 rfl) ?_
    refine va_put (D := D) (ci := 6) (v := .int p1) (ty := .int) (C := RX6) (T := TX6) (N := 34) hx hb hts inX6_spoil_6 tyX6 tyX6_ok nmX6 hown hK hP hD hS 0 rfl rfl 26 (by decide) (hts (.fieldLink RX6 102 "CornLawsModel" "spoils" "I") wdX6_spoil_0) (fun _ h9 => h9) rfl (by decide +kernel) rfl rfl (Nat.le_of_ble_eq_true rfl) dX6_spoil_20 (fun H locs hP hD hS => ?_)
    have hP : va_P D vwCl (wM cI q (w.1, (upd w.2.1 4 (p1)), w.2.2)) H := hP
    have hD : va_D A (wM cI q (w.1, (upd w.2.1 4 (p1)), w.2.2)) := hD
    refine lv_iload_n hx hb dX6_spoil_23 rfl (lv_at hl 0 rfl) ?_
    exact W.iret (v := (w.2.1 4)) hx hb hr (fun t ht hW => ⟨⟨(w.2.1 4), (w.1, (upd w.2.1 4 (p1)), w.2.2), rfl, h, by show va_P D vwCl _ t.heap; rw [ht]; exact hP⟩, hS.F ht⟩) hS.2.2 dX6_spoil_24
  · replace h := h.2 c2
    refine lv_bipush (v := (-2)) hx hb dX6_spoil_10 (by decide) ?_
    exact W.iret (v := (-2)) hx hb hr (fun t ht hW => ⟨⟨(-2), w, rfl, h, by show va_P D vwCl _ t.heap; rw [ht]; exact hP⟩, hS.F ht⟩) hS.2.2 dX6_spoil_12
