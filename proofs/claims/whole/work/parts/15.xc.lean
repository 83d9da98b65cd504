/-! X5_letOut -/
set_option maxRecDepth 20000 in
theorem wdX5_letOut_0 : Cond.fieldLink RX5 33 "CornLaws" "cargoes" "LCornLaws$Cargoes;" ∈ wsX5_letOut := by decide +kernel
set_option maxRecDepth 20000 in
theorem wdX5_letOut_1 : Cond.constantLong RX5 147 (-2) ∈ wsX5_letOut := by decide +kernel
set_option maxRecDepth 20000 in
theorem wdX5_letOut_2 : Cond.fieldLink RX5 149 "CornLaws$Cargoes" "inBond" "[I" ∈ wsX5_letOut := by decide +kernel
set_option maxRecDepth 20000 in
theorem wdX5_letOut_3 : Cond.fieldLink RX5 40 "CornLaws" "lettings" "LCornLaws$Lettings;" ∈ wsX5_letOut := by decide +kernel
set_option maxRecDepth 20000 in
theorem wdX5_letOut_4 : Cond.fieldLink RX5 154 "CornLaws$Lettings" "size" "I" ∈ wsX5_letOut := by decide +kernel
set_option maxRecDepth 20000 in
theorem wdX5_letOut_5 : Cond.fieldLink RX5 157 "CornLaws$Cargoes" "grain" "[I" ∈ wsX5_letOut := by decide +kernel
set_option maxRecDepth 20000 in
theorem wdX5_letOut_6 : Cond.fieldLink RX5 48 "CornLaws" "now" "I" ∈ wsX5_letOut := by decide +kernel
set_option maxRecDepth 20000 in
theorem wdX5_letOut_7 : Cond.fieldLink RX5 158 "CornLaws$Cargoes" "out" "[I" ∈ wsX5_letOut := by decide +kernel
set_option maxRecDepth 20000 in
theorem wdX5_letOut_8 : Cond.fieldLink RX5 164 "CornLaws" "paid" "J" ∈ wsX5_letOut := by decide +kernel
set_option maxRecDepth 20000 in
theorem wdX5_letOut_9 : Cond.constantLong RX5 155 (-4) ∈ wsX5_letOut := by decide +kernel
set_option maxRecDepth 20000 in
theorem wdX5_letOut_10 : Cond.constantLong RX5 152 (-3) ∈ wsX5_letOut := by decide +kernel
set_option maxRecDepth 20000 in
theorem inX5_letOut_5 : ∀ w ∈ wsX50, w ∈ wsX5_letOut := by decide +kernel
set_option maxRecDepth 20000 in
theorem inX5_letOut_0 : ∀ w ∈ wsX00, w ∈ wsX5_letOut := by decide +kernel
set_option maxRecDepth 20000 in
theorem inX5_letOut_2 : ∀ w ∈ wsX20, w ∈ wsX5_letOut := by decide +kernel
set_option maxHeartbeats 4000000 in
set_option maxRecDepth 100000 in
theorem cX5_letOut_ok (l : Launch) (D : va_G) (cI cII : ClassId) (q : Nat → Nat → Nat) (u : XS) (p1 : Int32) (p2 : Int32) (post : Int64 → XS → Prop) (h : wpX5_letOut u p1 p2 post) : Met l yX5_letOut wsX5_letOut ({ frames := 4, cells := 0, slots := 0, locals := 103 } : Room) (zPm [.ref (q 0 0), .int p1, .int p2] D cI cII (wX cI cII q u)) (va_Ql post (fun (z : XS) (t : State) => va_P D vwCl (wX cI cII q z) t.heap) (z_in (wX cI cII q u))) 0 0 (z_in (wX cI cII q u)) := by
  refine Met.ofW (cc := cX5_letOut) (maxL := 6) (ret := (some .long)) (by decide) rfl ?_
  intro p e s m args below meth c s₁ B hml hv
  obtain ⟨rfl, hP, hK, hD0⟩ := hv
  have hx := B.exec
  have hb := B.bytes
  have hr := B.returns
  have hts := atoms_spec (ws := wsX5_letOut) B.pre
  have hown : s.vm.findClass RX5 = some m.cls := findClass_of_methodNamed B.named
  have hlocks := B.notSynchronized
  have hD := z_Dself hD0
  generalize hAe : z_in (wX cI cII q u) = A at hD ⊢
  have hS : va_S A s.heap s.heap [] := va_S.rf
  have hl := lv_entry ([.ref (q 0 0), .int p1, .int p2]) (n := 6) (Nat.le_of_ble_eq_true rfl)
  rw [lg_entry_eq]
  generalize (lg_sl ([.ref (q 0 0), .int p1, .int p2]) ++ List.replicate (6 - (lg_sl ([.ref (q 0 0), .int p1, .int p2])).length) Slot.unset).toArray = ls at hl ⊢
  have hl : lv_has ls 6 [(0, .ref (q 0 0)), (1, .int p1), (2, .int p2)] := hl
  unfold wpX5_letOut at h
  refine lv_aload_n hx hb dX5_letOut_0 rfl (lv_at hl 0 rfl) ?_
  refine va_get (D := D) (ci := 5) (v := .ref (q 4 0)) (C := RX5) (T := TX5) (N := 8) hx hb hts inX5_letOut_5 hown hK hP 0 rfl rfl 3 (by decide) (hts (.fieldLink RX5 33 "CornLaws" "cargoes" "LCornLaws$Cargoes;") wdX5_letOut_0) (fun _ h9 => h9) rfl dX5_letOut_1 ?_
  refine lv_iload_n hx hb dX5_letOut_4 rfl (lv_at hl 1 rfl) ?_
  refine vp_callSi (W.runV (C := RX0) (As := [.int p1]) (rest := []) ⟨hx, hb, hml, hown, hts⟩ (cX0_has_ok l D cI cII (q 4) u.2.2.2.1 p1 _ h) (cwV 1 hts gX5_letOut_X0_has rfl rfl rfl (by decide +kernel) ⟨Nat.le_of_ble_eq_true rfl, Nat.le_of_ble_eq_true rfl⟩) (z_preV hK (z_XC (cII := cII) (u := u) hP) rfl rfl) rfl rfl hl.1 rfl (lv_room (Nat.le_of_ble_eq_true rfl)) dX5_letOut_5 ⟨Nat.le_of_ble_eq_true rfl, Nat.le_of_ble_eq_true rfl⟩) (fun r1 h => ?_)
  refine lv_if_eq (tgt := 22) hx hb dX5_letOut_8 (by decide) (fun c2 => ?_) (fun c2 => ?_)
  · replace h := h.1 c2
    refine lv_ldc2 (v := (-2)) hx hb hown (hts (.constantLong RX5 147 (-2)) wdX5_letOut_1) dX5_letOut_22 ?_
    exact W.lret (v := (-2)) hx hb hr (fun t ht hW => ⟨⟨(-2), u, rfl, h, by show va_P D vwCl _ t.heap; rw [ht]; exact hP⟩, hS.F ht⟩) hS.2.2 dX5_letOut_25
  · replace h := h.2 c2
    refine lv_iload_n hx hb dX5_letOut_11 rfl (lv_at hl 2 rfl) ?_
    refine lv_iconst (v := 1) hx hb dX5_letOut_12 (by decide) ?_
    refine lv_sipush (v := 10000) hx hb dX5_letOut_13 (by decide) ?_
    refine vp_callSi (W.runS (As := [.int p2, .int 1, .int 10000]) (rest := []) ⟨hx, hb, hml, hown, hts⟩ (cX5_isOutside_ok l p2 1 10000 _ h) (va_cwS 3 hts gX5_letOut_X5_isOutside rfl rfl rfl (by decide +kernel) ⟨Nat.le_of_ble_eq_true rfl, Nat.le_of_ble_eq_true rfl⟩) z_preS rfl rfl hl.1 rfl (lv_room (Nat.le_of_ble_eq_true rfl)) dX5_letOut_16 ⟨Nat.le_of_ble_eq_true rfl, Nat.le_of_ble_eq_true rfl⟩) (fun r3 h => ?_)
    refine lv_if_eq (tgt := 26) hx hb dX5_letOut_19 (by decide) (fun c4 => ?_) (fun c4 => ?_)
    · replace h := h.1 c4
      refine lv_iload_n hx hb dX5_letOut_26 rfl (lv_at hl 2 rfl) ?_
      refine lv_aload_n hx hb dX5_letOut_27 rfl (lv_at hl 0 rfl) ?_
      refine va_get (D := D) (ci := 5) (v := .ref (q 4 0)) (C := RX5) (T := TX5) (N := 8) hx hb hts inX5_letOut_5 hown hK hP 0 rfl rfl 3 (by decide) (hts (.fieldLink RX5 33 "CornLaws" "cargoes" "LCornLaws$Cargoes;") wdX5_letOut_0) (fun _ h9 => h9) rfl dX5_letOut_28 ?_
      refine va_get (D := D) (ci := 0) (v := .ref (q 4 2)) (C := RX0) (T := TX0) (N := 7) hx hb hts inX5_letOut_0 hown hK hP 36 rfl rfl 1 (by decide) (hts (.fieldLink RX5 149 "CornLaws$Cargoes" "inBond" "[I") wdX5_letOut_2) (fun _ h9 => h9) rfl dX5_letOut_31 ?_
      refine lv_iload_n hx hb dX5_letOut_34 rfl (lv_at hl 1 rfl) ?_
      obtain ⟨hi5, h⟩ := h
      refine va_iald (f := u.2.2.2.1 1) hx hb hK hP 38 0 rfl rfl hi5 dX5_letOut_35 ?_
      refine lv_icmp_le (tgt := 43) hx hb dX5_letOut_36 (by decide) (fun c6 => ?_) (fun c6 => ?_)
      · replace h := h.1 c6
        refine lv_aload_n hx hb dX5_letOut_43 rfl (lv_at hl 0 rfl) ?_
        refine va_get (D := D) (ci := 5) (v := .ref (q 5 0)) (C := RX5) (T := TX5) (N := 8) hx hb hts inX5_letOut_5 hown hK hP 0 rfl rfl 4 (by decide) (hts (.fieldLink RX5 40 "CornLaws" "lettings" "LCornLaws$Lettings;") wdX5_letOut_3) (fun _ h9 => h9) rfl dX5_letOut_44 ?_
        refine va_get (D := D) (ci := 2) (v := .int (u.2.2.2.2.1 9 0)) (C := RX2) (T := TX2) (N := 4) hx hb hts inX5_letOut_2 hown hK hP 43 rfl rfl 3 (by decide) (hts (.fieldLink RX5 154 "CornLaws$Lettings" "size" "I") wdX5_letOut_4) (fun _ h9 => h9) rfl dX5_letOut_47 ?_
        refine lv_bipush (v := 100) hx hb dX5_letOut_50 (by decide) ?_
        refine lv_icmp_lt (tgt := 59) hx hb dX5_letOut_52 (by decide) (fun c7 => ?_) (fun c7 => ?_)
        · replace h := h.1 c7
          refine lv_aload_n hx hb dX5_letOut_59 rfl (lv_at hl 0 rfl) ?_
          refine va_get (D := D) (ci := 5) (v := .ref (q 4 0)) (C := RX5) (T := TX5) (N := 8) hx hb hts inX5_letOut_5 hown hK hP 0 rfl rfl 3 (by decide) (hts (.fieldLink RX5 33 "CornLaws" "cargoes" "LCornLaws$Cargoes;") wdX5_letOut_0) (fun _ h9 => h9) rfl dX5_letOut_60 ?_
          refine va_get (D := D) (ci := 0) (v := .ref (q 4 1)) (C := RX0) (T := TX0) (N := 7) hx hb hts inX5_letOut_0 hown hK hP 36 rfl rfl 0 (by decide) (hts (.fieldLink RX5 157 "CornLaws$Cargoes" "grain" "[I") wdX5_letOut_5) (fun _ h9 => h9) rfl dX5_letOut_63 ?_
          refine lv_iload_n hx hb dX5_letOut_66 rfl (lv_at hl 1 rfl) ?_
          refine va_iald (f := u.2.2.2.1 0) hx hb hK hP 37 0 rfl rfl hi5 dX5_letOut_67 ?_
          refine lv_istore_n (lv' := [(3, .int (u.2.2.2.1 0 p1.toNatClampNeg)), (0, .ref (q 0 0)), (1, .int p1), (2, .int p2)]) hx hb dX5_letOut_68 rfl hl (by decide) rfl (fun ls hl => ?_)
          refine lv_iload_n hx hb dX5_letOut_69 rfl (lv_at hl 3 rfl) ?_
          refine lv_i2l (v := p2.toInt64) hx hb dX5_letOut_70 rfl ?_
          refine lv_aload_n hx hb dX5_letOut_71 rfl (lv_at hl 1 rfl) ?_
          refine lv_iload_n hx hb dX5_letOut_72 rfl (lv_at hl 0 rfl) ?_
          refine lv_aload_n hx hb dX5_letOut_73 rfl (lv_at hl 1 rfl) ?_
          refine va_get (D := D) (ci := 5) (v := .int (u.2.2.2.2.2.1 0)) (C := RX5) (T := TX5) (N := 8) hx hb hts inX5_letOut_5 hown hK hP 0 rfl rfl 5 (by decide) (hts (.fieldLink RX5 48 "CornLaws" "now" "I") wdX5_letOut_6) (fun _ h9 => h9) rfl dX5_letOut_74 ?_
          refine lv_iconst (v := (-1)) hx hb dX5_letOut_77 (by decide) ?_
          refine lv_iconst (v := (-1)) hx hb dX5_letOut_78 (by decide) ?_
          refine vp_callSi (W.runV (C := RX5) (As := [.int (u.2.2.2.1 0 p1.toNatClampNeg), .int (u.2.2.2.2.2.1 0), .int (-1), .int (-1)]) (rest := [.long p2.toInt64]) ⟨hx, hb, hml, hown, hts⟩ (cX5_dutyAt_ok l D cI cII q u (u.2.2.2.1 0 p1.toNatClampNeg) (u.2.2.2.2.2.1 0) (-1) (-1) _ h) (cwV 4 hts gX5_letOut_X5_dutyAt rfl rfl rfl (by decide +kernel) ⟨Nat.le_of_ble_eq_true rfl, Nat.le_of_ble_eq_true rfl⟩) (z_preV hK hP rfl rfl) rfl rfl hl.1 rfl (lv_room (Nat.le_of_ble_eq_true rfl)) dX5_letOut_79 ⟨Nat.le_of_ble_eq_true rfl, Nat.le_of_ble_eq_true rfl⟩) (fun r8 h => ?_)
          refine lv_i2l (v := r8.toInt64) hx hb dX5_letOut_82 rfl ?_
          refine lv_lmul hx hb dX5_letOut_83 ?_
          refine lv_lstore (lv' := [(4, .long (p2.toInt64 * r8.toInt64)), (3, .int (u.2.2.2.1 0 p1.toNatClampNeg)), (0, .ref (q 0 0)), (1, .int p1), (2, .int p2)]) hx hb dX5_letOut_84 hl (by decide) rfl (fun ls hl => ?_)
          refine lv_aload_n hx hb dX5_letOut_86 rfl (lv_at hl 2 rfl) ?_
          refine va_get (D := D) (ci := 5) (v := .ref (q 4 0)) (C := RX5) (T := TX5) (N := 8) hx hb hts inX5_letOut_5 hown hK hP 0 rfl rfl 3 (by decide) (hts (.fieldLink RX5 33 "CornLaws" "cargoes" "LCornLaws$Cargoes;") wdX5_letOut_0) (fun _ h9 => h9) rfl dX5_letOut_87 ?_
          refine va_get (D := D) (ci := 0) (v := .ref (q 4 2)) (C := RX0) (T := TX0) (N := 7) hx hb hts inX5_letOut_0 hown hK hP 36 rfl rfl 1 (by decide) (hts (.fieldLink RX5 149 "CornLaws$Cargoes" "inBond" "[I") wdX5_letOut_2) (fun _ h9 => h9) rfl dX5_letOut_90 ?_
          refine lv_iload_n hx hb dX5_letOut_93 rfl (lv_at hl 3 rfl) ?_
          refine lv_dup2_11 hx hb dX5_letOut_94 rfl rfl ?_
          refine va_iald (f := u.2.2.2.1 1) hx hb hK hP 38 0 rfl rfl hi5 dX5_letOut_95 ?_
          refine lv_iload_n hx hb dX5_letOut_96 rfl (lv_at hl 4 rfl) ?_
          refine lv_isub hx hb dX5_letOut_97 ?_
          refine va_iast (f := u.2.2.2.1 1) hx hb hK hP hD hS 38 0 rfl rfl hi5 dX5_letOut_98 (fun H locs hP hD hS => ?_)
          have hP : va_P D vwCl (wX cI cII q (u.1, u.2.1, u.2.2.1, (va_up u.2.2.2.1 1 (upd (u.2.2.2.1 1) (p1.toNatClampNeg) (((u.2.2.2.1 1 p1.toNatClampNeg) - p2)))), u.2.2.2.2.1, u.2.2.2.2.2.1, u.2.2.2.2.2.2)) H := hP
          have hD : va_D A (wX cI cII q (u.1, u.2.1, u.2.2.1, (va_up u.2.2.2.1 1 (upd (u.2.2.2.1 1) (p1.toNatClampNeg) (((u.2.2.2.1 1 p1.toNatClampNeg) - p2)))), u.2.2.2.2.1, u.2.2.2.2.2.1, u.2.2.2.2.2.2)) := hD
          refine lv_aload_n hx hb dX5_letOut_99 rfl (lv_at hl 2 rfl) ?_
          refine va_get (D := D) (ci := 5) (v := .ref (q 4 0)) (C := RX5) (T := TX5) (N := 8) hx hb hts inX5_letOut_5 hown hK hP 0 rfl rfl 3 (by decide) (hts (.fieldLink RX5 33 "CornLaws" "cargoes" "LCornLaws$Cargoes;") wdX5_letOut_0) (fun _ h9 => h9) rfl dX5_letOut_100 ?_
          refine va_get (D := D) (ci := 0) (v := .ref (q 4 3)) (C := RX0) (T := TX0) (N := 7) hx hb hts inX5_letOut_0 hown hK hP 36 rfl rfl 2 (by decide) (hts (.fieldLink RX5 158 "CornLaws$Cargoes" "out" "[I") wdX5_letOut_7) (fun _ h9 => h9) rfl dX5_letOut_103 ?_
          refine lv_iload_n hx hb dX5_letOut_106 rfl (lv_at hl 3 rfl) ?_
          refine lv_dup2_11 hx hb dX5_letOut_107 rfl rfl ?_
          refine va_iald (f := u.2.2.2.1 2) hx hb hK hP 39 0 rfl rfl hi5 dX5_letOut_108 ?_
          refine lv_iload_n hx hb dX5_letOut_109 rfl (lv_at hl 4 rfl) ?_
          refine lv_iadd hx hb dX5_letOut_110 ?_
          refine va_iast (f := u.2.2.2.1 2) hx hb hK hP hD hS 39 0 rfl rfl hi5 dX5_letOut_111 (fun H locs hP hD hS => ?_)
          have hP : va_P D vwCl (wX cI cII q (u.1, u.2.1, u.2.2.1, (va_up (va_up u.2.2.2.1 1 (upd (u.2.2.2.1 1) (p1.toNatClampNeg) (((u.2.2.2.1 1 p1.toNatClampNeg) - p2)))) 2 (upd (u.2.2.2.1 2) (p1.toNatClampNeg) (((u.2.2.2.1 2 p1.toNatClampNeg) + p2)))), u.2.2.2.2.1, u.2.2.2.2.2.1, u.2.2.2.2.2.2)) H := hP
          have hD : va_D A (wX cI cII q (u.1, u.2.1, u.2.2.1, (va_up (va_up u.2.2.2.1 1 (upd (u.2.2.2.1 1) (p1.toNatClampNeg) (((u.2.2.2.1 1 p1.toNatClampNeg) - p2)))) 2 (upd (u.2.2.2.1 2) (p1.toNatClampNeg) (((u.2.2.2.1 2 p1.toNatClampNeg) + p2)))), u.2.2.2.2.1, u.2.2.2.2.2.1, u.2.2.2.2.2.2)) := hD
          refine lv_aload_n hx hb dX5_letOut_112 rfl (lv_at hl 2 rfl) ?_
          refine va_get (D := D) (ci := 5) (v := .ref (q 5 0)) (C := RX5) (T := TX5) (N := 8) hx hb hts inX5_letOut_5 hown hK hP 0 rfl rfl 4 (by decide) (hts (.fieldLink RX5 40 "CornLaws" "lettings" "LCornLaws$Lettings;") wdX5_letOut_3) (fun _ h9 => h9) rfl dX5_letOut_113 ?_
          refine lv_iload_n hx hb dX5_letOut_116 rfl (lv_at hl 1 rfl) ?_
          refine lv_iload_n hx hb dX5_letOut_117 rfl (lv_at hl 4 rfl) ?_
          refine lv_aload_n hx hb dX5_letOut_118 rfl (lv_at hl 2 rfl) ?_
          refine va_get (D := D) (ci := 5) (v := .int (u.2.2.2.2.2.1 0)) (C := RX5) (T := TX5) (N := 8) hx hb hts inX5_letOut_5 hown hK hP 0 rfl rfl 5 (by decide) (hts (.fieldLink RX5 48 "CornLaws" "now" "I") wdX5_letOut_6) (fun _ h9 => h9) rfl dX5_letOut_119 ?_
          refine va_callv (va_runV (C := RX2) (As := [.int (u.2.2.2.1 0 p1.toNatClampNeg), .int p2, .int (u.2.2.2.2.2.1 0)]) (rest := []) ⟨hx, hb, hml, hown, hts⟩ (cX2_add_ok l D cI cII (q 5) u.2.2.2.2.1 (u.2.2.2.1 0 p1.toNatClampNeg) p2 (u.2.2.2.2.2.1 0) _ h) (cwV 3 hts gX5_letOut_X2_add rfl rfl rfl (by decide +kernel) ⟨Nat.le_of_ble_eq_true rfl, Nat.le_of_ble_eq_true rfl⟩) (z_preVm hK (z_XL (cII := cII) (u := (u.1, u.2.1, u.2.2.1, (va_up (va_up u.2.2.2.1 1 (upd (u.2.2.2.1 1) (p1.toNatClampNeg) (((u.2.2.2.1 1 p1.toNatClampNeg) - p2)))) 2 (upd (u.2.2.2.1 2) (p1.toNatClampNeg) (((u.2.2.2.1 2 p1.toNatClampNeg) + p2)))), u.2.2.2.2.1, u.2.2.2.2.2.1, u.2.2.2.2.2.2)) hP) (z_DXL (cII := cII) (u := (u.1, u.2.1, u.2.2.1, (va_up (va_up u.2.2.2.1 1 (upd (u.2.2.2.1 1) (p1.toNatClampNeg) (((u.2.2.2.1 1 p1.toNatClampNeg) - p2)))) 2 (upd (u.2.2.2.1 2) (p1.toNatClampNeg) (((u.2.2.2.1 2 p1.toNatClampNeg) + p2)))), u.2.2.2.2.1, u.2.2.2.2.2.1, u.2.2.2.2.2.2)) hD) rfl rfl) rfl rfl hl.1 rfl (lv_room (Nat.le_of_ble_eq_true rfl)) dX5_letOut_122 ⟨Nat.le_of_ble_eq_true rfl, Nat.le_of_ble_eq_true rfl⟩) hS (fun x9 _ h9 => z_sub (z_DXL (cII := cII) (u := (u.1, u.2.1, u.2.2.1, (va_up (va_up u.2.2.2.1 1 (upd (u.2.2.2.1 1) (p1.toNatClampNeg) (((u.2.2.2.1 1 p1.toNatClampNeg) - p2)))) 2 (upd (u.2.2.2.1 2) (p1.toNatClampNeg) (((u.2.2.2.1 2 p1.toNatClampNeg) + p2)))), u.2.2.2.2.1, u.2.2.2.2.2.1, u.2.2.2.2.2.2)) hD) x9 h9) (z_sub (z_DXL (cII := cII) (u := (u.1, u.2.1, u.2.2.1, (va_up (va_up u.2.2.2.1 1 (upd (u.2.2.2.1 1) (p1.toNatClampNeg) (((u.2.2.2.1 1 p1.toNatClampNeg) - p2)))) 2 (upd (u.2.2.2.1 2) (p1.toNatClampNeg) (((u.2.2.2.1 2 p1.toNatClampNeg) + p2)))), u.2.2.2.2.1, u.2.2.2.2.2.1, u.2.2.2.2.2.2)) hD)) (fun a9 t H1 locs ht hvm h hB hz1 hk1 hS => ?_)
          have hB : va_P D vwCl (wL cI (q 5) a9) t.heap := hB
          rw [ht] at hB
          have hP := z_jL (u := (u.1, u.2.1, u.2.2.1, (va_up (va_up u.2.2.2.1 1 (upd (u.2.2.2.1 1) (p1.toNatClampNeg) (((u.2.2.2.1 1 p1.toNatClampNeg) - p2)))) 2 (upd (u.2.2.2.1 2) (p1.toNatClampNeg) (((u.2.2.2.1 2 p1.toNatClampNeg) + p2)))), u.2.2.2.2.1, u.2.2.2.2.2.1, u.2.2.2.2.2.2)) hP hD hk1 hB
          generalize H1 = H at hP hS ⊢
          have hP : va_P D vwCl (wX cI cII q (u.1, u.2.1, u.2.2.1, (va_up (va_up u.2.2.2.1 1 (upd (u.2.2.2.1 1) (p1.toNatClampNeg) (((u.2.2.2.1 1 p1.toNatClampNeg) - p2)))) 2 (upd (u.2.2.2.1 2) (p1.toNatClampNeg) (((u.2.2.2.1 2 p1.toNatClampNeg) + p2)))), a9, u.2.2.2.2.2.1, u.2.2.2.2.2.2)) H := hP
          have hD : va_D A (wX cI cII q (u.1, u.2.1, u.2.2.1, (va_up (va_up u.2.2.2.1 1 (upd (u.2.2.2.1 1) (p1.toNatClampNeg) (((u.2.2.2.1 1 p1.toNatClampNeg) - p2)))) 2 (upd (u.2.2.2.1 2) (p1.toNatClampNeg) (((u.2.2.2.1 2 p1.toNatClampNeg) + p2)))), a9, u.2.2.2.2.2.1, u.2.2.2.2.2.2)) := z_Dmap hD rfl
          refine lv_aload_n hx hb dX5_letOut_125 rfl (lv_at hl 2 rfl) ?_
          refine lv_dup hx hb dX5_letOut_126 rfl ?_
          refine va_get (D := D) (ci := 5) (v := .long (u.2.2.2.2.2.2)) (C := RX5) (T := TX5) (N := 8) hx hb hts inX5_letOut_5 hown hK hP 0 rfl rfl 7 (by decide) (hts (.fieldLink RX5 164 "CornLaws" "paid" "J") wdX5_letOut_8) (fun _ h9 => h9) rfl dX5_letOut_127 ?_
          refine lv_lload hx hb dX5_letOut_130 (lv_at hl 0 rfl) ?_
          refine lv_ladd hx hb dX5_letOut_132 ?_
          refine va_put (D := D) (ci := 5) (v := .long ((u.2.2.2.2.2.2) + (p2.toInt64 * r8.toInt64))) (ty := .long) (C := RX5) (T := TX5) (N := 8) hx hb hts inX5_letOut_5 tyX5 tyX5_ok nmX5 hown hK hP hD hS 0 rfl rfl 7 (by decide) (hts (.fieldLink RX5 164 "CornLaws" "paid" "J") wdX5_letOut_8) (fun _ h9 => h9) rfl (by decide +kernel) rfl rfl (Nat.le_of_ble_eq_true rfl) dX5_letOut_133 (fun H locs hP hD hS => ?_)
          have hP : va_P D vwCl (wX cI cII q (u.1, u.2.1, u.2.2.1, (va_up (va_up u.2.2.2.1 1 (upd (u.2.2.2.1 1) (p1.toNatClampNeg) (((u.2.2.2.1 1 p1.toNatClampNeg) - p2)))) 2 (upd (u.2.2.2.1 2) (p1.toNatClampNeg) (((u.2.2.2.1 2 p1.toNatClampNeg) + p2)))), a9, u.2.2.2.2.2.1, (((u.2.2.2.2.2.2) + (p2.toInt64 * r8.toInt64))))) H := hP
          have hD : va_D A (wX cI cII q (u.1, u.2.1, u.2.2.1, (va_up (va_up u.2.2.2.1 1 (upd (u.2.2.2.1 1) (p1.toNatClampNeg) (((u.2.2.2.1 1 p1.toNatClampNeg) - p2)))) 2 (upd (u.2.2.2.1 2) (p1.toNatClampNeg) (((u.2.2.2.1 2 p1.toNatClampNeg) + p2)))), a9, u.2.2.2.2.2.1, (((u.2.2.2.2.2.2) + (p2.toInt64 * r8.toInt64))))) := hD
          refine lv_lload hx hb dX5_letOut_136 (lv_at hl 0 rfl) ?_
          exact W.lret (v := (p2.toInt64 * r8.toInt64)) hx hb hr (fun t ht hW => ⟨⟨(p2.toInt64 * r8.toInt64), (u.1, u.2.1, u.2.2.1, (va_up (va_up u.2.2.2.1 1 (upd (u.2.2.2.1 1) (p1.toNatClampNeg) (((u.2.2.2.1 1 p1.toNatClampNeg) - p2)))) 2 (upd (u.2.2.2.1 2) (p1.toNatClampNeg) (((u.2.2.2.1 2 p1.toNatClampNeg) + p2)))), a9, u.2.2.2.2.2.1, (((u.2.2.2.2.2.2) + (p2.toInt64 * r8.toInt64)))), rfl, h, by show va_P D vwCl _ t.heap; rw [ht]; exact hP⟩, hS.F ht⟩) hS.2.2 dX5_letOut_138
        · replace h := h.2 c7
          refine lv_ldc2 (v := (-4)) hx hb hown (hts (.constantLong RX5 155 (-4)) wdX5_letOut_9) dX5_letOut_55 ?_
          exact W.lret (v := (-4)) hx hb hr (fun t ht hW => ⟨⟨(-4), u, rfl, h, by show va_P D vwCl _ t.heap; rw [ht]; exact hP⟩, hS.F ht⟩) hS.2.2 dX5_letOut_58
      · replace h := h.2 c6
        refine lv_ldc2 (v := (-3)) hx hb hown (hts (.constantLong RX5 152 (-3)) wdX5_letOut_10) dX5_letOut_39 ?_
        exact W.lret (v := (-3)) hx hb hr (fun t ht hW => ⟨⟨(-3), u, rfl, h, by show va_P D vwCl _ t.heap; rw [ht]; exact hP⟩, hS.F ht⟩) hS.2.2 dX5_letOut_42
    · replace h := h.2 c4
      refine lv_ldc2 (v := (-2)) hx hb hown (hts (.constantLong RX5 147 (-2)) wdX5_letOut_1) dX5_letOut_22 ?_
      exact W.lret (v := (-2)) hx hb hr (fun t ht hW => ⟨⟨(-2), u, rfl, h, by show va_P D vwCl _ t.heap; rw [ht]; exact hP⟩, hS.F ht⟩) hS.2.2 dX5_letOut_25

/-! X5_ship -/
set_option maxRecDepth 20000 in
theorem wdX5_ship_0 : Cond.fieldLink RX5 33 "CornLaws" "cargoes" "LCornLaws$Cargoes;" ∈ wsX5_ship := by decide +kernel
set_option maxRecDepth 20000 in
theorem wdX5_ship_1 : Cond.fieldLink RX5 149 "CornLaws$Cargoes" "inBond" "[I" ∈ wsX5_ship := by decide +kernel
set_option maxRecDepth 20000 in
theorem wdX5_ship_2 : Cond.fieldLink RX5 168 "CornLaws$Cargoes" "shipped" "[I" ∈ wsX5_ship := by decide +kernel
set_option maxRecDepth 20000 in
theorem inX5_ship_5 : ∀ w ∈ wsX50, w ∈ wsX5_ship := by decide +kernel
set_option maxRecDepth 20000 in
theorem inX5_ship_0 : ∀ w ∈ wsX00, w ∈ wsX5_ship := by decide +kernel
set_option maxHeartbeats 4000000 in
set_option maxRecDepth 100000 in
theorem cX5_ship_ok (l : Launch) (D : va_G) (cI cII : ClassId) (q : Nat → Nat → Nat) (u : XS) (p1 : Int32) (p2 : Int32) (post : Int32 → XS → Prop) (h : wpX5_ship u p1 p2 post) : Met l yX5_ship wsX5_ship ({ frames := 1, cells := 0, slots := 0, locals := 22 } : Room) (zPm [.ref (q 0 0), .int p1, .int p2] D cI cII (wX cI cII q u)) (va_Qi post (fun (z : XS) (t : State) => va_P D vwCl (wX cI cII q z) t.heap) (z_in (wX cI cII q u))) 0 0 (z_in (wX cI cII q u)) := by
  refine Met.ofW (cc := cX5_ship) (maxL := 3) (ret := (some .int)) (by decide) rfl ?_
  intro p e s m args below meth c s₁ B hml hv
  obtain ⟨rfl, hP, hK, hD0⟩ := hv
  have hx := B.exec
  have hb := B.bytes
  have hr := B.returns
  have hts := atoms_spec (ws := wsX5_ship) B.pre
  have hown : s.vm.findClass RX5 = some m.cls := findClass_of_methodNamed B.named
  have hlocks := B.notSynchronized
  have hD := z_Dself hD0
  generalize hAe : z_in (wX cI cII q u) = A at hD ⊢
  have hS : va_S A s.heap s.heap [] := va_S.rf
  have hl := lv_entry ([.ref (q 0 0), .int p1, .int p2]) (n := 3) (Nat.le_of_ble_eq_true rfl)
  rw [lg_entry_eq]
  generalize (lg_sl ([.ref (q 0 0), .int p1, .int p2]) ++ List.replicate (3 - (lg_sl ([.ref (q 0 0), .int p1, .int p2])).length) Slot.unset).toArray = ls at hl ⊢
  have hl : lv_has ls 3 [(0, .ref (q 0 0)), (1, .int p1), (2, .int p2)] := hl
  unfold wpX5_ship at h
  refine lv_aload_n hx hb dX5_ship_0 rfl (lv_at hl 0 rfl) ?_
  refine va_get (D := D) (ci := 5) (v := .ref (q 4 0)) (C := RX5) (T := TX5) (N := 8) hx hb hts inX5_ship_5 hown hK hP 0 rfl rfl 3 (by decide) (hts (.fieldLink RX5 33 "CornLaws" "cargoes" "LCornLaws$Cargoes;") wdX5_ship_0) (fun _ h9 => h9) rfl dX5_ship_1 ?_
  refine lv_iload_n hx hb dX5_ship_4 rfl (lv_at hl 1 rfl) ?_
  refine vp_callSi (W.runV (C := RX0) (As := [.int p1]) (rest := []) ⟨hx, hb, hml, hown, hts⟩ (cX0_has_ok l D cI cII (q 4) u.2.2.2.1 p1 _ h) (cwV 1 hts gX5_ship_X0_has rfl rfl rfl (by decide +kernel) ⟨Nat.le_of_ble_eq_true rfl, Nat.le_of_ble_eq_true rfl⟩) (z_preV hK (z_XC (cII := cII) (u := u) hP) rfl rfl) rfl rfl hl.1 rfl (lv_room (Nat.le_of_ble_eq_true rfl)) dX5_ship_5 ⟨Nat.le_of_ble_eq_true rfl, Nat.le_of_ble_eq_true rfl⟩) (fun r1 h => ?_)
  refine lv_if_eq (tgt := 22) hx hb dX5_ship_8 (by decide) (fun c2 => ?_) (fun c2 => ?_)
  · replace h := h.1 c2
    refine lv_bipush (v := (-2)) hx hb dX5_ship_22 (by decide) ?_
    exact W.iret (v := (-2)) hx hb hr (fun t ht hW => ⟨⟨(-2), u, rfl, h, by show va_P D vwCl _ t.heap; rw [ht]; exact hP⟩, hS.F ht⟩) hS.2.2 dX5_ship_24
  · replace h := h.2 c2
    refine lv_iload_n hx hb dX5_ship_11 rfl (lv_at hl 2 rfl) ?_
    refine lv_iconst (v := 1) hx hb dX5_ship_12 (by decide) ?_
    refine lv_sipush (v := 10000) hx hb dX5_ship_13 (by decide) ?_
    refine vp_callSi (W.runS (As := [.int p2, .int 1, .int 10000]) (rest := []) ⟨hx, hb, hml, hown, hts⟩ (cX5_isOutside_ok l p2 1 10000 _ h) (va_cwS 3 hts gX5_ship_X5_isOutside rfl rfl rfl (by decide +kernel) ⟨Nat.le_of_ble_eq_true rfl, Nat.le_of_ble_eq_true rfl⟩) z_preS rfl rfl hl.1 rfl (lv_room (Nat.le_of_ble_eq_true rfl)) dX5_ship_16 ⟨Nat.le_of_ble_eq_true rfl, Nat.le_of_ble_eq_true rfl⟩) (fun r3 h => ?_)
    refine lv_if_eq (tgt := 25) hx hb dX5_ship_19 (by decide) (fun c4 => ?_) (fun c4 => ?_)
    · replace h := h.1 c4
      refine lv_iload_n hx hb dX5_ship_25 rfl (lv_at hl 2 rfl) ?_
      refine lv_aload_n hx hb dX5_ship_26 rfl (lv_at hl 0 rfl) ?_
      refine va_get (D := D) (ci := 5) (v := .ref (q 4 0)) (C := RX5) (T := TX5) (N := 8) hx hb hts inX5_ship_5 hown hK hP 0 rfl rfl 3 (by decide) (hts (.fieldLink RX5 33 "CornLaws" "cargoes" "LCornLaws$Cargoes;") wdX5_ship_0) (fun _ h9 => h9) rfl dX5_ship_27 ?_
      refine va_get (D := D) (ci := 0) (v := .ref (q 4 2)) (C := RX0) (T := TX0) (N := 7) hx hb hts inX5_ship_0 hown hK hP 36 rfl rfl 1 (by decide) (hts (.fieldLink RX5 149 "CornLaws$Cargoes" "inBond" "[I") wdX5_ship_1) (fun _ h9 => h9) rfl dX5_ship_30 ?_
      refine lv_iload_n hx hb dX5_ship_33 rfl (lv_at hl 1 rfl) ?_
      obtain ⟨hi5, h⟩ := h
      refine va_iald (f := u.2.2.2.1 1) hx hb hK hP 38 0 rfl rfl hi5 dX5_ship_34 ?_
      refine lv_icmp_le (tgt := 41) hx hb dX5_ship_35 (by decide) (fun c6 => ?_) (fun c6 => ?_)
      · replace h := h.1 c6
        refine lv_aload_n hx hb dX5_ship_41 rfl (lv_at hl 0 rfl) ?_
        refine va_get (D := D) (ci := 5) (v := .ref (q 4 0)) (C := RX5) (T := TX5) (N := 8) hx hb hts inX5_ship_5 hown hK hP 0 rfl rfl 3 (by decide) (hts (.fieldLink RX5 33 "CornLaws" "cargoes" "LCornLaws$Cargoes;") wdX5_ship_0) (fun _ h9 => h9) rfl dX5_ship_42 ?_
        refine va_get (D := D) (ci := 0) (v := .ref (q 4 2)) (C := RX0) (T := TX0) (N := 7) hx hb hts inX5_ship_0 hown hK hP 36 rfl rfl 1 (by decide) (hts (.fieldLink RX5 149 "CornLaws$Cargoes" "inBond" "[I") wdX5_ship_1) (fun _ h9 => h9) rfl dX5_ship_45 ?_
        refine lv_iload_n hx hb dX5_ship_48 rfl (lv_at hl 1 rfl) ?_
        refine lv_dup2_11 hx hb dX5_ship_49 rfl rfl ?_
        refine va_iald (f := u.2.2.2.1 1) hx hb hK hP 38 0 rfl rfl hi5 dX5_ship_50 ?_
        refine lv_iload_n hx hb dX5_ship_51 rfl (lv_at hl 2 rfl) ?_
        refine lv_isub hx hb dX5_ship_52 ?_
        refine va_iast (f := u.2.2.2.1 1) hx hb hK hP hD hS 38 0 rfl rfl hi5 dX5_ship_53 (fun H locs hP hD hS => ?_)
        have hP : va_P D vwCl (wX cI cII q (u.1, u.2.1, u.2.2.1, (va_up u.2.2.2.1 1 (upd (u.2.2.2.1 1) (p1.toNatClampNeg) (((u.2.2.2.1 1 p1.toNatClampNeg) - p2)))), u.2.2.2.2.1, u.2.2.2.2.2.1, u.2.2.2.2.2.2)) H := hP
        have hD : va_D A (wX cI cII q (u.1, u.2.1, u.2.2.1, (va_up u.2.2.2.1 1 (upd (u.2.2.2.1 1) (p1.toNatClampNeg) (((u.2.2.2.1 1 p1.toNatClampNeg) - p2)))), u.2.2.2.2.1, u.2.2.2.2.2.1, u.2.2.2.2.2.2)) := hD
        refine lv_aload_n hx hb dX5_ship_54 rfl (lv_at hl 0 rfl) ?_
        refine va_get (D := D) (ci := 5) (v := .ref (q 4 0)) (C := RX5) (T := TX5) (N := 8) hx hb hts inX5_ship_5 hown hK hP 0 rfl rfl 3 (by decide) (hts (.fieldLink RX5 33 "CornLaws" "cargoes" "LCornLaws$Cargoes;") wdX5_ship_0) (fun _ h9 => h9) rfl dX5_ship_55 ?_
        refine va_get (D := D) (ci := 0) (v := .ref (q 4 4)) (C := RX0) (T := TX0) (N := 7) hx hb hts inX5_ship_0 hown hK hP 36 rfl rfl 3 (by decide) (hts (.fieldLink RX5 168 "CornLaws$Cargoes" "shipped" "[I") wdX5_ship_2) (fun _ h9 => h9) rfl dX5_ship_58 ?_
        refine lv_iload_n hx hb dX5_ship_61 rfl (lv_at hl 1 rfl) ?_
        refine lv_dup2_11 hx hb dX5_ship_62 rfl rfl ?_
        refine va_iald (f := u.2.2.2.1 3) hx hb hK hP 40 0 rfl rfl hi5 dX5_ship_63 ?_
        refine lv_iload_n hx hb dX5_ship_64 rfl (lv_at hl 2 rfl) ?_
        refine lv_iadd hx hb dX5_ship_65 ?_
        refine va_iast (f := u.2.2.2.1 3) hx hb hK hP hD hS 40 0 rfl rfl hi5 dX5_ship_66 (fun H locs hP hD hS => ?_)
        have hP : va_P D vwCl (wX cI cII q (u.1, u.2.1, u.2.2.1, (va_up (va_up u.2.2.2.1 1 (upd (u.2.2.2.1 1) (p1.toNatClampNeg) (((u.2.2.2.1 1 p1.toNatClampNeg) - p2)))) 3 (upd (u.2.2.2.1 3) (p1.toNatClampNeg) (((u.2.2.2.1 3 p1.toNatClampNeg) + p2)))), u.2.2.2.2.1, u.2.2.2.2.2.1, u.2.2.2.2.2.2)) H := hP
        have hD : va_D A (wX cI cII q (u.1, u.2.1, u.2.2.1, (va_up (va_up u.2.2.2.1 1 (upd (u.2.2.2.1 1) (p1.toNatClampNeg) (((u.2.2.2.1 1 p1.toNatClampNeg) - p2)))) 3 (upd (u.2.2.2.1 3) (p1.toNatClampNeg) (((u.2.2.2.1 3 p1.toNatClampNeg) + p2)))), u.2.2.2.2.1, u.2.2.2.2.2.1, u.2.2.2.2.2.2)) := hD
        refine lv_aload_n hx hb dX5_ship_67 rfl (lv_at hl 0 rfl) ?_
        refine va_get (D := D) (ci := 5) (v := .ref (q 4 0)) (C := RX5) (T := TX5) (N := 8) hx hb hts inX5_ship_5 hown hK hP 0 rfl rfl 3 (by decide) (hts (.fieldLink RX5 33 "CornLaws" "cargoes" "LCornLaws$Cargoes;") wdX5_ship_0) (fun _ h9 => h9) rfl dX5_ship_68 ?_
        refine va_get (D := D) (ci := 0) (v := .ref (q 4 2)) (C := RX0) (T := TX0) (N := 7) hx hb hts inX5_ship_0 hown hK hP 36 rfl rfl 1 (by decide) (hts (.fieldLink RX5 149 "CornLaws$Cargoes" "inBond" "[I") wdX5_ship_1) (fun _ h9 => h9) rfl dX5_ship_71 ?_
        refine lv_iload_n hx hb dX5_ship_74 rfl (lv_at hl 1 rfl) ?_
        refine va_iald (f := upd (u.2.2.2.1 1) (p1.toNatClampNeg) (((u.2.2.2.1 1 p1.toNatClampNeg) - p2))) hx hb hK hP 38 0 rfl rfl hi5 dX5_ship_75 ?_
        exact W.iret (v := ((upd (u.2.2.2.1 1) (p1.toNatClampNeg) (((u.2.2.2.1 1 p1.toNatClampNeg) - p2))) p1.toNatClampNeg)) hx hb hr (fun t ht hW => ⟨⟨((upd (u.2.2.2.1 1) (p1.toNatClampNeg) (((u.2.2.2.1 1 p1.toNatClampNeg) - p2))) p1.toNatClampNeg), (u.1, u.2.1, u.2.2.1, (va_up (va_up u.2.2.2.1 1 (upd (u.2.2.2.1 1) (p1.toNatClampNeg) (((u.2.2.2.1 1 p1.toNatClampNeg) - p2)))) 3 (upd (u.2.2.2.1 3) (p1.toNatClampNeg) (((u.2.2.2.1 3 p1.toNatClampNeg) + p2)))), u.2.2.2.2.1, u.2.2.2.2.2.1, u.2.2.2.2.2.2), rfl, h, by show va_P D vwCl _ t.heap; rw [ht]; exact hP⟩, hS.F ht⟩) hS.2.2 dX5_ship_76
      · replace h := h.2 c6
        refine lv_bipush (v := (-3)) hx hb dX5_ship_38 (by decide) ?_
        exact W.iret (v := (-3)) hx hb hr (fun t ht hW => ⟨⟨(-3), u, rfl, h, by show va_P D vwCl _ t.heap; rw [ht]; exact hP⟩, hS.F ht⟩) hS.2.2 dX5_ship_40
    · replace h := h.2 c4
      refine lv_bipush (v := (-2)) hx hb dX5_ship_22 (by decide) ?_
      exact W.iret (v := (-2)) hx hb hr (fun t ht hW => ⟨⟨(-2), u, rfl, h, by show va_P D vwCl _ t.heap; rw [ht]; exact hP⟩, hS.F ht⟩) hS.2.2 dX5_ship_24

/-! X5_bond -/
set_option maxRecDepth 20000 in
theorem wdX5_bond_0 : Cond.fieldLink RX5 33 "CornLaws" "cargoes" "LCornLaws$Cargoes;" ∈ wsX5_bond := by decide +kernel
set_option maxRecDepth 20000 in
theorem wdX5_bond_1 : Cond.fieldLink RX5 157 "CornLaws$Cargoes" "grain" "[I" ∈ wsX5_bond := by decide +kernel
set_option maxRecDepth 20000 in
theorem wdX5_bond_2 : Cond.fieldLink RX5 149 "CornLaws$Cargoes" "inBond" "[I" ∈ wsX5_bond := by decide +kernel
set_option maxRecDepth 20000 in
theorem wdX5_bond_3 : Cond.fieldLink RX5 158 "CornLaws$Cargoes" "out" "[I" ∈ wsX5_bond := by decide +kernel
set_option maxRecDepth 20000 in
theorem wdX5_bond_4 : Cond.fieldLink RX5 168 "CornLaws$Cargoes" "shipped" "[I" ∈ wsX5_bond := by decide +kernel
set_option maxRecDepth 20000 in
theorem wdX5_bond_5 : Cond.fieldLink RX5 171 "CornLaws$Cargoes" "spoilt" "[I" ∈ wsX5_bond := by decide +kernel
set_option maxRecDepth 20000 in
theorem wdX5_bond_6 : Cond.fieldLink RX5 174 "CornLaws$Cargoes" "came" "[I" ∈ wsX5_bond := by decide +kernel
set_option maxRecDepth 20000 in
theorem inX5_bond_5 : ∀ w ∈ wsX50, w ∈ wsX5_bond := by decide +kernel
set_option maxRecDepth 20000 in
theorem inX5_bond_0 : ∀ w ∈ wsX00, w ∈ wsX5_bond := by decide +kernel
set_option maxHeartbeats 4000000 in
set_option maxRecDepth 100000 in
theorem cX5_bond_ok (l : Launch) (D : va_G) (cI cII : ClassId) (q : Nat → Nat → Nat) (u : XS) (p1 : Int32) (p2 : Int32) (post : Int32 → Prop) (h : wpX5_bond u p1 p2 post) : Met l yX5_bond wsX5_bond ({ frames := 1, cells := 0, slots := 0, locals := 21 } : Room) (zPc [.ref (q 0 0), .int p1, .int p2] D cI cII (wX cI cII q u)) (vp_Si post) 0 0 (fun _ => False) := by
  refine Met.ofW (cc := cX5_bond) (maxL := 3) (ret := (some .int)) (by decide) rfl ?_
  intro p e s m args below meth c s₁ B hml hv
  obtain ⟨rfl, hP, hK⟩ := hv
  have hx := B.exec
  have hb := B.bytes
  have hr := B.returns
  have hts := atoms_spec (ws := wsX5_bond) B.pre
  have hown : s.vm.findClass RX5 = some m.cls := findClass_of_methodNamed B.named
  have hlocks := B.notSynchronized
  have hl := lv_entry ([.ref (q 0 0), .int p1, .int p2]) (n := 3) (Nat.le_of_ble_eq_true rfl)
  rw [lg_entry_eq]
  generalize (lg_sl ([.ref (q 0 0), .int p1, .int p2]) ++ List.replicate (3 - (lg_sl ([.ref (q 0 0), .int p1, .int p2])).length) Slot.unset).toArray = ls at hl ⊢
  have hl : lv_has ls 3 [(0, .ref (q 0 0)), (1, .int p1), (2, .int p2)] := hl
  unfold wpX5_bond at h
  refine lv_aload_n hx hb dX5_bond_0 rfl (lv_at hl 0 rfl) ?_
  refine va_get (D := D) (ci := 5) (v := .ref (q 4 0)) (C := RX5) (T := TX5) (N := 8) hx hb hts inX5_bond_5 hown hK hP 0 rfl rfl 3 (by decide) (hts (.fieldLink RX5 33 "CornLaws" "cargoes" "LCornLaws$Cargoes;") wdX5_bond_0) (fun _ h9 => h9) rfl dX5_bond_1 ?_
  refine lv_iload_n hx hb dX5_bond_4 rfl (lv_at hl 1 rfl) ?_
  refine vp_callSi (W.runV (C := RX0) (As := [.int p1]) (rest := []) ⟨hx, hb, hml, hown, hts⟩ (cX0_has_ok l D cI cII (q 4) u.2.2.2.1 p1 _ h) (cwV 1 hts gX5_bond_X0_has rfl rfl rfl (by decide +kernel) ⟨Nat.le_of_ble_eq_true rfl, Nat.le_of_ble_eq_true rfl⟩) (z_preV hK (z_XC (cII := cII) (u := u) hP) rfl rfl) rfl rfl hl.1 rfl (lv_room (Nat.le_of_ble_eq_true rfl)) dX5_bond_5 ⟨Nat.le_of_ble_eq_true rfl, Nat.le_of_ble_eq_true rfl⟩) (fun r1 h => ?_)
  refine lv_if_ne (tgt := 14) hx hb dX5_bond_8 (by decide) (fun c2 => ?_) (fun c2 => ?_)
  · replace h := h.1 c2
    refine lv_iload_n hx hb dX5_bond_14 rfl (lv_at hl 2 rfl) ?_
    rcases z_sw5 p2 with c3 | c3 | c3 | c3 | c3 | c3 | c3
    · replace h := h.1 c3
      refine lv_tableOut (tgt := 112) hx hb dX5_bond_15 c3 (by decide) ?_
      refine lv_bipush (v := (-2)) hx hb dX5_bond_112 (by decide) ?_
      exact W.iret (v := (-2)) hx hb hr (fun t ht hW => ⟨(-2), rfl, h, ht⟩) (fun _ h9 => by cases h9) dX5_bond_114
    · replace h := h.2.1 c3
      refine lv_tableIn (tgt := 52) (off := 37) hx hb dX5_bond_15 (by rw [c3]; decide) (by rw [c3]; decide) (by rw [c3]; rfl) (by decide) ?_
      refine lv_aload_n hx hb dX5_bond_52 rfl (lv_at hl 0 rfl) ?_
      refine va_get (D := D) (ci := 5) (v := .ref (q 4 0)) (C := RX5) (T := TX5) (N := 8) hx hb hts inX5_bond_5 hown hK hP 0 rfl rfl 3 (by decide) (hts (.fieldLink RX5 33 "CornLaws" "cargoes" "LCornLaws$Cargoes;") wdX5_bond_0) (fun _ h9 => h9) rfl dX5_bond_53 ?_
      refine va_get (D := D) (ci := 0) (v := .ref (q 4 1)) (C := RX0) (T := TX0) (N := 7) hx hb hts inX5_bond_0 hown hK hP 36 rfl rfl 0 (by decide) (hts (.fieldLink RX5 157 "CornLaws$Cargoes" "grain" "[I") wdX5_bond_1) (fun _ h9 => h9) rfl dX5_bond_56 ?_
      refine lv_iload_n hx hb dX5_bond_59 rfl (lv_at hl 1 rfl) ?_
      obtain ⟨hi4, h⟩ := h
      refine va_iald (f := u.2.2.2.1 0) hx hb hK hP 37 0 rfl rfl hi4 dX5_bond_60 ?_
      exact W.iret (v := (u.2.2.2.1 0 p1.toNatClampNeg)) hx hb hr (fun t ht hW => ⟨(u.2.2.2.1 0 p1.toNatClampNeg), rfl, h, ht⟩) (fun _ h9 => by cases h9) dX5_bond_61
    · replace h := h.2.2.1 c3
      refine lv_tableIn (tgt := 62) (off := 47) hx hb dX5_bond_15 (by rw [c3]; decide) (by rw [c3]; decide) (by rw [c3]; rfl) (by decide) ?_
      refine lv_aload_n hx hb dX5_bond_62 rfl (lv_at hl 0 rfl) ?_
      refine va_get (D := D) (ci := 5) (v := .ref (q 4 0)) (C := RX5) (T := TX5) (N := 8) hx hb hts inX5_bond_5 hown hK hP 0 rfl rfl 3 (by decide) (hts (.fieldLink RX5 33 "CornLaws" "cargoes" "LCornLaws$Cargoes;") wdX5_bond_0) (fun _ h9 => h9) rfl dX5_bond_63 ?_
      refine va_get (D := D) (ci := 0) (v := .ref (q 4 2)) (C := RX0) (T := TX0) (N := 7) hx hb hts inX5_bond_0 hown hK hP 36 rfl rfl 1 (by decide) (hts (.fieldLink RX5 149 "CornLaws$Cargoes" "inBond" "[I") wdX5_bond_2) (fun _ h9 => h9) rfl dX5_bond_66 ?_
      refine lv_iload_n hx hb dX5_bond_69 rfl (lv_at hl 1 rfl) ?_
      obtain ⟨hi5, h⟩ := h
      refine va_iald (f := u.2.2.2.1 1) hx hb hK hP 38 0 rfl rfl hi5 dX5_bond_70 ?_
      exact W.iret (v := (u.2.2.2.1 1 p1.toNatClampNeg)) hx hb hr (fun t ht hW => ⟨(u.2.2.2.1 1 p1.toNatClampNeg), rfl, h, ht⟩) (fun _ h9 => by cases h9) dX5_bond_71
    · replace h := h.2.2.2.1 c3
      refine lv_tableIn (tgt := 72) (off := 57) hx hb dX5_bond_15 (by rw [c3]; decide) (by rw [c3]; decide) (by rw [c3]; rfl) (by decide) ?_
      refine lv_aload_n hx hb dX5_bond_72 rfl (lv_at hl 0 rfl) ?_
      refine va_get (D := D) (ci := 5) (v := .ref (q 4 0)) (C := RX5) (T := TX5) (N := 8) hx hb hts inX5_bond_5 hown hK hP 0 rfl rfl 3 (by decide) (hts (.fieldLink RX5 33 "CornLaws" "cargoes" "LCornLaws$Cargoes;") wdX5_bond_0) (fun _ h9 => h9) rfl dX5_bond_73 ?_
      refine va_get (D := D) (ci := 0) (v := .ref (q 4 3)) (C := RX0) (T := TX0) (N := 7) hx hb hts inX5_bond_0 hown hK hP 36 rfl rfl 2 (by decide) (hts (.fieldLink RX5 158 "CornLaws$Cargoes" "out" "[I") wdX5_bond_3) (fun _ h9 => h9) rfl dX5_bond_76 ?_
      refine lv_iload_n hx hb dX5_bond_79 rfl (lv_at hl 1 rfl) ?_
      obtain ⟨hi6, h⟩ := h
      refine va_iald (f := u.2.2.2.1 2) hx hb hK hP 39 0 rfl rfl hi6 dX5_bond_80 ?_
      exact W.iret (v := (u.2.2.2.1 2 p1.toNatClampNeg)) hx hb hr (fun t ht hW => ⟨(u.2.2.2.1 2 p1.toNatClampNeg), rfl, h, ht⟩) (fun _ h9 => by cases h9) dX5_bond_81
    · replace h := h.2.2.2.2.1 c3
      refine lv_tableIn (tgt := 82) (off := 67) hx hb dX5_bond_15 (by rw [c3]; decide) (by rw [c3]; decide) (by rw [c3]; rfl) (by decide) ?_
      refine lv_aload_n hx hb dX5_bond_82 rfl (lv_at hl 0 rfl) ?_
      refine va_get (D := D) (ci := 5) (v := .ref (q 4 0)) (C := RX5) (T := TX5) (N := 8) hx hb hts inX5_bond_5 hown hK hP 0 rfl rfl 3 (by decide) (hts (.fieldLink RX5 33 "CornLaws" "cargoes" "LCornLaws$Cargoes;") wdX5_bond_0) (fun _ h9 => h9) rfl dX5_bond_83 ?_
      refine va_get (D := D) (ci := 0) (v := .ref (q 4 4)) (C := RX0) (T := TX0) (N := 7) hx hb hts inX5_bond_0 hown hK hP 36 rfl rfl 3 (by decide) (hts (.fieldLink RX5 168 "CornLaws$Cargoes" "shipped" "[I") wdX5_bond_4) (fun _ h9 => h9) rfl dX5_bond_86 ?_
      refine lv_iload_n hx hb dX5_bond_89 rfl (lv_at hl 1 rfl) ?_
      obtain ⟨hi7, h⟩ := h
      refine va_iald (f := u.2.2.2.1 3) hx hb hK hP 40 0 rfl rfl hi7 dX5_bond_90 ?_
      exact W.iret (v := (u.2.2.2.1 3 p1.toNatClampNeg)) hx hb hr (fun t ht hW => ⟨(u.2.2.2.1 3 p1.toNatClampNeg), rfl, h, ht⟩) (fun _ h9 => by cases h9) dX5_bond_91
    · replace h := h.2.2.2.2.2.1 c3
      refine lv_tableIn (tgt := 92) (off := 77) hx hb dX5_bond_15 (by rw [c3]; decide) (by rw [c3]; decide) (by rw [c3]; rfl) (by decide) ?_
      refine lv_aload_n hx hb dX5_bond_92 rfl (lv_at hl 0 rfl) ?_
      refine va_get (D := D) (ci := 5) (v := .ref (q 4 0)) (C := RX5) (T := TX5) (N := 8) hx hb hts inX5_bond_5 hown hK hP 0 rfl rfl 3 (by decide) (hts (.fieldLink RX5 33 "CornLaws" "cargoes" "LCornLaws$Cargoes;") wdX5_bond_0) (fun _ h9 => h9) rfl dX5_bond_93 ?_
      refine va_get (D := D) (ci := 0) (v := .ref (q 4 5)) (C := RX0) (T := TX0) (N := 7) hx hb hts inX5_bond_0 hown hK hP 36 rfl rfl 4 (by decide) (hts (.fieldLink RX5 171 "CornLaws$Cargoes" "spoilt" "[I") wdX5_bond_5) (fun _ h9 => h9) rfl dX5_bond_96 ?_
      refine lv_iload_n hx hb dX5_bond_99 rfl (lv_at hl 1 rfl) ?_
      obtain ⟨hi8, h⟩ := h
      refine va_iald (f := u.2.2.2.1 4) hx hb hK hP 41 0 rfl rfl hi8 dX5_bond_100 ?_
      exact W.iret (v := (u.2.2.2.1 4 p1.toNatClampNeg)) hx hb hr (fun t ht hW => ⟨(u.2.2.2.1 4 p1.toNatClampNeg), rfl, h, ht⟩) (fun _ h9 => by cases h9) dX5_bond_101
    · replace h := h.2.2.2.2.2.2 c3
      refine lv_tableIn (tgt := 102) (off := 87) hx hb dX5_bond_15 (by rw [c3]; decide) (by rw [c3]; decide) (by rw [c3]; rfl) (by decide) ?_
      refine lv_aload_n hx hb dX5_bond_102 rfl (lv_at hl 0 rfl) ?_
      refine va_get (D := D) (ci := 5) (v := .ref (q 4 0)) (C := RX5) (T := TX5) (N := 8) hx hb hts inX5_bond_5 hown hK hP 0 rfl rfl 3 (by decide) (hts (.fieldLink RX5 33 "CornLaws" "cargoes" "LCornLaws$Cargoes;") wdX5_bond_0) (fun _ h9 => h9) rfl dX5_bond_103 ?_
      refine va_get (D := D) (ci := 0) (v := .ref (q 4 6)) (C := RX0) (T := TX0) (N := 7) hx hb hts inX5_bond_0 hown hK hP 36 rfl rfl 5 (by decide) (hts (.fieldLink RX5 174 "CornLaws$Cargoes" "came" "[I") wdX5_bond_6) (fun _ h9 => h9) rfl dX5_bond_106 ?_
      refine lv_iload_n hx hb dX5_bond_109 rfl (lv_at hl 1 rfl) ?_
      obtain ⟨hi9, h⟩ := h
      refine va_iald (f := u.2.2.2.1 5) hx hb hK hP 42 0 rfl rfl hi9 dX5_bond_110 ?_
      exact W.iret (v := (u.2.2.2.1 5 p1.toNatClampNeg)) hx hb hr (fun t ht hW => ⟨(u.2.2.2.1 5 p1.toNatClampNeg), rfl, h, ht⟩) (fun _ h9 => by cases h9) dX5_bond_111
  · replace h := h.2 c2
    refine lv_bipush (v := (-2)) hx hb dX5_bond_11 (by decide) ?_
    exact W.iret (v := (-2)) hx hb hr (fun t ht hW => ⟨(-2), rfl, h, ht⟩) (fun _ h9 => by cases h9) dX5_bond_13

/-! X5_chest -/
set_option maxRecDepth 20000 in
theorem wdX5_chest_0 : Cond.fieldLink RX5 164 "CornLaws" "paid" "J" ∈ wsX5_chest := by decide +kernel
set_option maxRecDepth 20000 in
theorem inX5_chest_5 : ∀ w ∈ wsX50, w ∈ wsX5_chest := by decide +kernel
set_option maxHeartbeats 4000000 in
set_option maxRecDepth 100000 in
theorem cX5_chest_ok (l : Launch) (D : va_G) (cI cII : ClassId) (q : Nat → Nat → Nat) (u : XS) (post : Int64 → Prop) (h : wpX5_chest u post) : Met l yX5_chest wsX5_chest ({ frames := 0, cells := 0, slots := 0, locals := 0 } : Room) (zPc [.ref (q 0 0)] D cI cII (wX cI cII q u)) (vp_Sl post) 0 0 (fun _ => False) := by
  refine Met.ofW (cc := cX5_chest) (maxL := 1) (ret := (some .long)) (by decide) rfl ?_
  intro p e s m args below meth c s₁ B hml hv
  obtain ⟨rfl, hP, hK⟩ := hv
  have hx := B.exec
  have hb := B.bytes
  have hr := B.returns
  have hts := atoms_spec (ws := wsX5_chest) B.pre
  have hown : s.vm.findClass RX5 = some m.cls := findClass_of_methodNamed B.named
  have hlocks := B.notSynchronized
  have hl := lv_entry ([.ref (q 0 0)]) (n := 1) (Nat.le_of_ble_eq_true rfl)
  rw [lg_entry_eq]
  generalize (lg_sl ([.ref (q 0 0)]) ++ List.replicate (1 - (lg_sl ([.ref (q 0 0)])).length) Slot.unset).toArray = ls at hl ⊢
  have hl : lv_has ls 1 [(0, .ref (q 0 0))] := hl
  unfold wpX5_chest at h
  refine lv_aload_n hx hb dX5_chest_0 rfl (lv_at hl 0 rfl) ?_
  refine va_get (D := D) (ci := 5) (v := .long (u.2.2.2.2.2.2)) (C := RX5) (T := TX5) (N := 8) hx hb hts inX5_chest_5 hown hK hP 0 rfl rfl 7 (by decide) (hts (.fieldLink RX5 164 "CornLaws" "paid" "J") wdX5_chest_0) (fun _ h9 => h9) rfl dX5_chest_1 ?_
  exact W.lret (v := (u.2.2.2.2.2.2)) hx hb hr (fun t ht hW => ⟨(u.2.2.2.2.2.2), rfl, h, ht⟩) (fun _ h9 => by cases h9) dX5_chest_4

/-! X5_worth -/
set_option maxRecDepth 20000 in
theorem wdX5_worth_0 : Cond.fieldLink RX5 12 "CornLaws" "returns" "LCornLaws$Returns;" ∈ wsX5_worth := by decide +kernel
set_option maxRecDepth 20000 in
theorem wdX5_worth_1 : Cond.fieldLink RX5 164 "CornLaws" "paid" "J" ∈ wsX5_worth := by decide +kernel
set_option maxRecDepth 20000 in
theorem wdX5_worth_2 : Cond.constantLong RX5 177 (-9223372036854775808) ∈ wsX5_worth := by decide +kernel
set_option maxRecDepth 20000 in
theorem inX5_worth_5 : ∀ w ∈ wsX50, w ∈ wsX5_worth := by decide +kernel
set_option maxHeartbeats 4000000 in
set_option maxRecDepth 100000 in
theorem cX5_worth_ok (l : Launch) (D : va_G) (cI cII : ClassId) (q : Nat → Nat → Nat) (u : XS) (p1 : Int32) (post : Int64 → Prop) (h : wpX5_worth u p1 post) : Met l yX5_worth wsX5_worth ({ frames := 5, cells := 0, slots := 0, locals := 129 } : Room) (zPc [.ref (q 0 0), .int p1] D cI cII (wX cI cII q u)) (vp_Sl post) 0 0 (fun _ => False) := by
  refine Met.ofW (cc := cX5_worth) (maxL := 2) (ret := (some .long)) (by decide) rfl ?_
  intro p e s m args below meth c s₁ B hml hv
  obtain ⟨rfl, hP, hK⟩ := hv
  have hx := B.exec
  have hb := B.bytes
  have hr := B.returns
  have hts := atoms_spec (ws := wsX5_worth) B.pre
  have hown : s.vm.findClass RX5 = some m.cls := findClass_of_methodNamed B.named
  have hlocks := B.notSynchronized
  have hl := lv_entry ([.ref (q 0 0), .int p1]) (n := 2) (Nat.le_of_ble_eq_true rfl)
  rw [lg_entry_eq]
  generalize (lg_sl ([.ref (q 0 0), .int p1]) ++ List.replicate (2 - (lg_sl ([.ref (q 0 0), .int p1])).length) Slot.unset).toArray = ls at hl ⊢
  have hl : lv_has ls 2 [(0, .ref (q 0 0)), (1, .int p1)] := hl
  unfold wpX5_worth at h
  refine lv_aload_n hx hb dX5_worth_0 rfl (lv_at hl 0 rfl) ?_
  refine va_get (D := D) (ci := 5) (v := .ref (q 1 0)) (C := RX5) (T := TX5) (N := 8) hx hb hts inX5_worth_5 hown hK hP 0 rfl rfl 0 (by decide) (hts (.fieldLink RX5 12 "CornLaws" "returns" "LCornLaws$Returns;") wdX5_worth_0) (fun _ h9 => h9) rfl dX5_worth_1 ?_
  refine lv_iload_n hx hb dX5_worth_4 rfl (lv_at hl 1 rfl) ?_
  refine vp_callSi (W.runV (C := RX3) (As := [.int p1]) (rest := []) ⟨hx, hb, hml, hown, hts⟩ (cX3_has_ok l D cI cII (q 1) u.1 p1 _ h) (cwV 1 hts gX5_worth_X3_has rfl rfl rfl (by decide +kernel) ⟨Nat.le_of_ble_eq_true rfl, Nat.le_of_ble_eq_true rfl⟩) (z_preV hK (z_XR (cII := cII) (u := u) hP) rfl rfl) rfl rfl hl.1 rfl (lv_room (Nat.le_of_ble_eq_true rfl)) dX5_worth_5 ⟨Nat.le_of_ble_eq_true rfl, Nat.le_of_ble_eq_true rfl⟩) (fun r1 h => ?_)
  refine lv_if_ne (tgt := 15) hx hb dX5_worth_8 (by decide) (fun c2 => ?_) (fun c2 => ?_)
  · replace h := h.1 c2
    refine lv_aload_n hx hb dX5_worth_15 rfl (lv_at hl 0 rfl) ?_
    refine lv_iload_n hx hb dX5_worth_16 rfl (lv_at hl 1 rfl) ?_
    refine lv_iconst (v := (-1)) hx hb dX5_worth_17 (by decide) ?_
    refine vp_callSl (W.runV (C := RX5) (As := [.int p1, .int (-1)]) (rest := []) ⟨hx, hb, hml, hown, hts⟩ (cX5_chestAnew_ok l D cI cII q u p1 (-1) _ h) (cwV 2 hts gX5_worth_X5_chestAnew rfl rfl rfl (by decide +kernel) ⟨Nat.le_of_ble_eq_true rfl, Nat.le_of_ble_eq_true rfl⟩) (z_preV hK hP rfl rfl) rfl rfl hl.1 rfl (lv_room (Nat.le_of_ble_eq_true rfl)) dX5_worth_18 ⟨Nat.le_of_ble_eq_true rfl, Nat.le_of_ble_eq_true rfl⟩) (fun r3 h => ?_)
    refine lv_aload_n hx hb dX5_worth_21 rfl (lv_at hl 0 rfl) ?_
    refine va_get (D := D) (ci := 5) (v := .long (u.2.2.2.2.2.2)) (C := RX5) (T := TX5) (N := 8) hx hb hts inX5_worth_5 hown hK hP 0 rfl rfl 7 (by decide) (hts (.fieldLink RX5 164 "CornLaws" "paid" "J") wdX5_worth_1) (fun _ h9 => h9) rfl dX5_worth_22 ?_
    refine lv_lsub hx hb dX5_worth_25 ?_
    exact W.lret (v := (r3 - (u.2.2.2.2.2.2))) hx hb hr (fun t ht hW => ⟨(r3 - (u.2.2.2.2.2.2)), rfl, h, ht⟩) (fun _ h9 => by cases h9) dX5_worth_26
  · replace h := h.2 c2
    refine lv_ldc2 (v := (-9223372036854775808)) hx hb hown (hts (.constantLong RX5 177 (-9223372036854775808)) wdX5_worth_2) dX5_worth_11 ?_
    exact W.lret (v := (-9223372036854775808)) hx hb hr (fun t ht hW => ⟨(-9223372036854775808), rfl, h, ht⟩) (fun _ h9 => by cases h9) dX5_worth_14

/-! X5_other -/
set_option maxRecDepth 20000 in
theorem wdX5_other_0 : Cond.fieldLink RX5 19 "CornLaws" "scales" "LCornLaws$Scales;" ∈ wsX5_other := by decide +kernel
set_option maxRecDepth 20000 in
theorem wdX5_other_1 : Cond.constantLong RX5 147 (-2) ∈ wsX5_other := by decide +kernel
set_option maxRecDepth 20000 in
theorem inX5_other_5 : ∀ w ∈ wsX50, w ∈ wsX5_other := by decide +kernel
set_option maxHeartbeats 4000000 in
set_option maxRecDepth 100000 in
theorem cX5_other_ok (l : Launch) (D : va_G) (cI cII : ClassId) (q : Nat → Nat → Nat) (u : XS) (p1 : Int32) (post : Int64 → Prop) (h : wpX5_other u p1 post) : Met l yX5_other wsX5_other ({ frames := 5, cells := 0, slots := 0, locals := 129 } : Room) (zPc [.ref (q 0 0), .int p1] D cI cII (wX cI cII q u)) (vp_Sl post) 0 0 (fun _ => False) := by
  refine Met.ofW (cc := cX5_other) (maxL := 2) (ret := (some .long)) (by decide) rfl ?_
  intro p e s m args below meth c s₁ B hml hv
  obtain ⟨rfl, hP, hK⟩ := hv
  have hx := B.exec
  have hb := B.bytes
  have hr := B.returns
  have hts := atoms_spec (ws := wsX5_other) B.pre
  have hown : s.vm.findClass RX5 = some m.cls := findClass_of_methodNamed B.named
  have hlocks := B.notSynchronized
  have hl := lv_entry ([.ref (q 0 0), .int p1]) (n := 2) (Nat.le_of_ble_eq_true rfl)
  rw [lg_entry_eq]
  generalize (lg_sl ([.ref (q 0 0), .int p1]) ++ List.replicate (2 - (lg_sl ([.ref (q 0 0), .int p1])).length) Slot.unset).toArray = ls at hl ⊢
  have hl : lv_has ls 2 [(0, .ref (q 0 0)), (1, .int p1)] := hl
  unfold wpX5_other at h
  refine lv_aload_n hx hb dX5_other_0 rfl (lv_at hl 0 rfl) ?_
  refine va_get (D := D) (ci := 5) (v := .ref (q 2 0)) (C := RX5) (T := TX5) (N := 8) hx hb hts inX5_other_5 hown hK hP 0 rfl rfl 1 (by decide) (hts (.fieldLink RX5 19 "CornLaws" "scales" "LCornLaws$Scales;") wdX5_other_0) (fun _ h9 => h9) rfl dX5_other_1 ?_
  refine lv_iload_n hx hb dX5_other_4 rfl (lv_at hl 1 rfl) ?_
  refine vp_callSi (W.runV (C := RX4) (As := [.int p1]) (rest := []) ⟨hx, hb, hml, hown, hts⟩ (cX4_has_ok l D cI cII (q 2) u.2.1 p1 _ h) (cwV 1 hts gX5_other_X4_has rfl rfl rfl (by decide +kernel) ⟨Nat.le_of_ble_eq_true rfl, Nat.le_of_ble_eq_true rfl⟩) (z_preV hK (z_XS (cII := cII) (u := u) hP) rfl rfl) rfl rfl hl.1 rfl (lv_room (Nat.le_of_ble_eq_true rfl)) dX5_other_5 ⟨Nat.le_of_ble_eq_true rfl, Nat.le_of_ble_eq_true rfl⟩) (fun r1 h => ?_)
  refine lv_if_ne (tgt := 15) hx hb dX5_other_8 (by decide) (fun c2 => ?_) (fun c2 => ?_)
  · replace h := h.1 c2
    refine lv_aload_n hx hb dX5_other_15 rfl (lv_at hl 0 rfl) ?_
    refine lv_iconst (v := (-1)) hx hb dX5_other_16 (by decide) ?_
    refine lv_iload_n hx hb dX5_other_17 rfl (lv_at hl 1 rfl) ?_
    refine vp_callSl (W.runV (C := RX5) (As := [.int (-1), .int p1]) (rest := []) ⟨hx, hb, hml, hown, hts⟩ (cX5_chestAnew_ok l D cI cII q u (-1) p1 _ h) (cwV 2 hts gX5_other_X5_chestAnew rfl rfl rfl (by decide +kernel) ⟨Nat.le_of_ble_eq_true rfl, Nat.le_of_ble_eq_true rfl⟩) (z_preV hK hP rfl rfl) rfl rfl hl.1 rfl (lv_room (Nat.le_of_ble_eq_true rfl)) dX5_other_18 ⟨Nat.le_of_ble_eq_true rfl, Nat.le_of_ble_eq_true rfl⟩) (fun r3 h => ?_)
    exact W.lret (v := r3) hx hb hr (fun t ht hW => ⟨r3, rfl, h, ht⟩) (fun _ h9 => by cases h9) dX5_other_21
  · replace h := h.2 c2
    refine lv_ldc2 (v := (-2)) hx hb hown (hts (.constantLong RX5 147 (-2)) wdX5_other_1) dX5_other_11 ?_
    exact W.lret (v := (-2)) hx hb hr (fun t ht hW => ⟨(-2), rfl, h, ht⟩) (fun _ h9 => by cases h9) dX5_other_14

/-! X5_gain -/
set_option maxRecDepth 20000 in
theorem wdX5_gain_0 : Cond.fieldLink RX5 33 "CornLaws" "cargoes" "LCornLaws$Cargoes;" ∈ wsX5_gain := by decide +kernel
set_option maxRecDepth 20000 in
theorem wdX5_gain_1 : Cond.constantLong RX5 177 (-9223372036854775808) ∈ wsX5_gain := by decide +kernel
set_option maxRecDepth 20000 in
theorem wdX5_gain_2 : Cond.fieldLink RX5 48 "CornLaws" "now" "I" ∈ wsX5_gain := by decide +kernel
set_option maxRecDepth 20000 in
theorem inX5_gain_5 : ∀ w ∈ wsX50, w ∈ wsX5_gain := by decide +kernel
set_option maxHeartbeats 4000000 in
set_option maxRecDepth 100000 in
theorem cX5_gain_ok (l : Launch) (D : va_G) (cI cII : ClassId) (q : Nat → Nat → Nat) (u : XS) (p1 : Int32) (p2 : Int32) (p3 : Int32) (post : Int64 → Prop) (h : wpX5_gain u p1 p2 p3 post) : Met l yX5_gain wsX5_gain ({ frames := 5, cells := 0, slots := 0, locals := 128 } : Room) (zPc [.ref (q 0 0), .int p1, .int p2, .int p3] D cI cII (wX cI cII q u)) (vp_Sl post) 0 0 (fun _ => False) := by
  refine Met.ofW (cc := cX5_gain) (maxL := 4) (ret := (some .long)) (by decide) rfl ?_
  intro p e s m args below meth c s₁ B hml hv
  obtain ⟨rfl, hP, hK⟩ := hv
  have hx := B.exec
  have hb := B.bytes
  have hr := B.returns
  have hts := atoms_spec (ws := wsX5_gain) B.pre
  have hown : s.vm.findClass RX5 = some m.cls := findClass_of_methodNamed B.named
  have hlocks := B.notSynchronized
  have hl := lv_entry ([.ref (q 0 0), .int p1, .int p2, .int p3]) (n := 4) (Nat.le_of_ble_eq_true rfl)
  rw [lg_entry_eq]
  generalize (lg_sl ([.ref (q 0 0), .int p1, .int p2, .int p3]) ++ List.replicate (4 - (lg_sl ([.ref (q 0 0), .int p1, .int p2, .int p3])).length) Slot.unset).toArray = ls at hl ⊢
  have hl : lv_has ls 4 [(0, .ref (q 0 0)), (1, .int p1), (2, .int p2), (3, .int p3)] := hl
  unfold wpX5_gain at h
  refine lv_aload_n hx hb dX5_gain_0 rfl (lv_at hl 0 rfl) ?_
  refine va_get (D := D) (ci := 5) (v := .ref (q 4 0)) (C := RX5) (T := TX5) (N := 8) hx hb hts inX5_gain_5 hown hK hP 0 rfl rfl 3 (by decide) (hts (.fieldLink RX5 33 "CornLaws" "cargoes" "LCornLaws$Cargoes;") wdX5_gain_0) (fun _ h9 => h9) rfl dX5_gain_1 ?_
  refine lv_iload_n hx hb dX5_gain_4 rfl (lv_at hl 1 rfl) ?_
  refine vp_callSi (W.runV (C := RX0) (As := [.int p1]) (rest := []) ⟨hx, hb, hml, hown, hts⟩ (cX0_has_ok l D cI cII (q 4) u.2.2.2.1 p1 _ h) (cwV 1 hts gX5_gain_X0_has rfl rfl rfl (by decide +kernel) ⟨Nat.le_of_ble_eq_true rfl, Nat.le_of_ble_eq_true rfl⟩) (z_preV hK (z_XC (cII := cII) (u := u) hP) rfl rfl) rfl rfl hl.1 rfl (lv_room (Nat.le_of_ble_eq_true rfl)) dX5_gain_5 ⟨Nat.le_of_ble_eq_true rfl, Nat.le_of_ble_eq_true rfl⟩) (fun r1 h => ?_)
  refine lv_if_eq (tgt := 40) hx hb dX5_gain_8 (by decide) (fun c2 => ?_) (fun c2 => ?_)
  · replace h := h.1 c2
    refine lv_ldc2 (v := (-9223372036854775808)) hx hb hown (hts (.constantLong RX5 177 (-9223372036854775808)) wdX5_gain_1) dX5_gain_40 ?_
    exact W.lret (v := (-9223372036854775808)) hx hb hr (fun t ht hW => ⟨(-9223372036854775808), rfl, h, ht⟩) (fun _ h9 => by cases h9) dX5_gain_43
  · replace h := h.2 c2
    refine lv_iload_n hx hb dX5_gain_11 rfl (lv_at hl 2 rfl) ?_
    refine lv_aload_n hx hb dX5_gain_12 rfl (lv_at hl 0 rfl) ?_
    refine va_get (D := D) (ci := 5) (v := .int (u.2.2.2.2.2.1 0)) (C := RX5) (T := TX5) (N := 8) hx hb hts inX5_gain_5 hown hK hP 0 rfl rfl 5 (by decide) (hts (.fieldLink RX5 48 "CornLaws" "now" "I") wdX5_gain_2) (fun _ h9 => h9) rfl dX5_gain_13 ?_
    refine lv_aload_n hx hb dX5_gain_16 rfl (lv_at hl 0 rfl) ?_
    refine va_get (D := D) (ci := 5) (v := .int (u.2.2.2.2.2.1 0)) (C := RX5) (T := TX5) (N := 8) hx hb hts inX5_gain_5 hown hK hP 0 rfl rfl 5 (by decide) (hts (.fieldLink RX5 48 "CornLaws" "now" "I") wdX5_gain_2) (fun _ h9 => h9) rfl dX5_gain_17 ?_
    refine lv_bipush (v := 20) hx hb dX5_gain_20 (by decide) ?_
    refine lv_iadd hx hb dX5_gain_22 ?_
    refine vp_callSi (W.runS (As := [.int p2, .int (u.2.2.2.2.2.1 0), .int ((u.2.2.2.2.2.1 0) + 20)]) (rest := []) ⟨hx, hb, hml, hown, hts⟩ (cX5_isOutside_ok l p2 (u.2.2.2.2.2.1 0) ((u.2.2.2.2.2.1 0) + 20) _ h) (va_cwS 3 hts gX5_gain_X5_isOutside rfl rfl rfl (by decide +kernel) ⟨Nat.le_of_ble_eq_true rfl, Nat.le_of_ble_eq_true rfl⟩) z_preS rfl rfl hl.1 rfl (lv_room (Nat.le_of_ble_eq_true rfl)) dX5_gain_23 ⟨Nat.le_of_ble_eq_true rfl, Nat.le_of_ble_eq_true rfl⟩) (fun r3 h => ?_)
    refine lv_if_ne (tgt := 40) hx hb dX5_gain_26 (by decide) (fun c4 => ?_) (fun c4 => ?_)
    · replace h := h.1 c4
      refine lv_ldc2 (v := (-9223372036854775808)) hx hb hown (hts (.constantLong RX5 177 (-9223372036854775808)) wdX5_gain_1) dX5_gain_40 ?_
      exact W.lret (v := (-9223372036854775808)) hx hb hr (fun t ht hW => ⟨(-9223372036854775808), rfl, h, ht⟩) (fun _ h9 => by cases h9) dX5_gain_43
    · replace h := h.2 c4
      refine lv_iload_n hx hb dX5_gain_29 rfl (lv_at hl 3 rfl) ?_
      refine lv_iconst (v := 0) hx hb dX5_gain_30 (by decide) ?_
      refine lv_sipush (v := 2000) hx hb dX5_gain_31 (by decide) ?_
      refine vp_callSi (W.runS (As := [.int p3, .int 0, .int 2000]) (rest := []) ⟨hx, hb, hml, hown, hts⟩ (cX5_isOutside_ok l p3 0 2000 _ h) (va_cwS 3 hts gX5_gain_X5_isOutside rfl rfl rfl (by decide +kernel) ⟨Nat.le_of_ble_eq_true rfl, Nat.le_of_ble_eq_true rfl⟩) z_preS rfl rfl hl.1 rfl (lv_room (Nat.le_of_ble_eq_true rfl)) dX5_gain_34 ⟨Nat.le_of_ble_eq_true rfl, Nat.le_of_ble_eq_true rfl⟩) (fun r5 h => ?_)
      refine lv_if_eq (tgt := 44) hx hb dX5_gain_37 (by decide) (fun c6 => ?_) (fun c6 => ?_)
      · replace h := h.1 c6
        refine lv_aload_n hx hb dX5_gain_44 rfl (lv_at hl 0 rfl) ?_
        refine lv_iload_n hx hb dX5_gain_45 rfl (lv_at hl 1 rfl) ?_
        refine lv_iload_n hx hb dX5_gain_46 rfl (lv_at hl 2 rfl) ?_
        refine lv_iload_n hx hb dX5_gain_47 rfl (lv_at hl 3 rfl) ?_
        refine vp_callSl (W.runV (C := RX5) (As := [.int p1, .int p2, .int p3]) (rest := []) ⟨hx, hb, hml, hown, hts⟩ (cX5_gainAt_ok l D cI cII q u p1 p2 p3 _ h) (cwV 3 hts gX5_gain_X5_gainAt rfl rfl rfl (by decide +kernel) ⟨Nat.le_of_ble_eq_true rfl, Nat.le_of_ble_eq_true rfl⟩) (z_preV hK hP rfl rfl) rfl rfl hl.1 rfl (lv_room (Nat.le_of_ble_eq_true rfl)) dX5_gain_48 ⟨Nat.le_of_ble_eq_true rfl, Nat.le_of_ble_eq_true rfl⟩) (fun r7 h => ?_)
        exact W.lret (v := r7) hx hb hr (fun t ht hW => ⟨r7, rfl, h, ht⟩) (fun _ h9 => by cases h9) dX5_gain_51
      · replace h := h.2 c6
        refine lv_ldc2 (v := (-9223372036854775808)) hx hb hown (hts (.constantLong RX5 177 (-9223372036854775808)) wdX5_gain_1) dX5_gain_40 ?_
        exact W.lret (v := (-9223372036854775808)) hx hb hr (fun t ht hW => ⟨(-9223372036854775808), rfl, h, ht⟩) (fun _ h9 => by cases h9) dX5_gain_43

/-! X5_best -/
set_option maxRecDepth 20000 in
theorem wdX5_best_0 : Cond.fieldLink RX5 33 "CornLaws" "cargoes" "LCornLaws$Cargoes;" ∈ wsX5_best := by decide +kernel
set_option maxRecDepth 20000 in
theorem wdX5_best_1 : Cond.fieldLink RX5 48 "CornLaws" "now" "I" ∈ wsX5_best := by decide +kernel
set_option maxRecDepth 20000 in
theorem inX5_best_5 : ∀ w ∈ wsX50, w ∈ wsX5_best := by decide +kernel
set_option maxHeartbeats 4000000 in
set_option maxRecDepth 100000 in
theorem cX5_best_ok (l : Launch) (D : va_G) (cI cII : ClassId) (q : Nat → Nat → Nat) (u : XS) (p1 : Int32) (p2 : Int32) (p3 : Int32) (post : Int32 → Prop) (h : wpX5_best u p1 p2 p3 post) : Met l yX5_best wsX5_best ({ frames := 5, cells := 0, slots := 0, locals := 128 } : Room) (zPc [.ref (q 0 0), .int p1, .int p2, .int p3] D cI cII (wX cI cII q u)) (vp_Si post) 0 0 (fun _ => False) := by
  refine Met.ofW (cc := cX5_best) (maxL := 10) (ret := (some .int)) (by decide) rfl ?_
  intro p e s m args below meth c s₁ B hml hv
  obtain ⟨rfl, hP, hK⟩ := hv
  have hx := B.exec
  have hb := B.bytes
  have hr := B.returns
  have hts := atoms_spec (ws := wsX5_best) B.pre
  have hown : s.vm.findClass RX5 = some m.cls := findClass_of_methodNamed B.named
  have hlocks := B.notSynchronized
  have hl := lv_entry ([.ref (q 0 0), .int p1, .int p2, .int p3]) (n := 10) (Nat.le_of_ble_eq_true rfl)
  rw [lg_entry_eq]
  generalize (lg_sl ([.ref (q 0 0), .int p1, .int p2, .int p3]) ++ List.replicate (10 - (lg_sl ([.ref (q 0 0), .int p1, .int p2, .int p3])).length) Slot.unset).toArray = ls at hl ⊢
  have hl : lv_has ls 10 [(0, .ref (q 0 0)), (1, .int p1), (2, .int p2), (3, .int p3)] := hl
  unfold wpX5_best at h
  refine lv_aload_n hx hb dX5_best_0 rfl (lv_at hl 0 rfl) ?_
  refine va_get (D := D) (ci := 5) (v := .ref (q 4 0)) (C := RX5) (T := TX5) (N := 8) hx hb hts inX5_best_5 hown hK hP 0 rfl rfl 3 (by decide) (hts (.fieldLink RX5 33 "CornLaws" "cargoes" "LCornLaws$Cargoes;") wdX5_best_0) (fun _ h9 => h9) rfl dX5_best_1 ?_
  refine lv_iload_n hx hb dX5_best_4 rfl (lv_at hl 1 rfl) ?_
  refine vp_callSi (W.runV (C := RX0) (As := [.int p1]) (rest := []) ⟨hx, hb, hml, hown, hts⟩ (cX0_has_ok l D cI cII (q 4) u.2.2.2.1 p1 _ h) (cwV 1 hts gX5_best_X0_has rfl rfl rfl (by decide +kernel) ⟨Nat.le_of_ble_eq_true rfl, Nat.le_of_ble_eq_true rfl⟩) (z_preV hK (z_XC (cII := cII) (u := u) hP) rfl rfl) rfl rfl hl.1 rfl (lv_room (Nat.le_of_ble_eq_true rfl)) dX5_best_5 ⟨Nat.le_of_ble_eq_true rfl, Nat.le_of_ble_eq_true rfl⟩) (fun r1 h => ?_)
  refine lv_if_eq (tgt := 32) hx hb dX5_best_8 (by decide) (fun c2 => ?_) (fun c2 => ?_)
  · replace h := h.1 c2
    refine lv_bipush (v := (-2)) hx hb dX5_best_32 (by decide) ?_
    exact W.iret (v := (-2)) hx hb hr (fun t ht hW => ⟨(-2), rfl, h, ht⟩) (fun _ h9 => by cases h9) dX5_best_34
  · replace h := h.2 c2
    refine lv_iload_n hx hb dX5_best_11 rfl (lv_at hl 2 rfl) ?_
    refine lv_iconst (v := 0) hx hb dX5_best_12 (by decide) ?_
    refine lv_bipush (v := 20) hx hb dX5_best_13 (by decide) ?_
    refine vp_callSi (W.runS (As := [.int p2, .int 0, .int 20]) (rest := []) ⟨hx, hb, hml, hown, hts⟩ (cX5_isOutside_ok l p2 0 20 _ h) (va_cwS 3 hts gX5_best_X5_isOutside rfl rfl rfl (by decide +kernel) ⟨Nat.le_of_ble_eq_true rfl, Nat.le_of_ble_eq_true rfl⟩) z_preS rfl rfl hl.1 rfl (lv_room (Nat.le_of_ble_eq_true rfl)) dX5_best_15 ⟨Nat.le_of_ble_eq_true rfl, Nat.le_of_ble_eq_true rfl⟩) (fun r3 h => ?_)
    refine lv_if_ne (tgt := 32) hx hb dX5_best_18 (by decide) (fun c4 => ?_) (fun c4 => ?_)
    · replace h := h.1 c4
      refine lv_bipush (v := (-2)) hx hb dX5_best_32 (by decide) ?_
      exact W.iret (v := (-2)) hx hb hr (fun t ht hW => ⟨(-2), rfl, h, ht⟩) (fun _ h9 => by cases h9) dX5_best_34
    · replace h := h.2 c4
      refine lv_iload_n hx hb dX5_best_21 rfl (lv_at hl 3 rfl) ?_
      refine lv_iconst (v := 0) hx hb dX5_best_22 (by decide) ?_
      refine lv_sipush (v := 2000) hx hb dX5_best_23 (by decide) ?_
      refine vp_callSi (W.runS (As := [.int p3, .int 0, .int 2000]) (rest := []) ⟨hx, hb, hml, hown, hts⟩ (cX5_isOutside_ok l p3 0 2000 _ h) (va_cwS 3 hts gX5_best_X5_isOutside rfl rfl rfl (by decide +kernel) ⟨Nat.le_of_ble_eq_true rfl, Nat.le_of_ble_eq_true rfl⟩) z_preS rfl rfl hl.1 rfl (lv_room (Nat.le_of_ble_eq_true rfl)) dX5_best_26 ⟨Nat.le_of_ble_eq_true rfl, Nat.le_of_ble_eq_true rfl⟩) (fun r5 h => ?_)
      refine lv_if_eq (tgt := 35) hx hb dX5_best_29 (by decide) (fun c6 => ?_) (fun c6 => ?_)
      · replace h := h.1 c6
        refine lv_aload_n hx hb dX5_best_35 rfl (lv_at hl 0 rfl) ?_
        refine va_get (D := D) (ci := 5) (v := .int (u.2.2.2.2.2.1 0)) (C := RX5) (T := TX5) (N := 8) hx hb hts inX5_best_5 hown hK hP 0 rfl rfl 5 (by decide) (hts (.fieldLink RX5 48 "CornLaws" "now" "I") wdX5_best_1) (fun _ h9 => h9) rfl dX5_best_36 ?_
        refine lv_istore (lv' := [(4, .int (u.2.2.2.2.2.1 0)), (0, .ref (q 0 0)), (1, .int p1), (2, .int p2), (3, .int p3)]) hx hb dX5_best_39 hl (by decide) rfl (fun ls hl => ?_)
        refine lv_aload_n hx hb dX5_best_41 rfl (lv_at hl 1 rfl) ?_
        refine lv_iload_n hx hb dX5_best_42 rfl (lv_at hl 2 rfl) ?_
        refine lv_aload_n hx hb dX5_best_43 rfl (lv_at hl 1 rfl) ?_
        refine va_get (D := D) (ci := 5) (v := .int (u.2.2.2.2.2.1 0)) (C := RX5) (T := TX5) (N := 8) hx hb hts inX5_best_5 hown hK hP 0 rfl rfl 5 (by decide) (hts (.fieldLink RX5 48 "CornLaws" "now" "I") wdX5_best_1) (fun _ h9 => h9) rfl dX5_best_44 ?_
        refine lv_iload_n hx hb dX5_best_47 rfl (lv_at hl 4 rfl) ?_
        refine vp_callSl (W.runV (C := RX5) (As := [.int p1, .int (u.2.2.2.2.2.1 0), .int p3]) (rest := []) ⟨hx, hb, hml, hown, hts⟩ (cX5_gainAt_ok l D cI cII q u p1 (u.2.2.2.2.2.1 0) p3 _ h) (cwV 3 hts gX5_best_X5_gainAt rfl rfl rfl (by decide +kernel) ⟨Nat.le_of_ble_eq_true rfl, Nat.le_of_ble_eq_true rfl⟩) (z_preV hK hP rfl rfl) rfl rfl hl.1 rfl (lv_room (Nat.le_of_ble_eq_true rfl)) dX5_best_48 ⟨Nat.le_of_ble_eq_true rfl, Nat.le_of_ble_eq_true rfl⟩) (fun r7 h => ?_)
        refine lv_lstore (lv' := [(5, .long r7), (4, .int (u.2.2.2.2.2.1 0)), (0, .ref (q 0 0)), (1, .int p1), (2, .int p2), (3, .int p3)]) hx hb dX5_best_51 hl (by decide) rfl (fun ls hl => ?_)
        refine lv_aload_n hx hb dX5_best_53 rfl (lv_at hl 2 rfl) ?_
        refine va_get (D := D) (ci := 5) (v := .int (u.2.2.2.2.2.1 0)) (C := RX5) (T := TX5) (N := 8) hx hb hts inX5_best_5 hown hK hP 0 rfl rfl 5 (by decide) (hts (.fieldLink RX5 48 "CornLaws" "now" "I") wdX5_best_1) (fun _ h9 => h9) rfl dX5_best_54 ?_
        refine lv_iconst (v := 1) hx hb dX5_best_57 (by decide) ?_
        refine lv_iadd hx hb dX5_best_58 ?_
        refine lv_istore (lv' := [(7, .int ((u.2.2.2.2.2.1 0) + 1)), (5, .long r7), (4, .int (u.2.2.2.2.2.1 0)), (0, .ref (q 0 0)), (1, .int p1), (2, .int p2), (3, .int p3)]) hx hb dX5_best_59 hl (by decide) rfl (fun ls hl => ?_)
        have hL61 : ∀ (K61 : Int32 → Int64 → Int32 → Prop) (hX : ∀ (x7_61 : Int32) (x5_61 : Int64) (x4_61 : Int32), K61 x7_61 x5_61 x4_61 → ∀ ls : Array Slot, lv_has ls 10 [(7, .int x7_61), (5, .long x5_61), (4, .int x4_61), (0, .ref (q 0 0)), (1, .int p1), (2, .int p2), (3, .int p3)] → W p l e (headSpec wsX5_best ({ frames := 5, cells := 0, slots := 0, locals := 128 } : Room)).room s m ([.ref (q 0 0), .int p1, .int p2, .int p3] : List Value).toArray below meth c s.heap [] 0 0 (MQ below (vp_Si post) ([.ref (q 0 0), .int p1, .int p2, .int p3] : List Value).toArray s 0 0 (fun _ => False)) (F0 m 104 ls [])) (n : Nat) (x7_61 : Int32) (x5_61 : Int64) (x4_61 : Int32), wpX5_best_L61 u p1 p2 p3 K61 n x7_61 x5_61 x4_61 → ∀ ls : Array Slot, lv_has ls 10 [(7, .int x7_61), (5, .long x5_61), (4, .int x4_61), (0, .ref (q 0 0)), (1, .int p1), (2, .int p2), (3, .int p3)] → W p l e (headSpec wsX5_best ({ frames := 5, cells := 0, slots := 0, locals := 128 } : Room)).room s m ([.ref (q 0 0), .int p1, .int p2, .int p3] : List Value).toArray below meth c s.heap [] 0 0 (MQ below (vp_Si post) ([.ref (q 0 0), .int p1, .int p2, .int p3] : List Value).toArray s 0 0 (fun _ => False)) (F0 m 61 ls []) := by
          intro K61 hX n
          induction n with
          | zero => intro x7_61 x5_61 x4_61 h; exact False.elim h
          | succ n ih =>
            intro x7_61 x5_61 x4_61 h ls hl
            rw [wpX5_best_L61] at h
            refine lv_iload hx hb dX5_best_61 (lv_at hl 0 rfl) ?_
            refine lv_aload_n hx hb dX5_best_63 rfl (lv_at hl 3 rfl) ?_
            refine va_get (D := D) (ci := 5) (v := .int (u.2.2.2.2.2.1 0)) (C := RX5) (T := TX5) (N := 8) hx hb hts inX5_best_5 hown hK hP 0 rfl rfl 5 (by decide) (hts (.fieldLink RX5 48 "CornLaws" "now" "I") wdX5_best_1) (fun _ h9 => h9) rfl dX5_best_64 ?_
            refine lv_iload_n hx hb dX5_best_67 rfl (lv_at hl 5 rfl) ?_
            refine lv_iadd hx hb dX5_best_68 ?_
            refine lv_icmp_gt (tgt := 104) hx hb dX5_best_69 (by decide) (fun c8 => ?_) (fun c8 => ?_)
            · replace h := h.1 c8
              exact hX x7_61 x5_61 x4_61 h ls (lv_sub hl [0, 1, 2, 3, 4, 5, 6] rfl)
            · replace h := h.2 c8
              refine lv_aload_n hx hb dX5_best_72 rfl (lv_at hl 3 rfl) ?_
              refine lv_iload_n hx hb dX5_best_73 rfl (lv_at hl 4 rfl) ?_
              refine lv_iload hx hb dX5_best_74 (lv_at hl 0 rfl) ?_
              refine lv_iload_n hx hb dX5_best_76 rfl (lv_at hl 6 rfl) ?_
              refine vp_callSl (W.runV (C := RX5) (As := [.int p1, .int x7_61, .int p3]) (rest := []) ⟨hx, hb, hml, hown, hts⟩ (cX5_gainAt_ok l D cI cII q u p1 x7_61 p3 _ h) (cwV 3 hts gX5_best_X5_gainAt rfl rfl rfl (by decide +kernel) ⟨Nat.le_of_ble_eq_true rfl, Nat.le_of_ble_eq_true rfl⟩) (z_preV hK hP rfl rfl) rfl rfl hl.1 rfl (lv_room (Nat.le_of_ble_eq_true rfl)) dX5_best_77 ⟨Nat.le_of_ble_eq_true rfl, Nat.le_of_ble_eq_true rfl⟩) (fun r9 h => ?_)
              refine lv_lstore (lv' := [(8, .long r9), (7, .int x7_61), (5, .long x5_61), (4, .int x4_61), (0, .ref (q 0 0)), (1, .int p1), (2, .int p2), (3, .int p3)]) hx hb dX5_best_80 hl (by decide) rfl (fun ls hl => ?_)
              refine lv_lload hx hb dX5_best_82 (lv_at hl 0 rfl) ?_
              refine lv_lload hx hb dX5_best_84 (lv_at hl 2 rfl) ?_
              refine W.lcmp hx hb dX5_best_86 ?_
              refine lv_if_le (tgt := 98) hx hb dX5_best_87 (by decide) (fun c10 => ?_) (fun c10 => ?_)
              · replace h := h.1 c10
                refine lv_iinc (v := (x7_61 + 1)) (lv' := [(7, .int (x7_61 + 1)), (8, .long r9), (5, .long x5_61), (4, .int x4_61), (0, .ref (q 0 0)), (1, .int p1), (2, .int p2), (3, .int p3)]) hx hb dX5_best_98 hl (k := 1) rfl rfl (by decide) rfl (fun ls hl => ?_)
                refine lv_goto (tgt := 61) hx hb dX5_best_101 (by decide) ?_
                exact ih (x7_61 + 1) x5_61 x4_61 h ls (lv_sub hl [0, 2, 3, 4, 5, 6, 7] rfl)
              · replace h := h.2 c10
                refine lv_lload hx hb dX5_best_90 (lv_at hl 0 rfl) ?_
                refine lv_lstore (lv' := [(5, .long r9), (8, .long r9), (7, .int x7_61), (4, .int x4_61), (0, .ref (q 0 0)), (1, .int p1), (2, .int p2), (3, .int p3)]) hx hb dX5_best_92 hl (by decide) rfl (fun ls hl => ?_)
                refine lv_iload hx hb dX5_best_94 (lv_at hl 2 rfl) ?_
                refine lv_istore (lv' := [(4, .int x7_61), (5, .long r9), (8, .long r9), (7, .int x7_61), (0, .ref (q 0 0)), (1, .int p1), (2, .int p2), (3, .int p3)]) hx hb dX5_best_96 hl (by decide) rfl (fun ls hl => ?_)
                refine lv_iinc (v := (x7_61 + 1)) (lv' := [(7, .int (x7_61 + 1)), (4, .int x7_61), (5, .long r9), (8, .long r9), (0, .ref (q 0 0)), (1, .int p1), (2, .int p2), (3, .int p3)]) hx hb dX5_best_98 hl (k := 3) rfl rfl (by decide) rfl (fun ls hl => ?_)
                refine lv_goto (tgt := 61) hx hb dX5_best_101 (by decide) ?_
                exact ih (x7_61 + 1) r9 x7_61 h ls (lv_sub hl [0, 2, 1, 4, 5, 6, 7] rfl)
        obtain ⟨n, h⟩ := h
        refine hL61 _ (fun x7_61 x5_61 x4_61 h ls hl => ?_) n ((u.2.2.2.2.2.1 0) + 1) r7 (u.2.2.2.2.2.1 0) h ls hl
        refine lv_iload hx hb dX5_best_104 (lv_at hl 2 rfl) ?_
        exact W.iret (v := x4_61) hx hb hr (fun t ht hW => ⟨x4_61, rfl, h, ht⟩) (fun _ h9 => by cases h9) dX5_best_106
      · replace h := h.2 c6
        refine lv_bipush (v := (-2)) hx hb dX5_best_32 (by decide) ?_
        exact W.iret (v := (-2)) hx hb hr (fun t ht hW => ⟨(-2), rfl, h, ht⟩) (fun _ h9 => by cases h9) dX5_best_34

/-! X5_count -/
set_option maxRecDepth 20000 in
theorem wdX5_count_0 : Cond.fieldLink RX5 48 "CornLaws" "now" "I" ∈ wsX5_count := by decide +kernel
set_option maxRecDepth 20000 in
theorem wdX5_count_1 : Cond.fieldLink RX5 12 "CornLaws" "returns" "LCornLaws$Returns;" ∈ wsX5_count := by decide +kernel
set_option maxRecDepth 20000 in
theorem wdX5_count_2 : Cond.fieldLink RX5 63 "CornLaws$Returns" "size" "I" ∈ wsX5_count := by decide +kernel
set_option maxRecDepth 20000 in
theorem wdX5_count_3 : Cond.fieldLink RX5 19 "CornLaws" "scales" "LCornLaws$Scales;" ∈ wsX5_count := by decide +kernel
set_option maxRecDepth 20000 in
theorem wdX5_count_4 : Cond.fieldLink RX5 107 "CornLaws$Scales" "size" "I" ∈ wsX5_count := by decide +kernel
set_option maxRecDepth 20000 in
theorem wdX5_count_5 : Cond.fieldLink RX5 33 "CornLaws" "cargoes" "LCornLaws$Cargoes;" ∈ wsX5_count := by decide +kernel
set_option maxRecDepth 20000 in
theorem wdX5_count_6 : Cond.fieldLink RX5 144 "CornLaws$Cargoes" "size" "I" ∈ wsX5_count := by decide +kernel
set_option maxRecDepth 20000 in
theorem wdX5_count_7 : Cond.fieldLink RX5 40 "CornLaws" "lettings" "LCornLaws$Lettings;" ∈ wsX5_count := by decide +kernel
set_option maxRecDepth 20000 in
theorem wdX5_count_8 : Cond.fieldLink RX5 154 "CornLaws$Lettings" "size" "I" ∈ wsX5_count := by decide +kernel
set_option maxRecDepth 20000 in
theorem inX5_count_5 : ∀ w ∈ wsX50, w ∈ wsX5_count := by decide +kernel
set_option maxRecDepth 20000 in
theorem inX5_count_3 : ∀ w ∈ wsX30, w ∈ wsX5_count := by decide +kernel
set_option maxRecDepth 20000 in
theorem inX5_count_4 : ∀ w ∈ wsX40, w ∈ wsX5_count := by decide +kernel
set_option maxRecDepth 20000 in
theorem inX5_count_0 : ∀ w ∈ wsX00, w ∈ wsX5_count := by decide +kernel
set_option maxRecDepth 20000 in
theorem inX5_count_2 : ∀ w ∈ wsX20, w ∈ wsX5_count := by decide +kernel
set_option maxHeartbeats 4000000 in
set_option maxRecDepth 100000 in
theorem cX5_count_ok (l : Launch) (D : va_G) (cI cII : ClassId) (q : Nat → Nat → Nat) (u : XS) (p1 : Int32) (post : Int32 → Prop) (h : wpX5_count u p1 post) : Met l yX5_count wsX5_count ({ frames := 1, cells := 0, slots := 0, locals := 22 } : Room) (zPc [.ref (q 0 0), .int p1] D cI cII (wX cI cII q u)) (vp_Si post) 0 0 (fun _ => False) := by
  refine Met.ofW (cc := cX5_count) (maxL := 2) (ret := (some .int)) (by decide) rfl ?_
  intro p e s m args below meth c s₁ B hml hv
  obtain ⟨rfl, hP, hK⟩ := hv
  have hx := B.exec
  have hb := B.bytes
  have hr := B.returns
  have hts := atoms_spec (ws := wsX5_count) B.pre
  have hown : s.vm.findClass RX5 = some m.cls := findClass_of_methodNamed B.named
  have hlocks := B.notSynchronized
  have hl := lv_entry ([.ref (q 0 0), .int p1]) (n := 2) (Nat.le_of_ble_eq_true rfl)
  rw [lg_entry_eq]
  generalize (lg_sl ([.ref (q 0 0), .int p1]) ++ List.replicate (2 - (lg_sl ([.ref (q 0 0), .int p1])).length) Slot.unset).toArray = ls at hl ⊢
  have hl : lv_has ls 2 [(0, .ref (q 0 0)), (1, .int p1)] := hl
  unfold wpX5_count at h
  refine lv_iload_n hx hb dX5_count_0 rfl (lv_at hl 1 rfl) ?_
  rcases z_sw5 p1 with c1 | c1 | c1 | c1 | c1 | c1 | c1
  · replace h := h.1 c1
    refine lv_tableOut (tgt := 85) hx hb dX5_count_1 c1 (by decide) ?_
    refine lv_bipush (v := (-2)) hx hb dX5_count_85 (by decide) ?_
    exact W.iret (v := (-2)) hx hb hr (fun t ht hW => ⟨(-2), rfl, h, ht⟩) (fun _ h9 => by cases h9) dX5_count_87
  · replace h := h.2.1 c1
    refine lv_tableIn (tgt := 40) (off := 39) hx hb dX5_count_1 (by rw [c1]; decide) (by rw [c1]; decide) (by rw [c1]; rfl) (by decide) ?_
    refine lv_aload_n hx hb dX5_count_40 rfl (lv_at hl 0 rfl) ?_
    refine va_get (D := D) (ci := 5) (v := .int (u.2.2.2.2.2.1 0)) (C := RX5) (T := TX5) (N := 8) hx hb hts inX5_count_5 hown hK hP 0 rfl rfl 5 (by decide) (hts (.fieldLink RX5 48 "CornLaws" "now" "I") wdX5_count_0) (fun _ h9 => h9) rfl dX5_count_41 ?_
    exact W.iret (v := (u.2.2.2.2.2.1 0)) hx hb hr (fun t ht hW => ⟨(u.2.2.2.2.2.1 0), rfl, h, ht⟩) (fun _ h9 => by cases h9) dX5_count_44
  · replace h := h.2.2.1 c1
    refine lv_tableIn (tgt := 45) (off := 44) hx hb dX5_count_1 (by rw [c1]; decide) (by rw [c1]; decide) (by rw [c1]; rfl) (by decide) ?_
    refine lv_aload_n hx hb dX5_count_45 rfl (lv_at hl 0 rfl) ?_
    refine va_get (D := D) (ci := 5) (v := .ref (q 1 0)) (C := RX5) (T := TX5) (N := 8) hx hb hts inX5_count_5 hown hK hP 0 rfl rfl 0 (by decide) (hts (.fieldLink RX5 12 "CornLaws" "returns" "LCornLaws$Returns;") wdX5_count_1) (fun _ h9 => h9) rfl dX5_count_46 ?_
    refine va_get (D := D) (ci := 3) (v := .int (u.1 9 0)) (C := RX3) (T := TX3) (N := 8) hx hb hts inX5_count_3 hown hK hP 1 rfl rfl 7 (by decide) (hts (.fieldLink RX5 63 "CornLaws$Returns" "size" "I") wdX5_count_2) (fun _ h9 => h9) rfl dX5_count_49 ?_
    exact W.iret (v := (u.1 9 0)) hx hb hr (fun t ht hW => ⟨(u.1 9 0), rfl, h, ht⟩) (fun _ h9 => by cases h9) dX5_count_52
  · replace h := h.2.2.2.1 c1
    refine lv_tableIn (tgt := 53) (off := 52) hx hb dX5_count_1 (by rw [c1]; decide) (by rw [c1]; decide) (by rw [c1]; rfl) (by decide) ?_
    refine lv_aload_n hx hb dX5_count_53 rfl (lv_at hl 0 rfl) ?_
    refine va_get (D := D) (ci := 5) (v := .ref (q 1 0)) (C := RX5) (T := TX5) (N := 8) hx hb hts inX5_count_5 hown hK hP 0 rfl rfl 0 (by decide) (hts (.fieldLink RX5 12 "CornLaws" "returns" "LCornLaws$Returns;") wdX5_count_1) (fun _ h9 => h9) rfl dX5_count_54 ?_
    refine vp_callSi (W.runV (C := RX3) (As := []) (rest := []) ⟨hx, hb, hml, hown, hts⟩ (cX3_struckOnes_ok l D cI cII (q 1) u.1  _ h) (cwV 0 hts gX5_count_X3_struckOnes rfl rfl rfl (by decide +kernel) ⟨Nat.le_of_ble_eq_true rfl, Nat.le_of_ble_eq_true rfl⟩) (z_preV hK (z_XR (cII := cII) (u := u) hP) rfl rfl) rfl rfl hl.1 rfl (lv_room (Nat.le_of_ble_eq_true rfl)) dX5_count_57 ⟨Nat.le_of_ble_eq_true rfl, Nat.le_of_ble_eq_true rfl⟩) (fun r2 h => ?_)
    exact W.iret (v := r2) hx hb hr (fun t ht hW => ⟨r2, rfl, h, ht⟩) (fun _ h9 => by cases h9) dX5_count_60
  · replace h := h.2.2.2.2.1 c1
    refine lv_tableIn (tgt := 61) (off := 60) hx hb dX5_count_1 (by rw [c1]; decide) (by rw [c1]; decide) (by rw [c1]; rfl) (by decide) ?_
    refine lv_aload_n hx hb dX5_count_61 rfl (lv_at hl 0 rfl) ?_
    refine va_get (D := D) (ci := 5) (v := .ref (q 2 0)) (C := RX5) (T := TX5) (N := 8) hx hb hts inX5_count_5 hown hK hP 0 rfl rfl 1 (by decide) (hts (.fieldLink RX5 19 "CornLaws" "scales" "LCornLaws$Scales;") wdX5_count_3) (fun _ h9 => h9) rfl dX5_count_62 ?_
    refine va_get (D := D) (ci := 4) (v := .int (u.2.1 9 0)) (C := RX4) (T := TX4) (N := 7) hx hb hts inX5_count_4 hown hK hP 9 rfl rfl 6 (by decide) (hts (.fieldLink RX5 107 "CornLaws$Scales" "size" "I") wdX5_count_4) (fun _ h9 => h9) rfl dX5_count_65 ?_
    exact W.iret (v := (u.2.1 9 0)) hx hb hr (fun t ht hW => ⟨(u.2.1 9 0), rfl, h, ht⟩) (fun _ h9 => by cases h9) dX5_count_68
  · replace h := h.2.2.2.2.2.1 c1
    refine lv_tableIn (tgt := 69) (off := 68) hx hb dX5_count_1 (by rw [c1]; decide) (by rw [c1]; decide) (by rw [c1]; rfl) (by decide) ?_
    refine lv_aload_n hx hb dX5_count_69 rfl (lv_at hl 0 rfl) ?_
    refine va_get (D := D) (ci := 5) (v := .ref (q 4 0)) (C := RX5) (T := TX5) (N := 8) hx hb hts inX5_count_5 hown hK hP 0 rfl rfl 3 (by decide) (hts (.fieldLink RX5 33 "CornLaws" "cargoes" "LCornLaws$Cargoes;") wdX5_count_5) (fun _ h9 => h9) rfl dX5_count_70 ?_
    refine va_get (D := D) (ci := 0) (v := .int (u.2.2.2.1 9 0)) (C := RX0) (T := TX0) (N := 7) hx hb hts inX5_count_0 hown hK hP 36 rfl rfl 6 (by decide) (hts (.fieldLink RX5 144 "CornLaws$Cargoes" "size" "I") wdX5_count_6) (fun _ h9 => h9) rfl dX5_count_73 ?_
    exact W.iret (v := (u.2.2.2.1 9 0)) hx hb hr (fun t ht hW => ⟨(u.2.2.2.1 9 0), rfl, h, ht⟩) (fun _ h9 => by cases h9) dX5_count_76
  · replace h := h.2.2.2.2.2.2 c1
    refine lv_tableIn (tgt := 77) (off := 76) hx hb dX5_count_1 (by rw [c1]; decide) (by rw [c1]; decide) (by rw [c1]; rfl) (by decide) ?_
    refine lv_aload_n hx hb dX5_count_77 rfl (lv_at hl 0 rfl) ?_
    refine va_get (D := D) (ci := 5) (v := .ref (q 5 0)) (C := RX5) (T := TX5) (N := 8) hx hb hts inX5_count_5 hown hK hP 0 rfl rfl 4 (by decide) (hts (.fieldLink RX5 40 "CornLaws" "lettings" "LCornLaws$Lettings;") wdX5_count_7) (fun _ h9 => h9) rfl dX5_count_78 ?_
    refine va_get (D := D) (ci := 2) (v := .int (u.2.2.2.2.1 9 0)) (C := RX2) (T := TX2) (N := 4) hx hb hts inX5_count_2 hown hK hP 43 rfl rfl 3 (by decide) (hts (.fieldLink RX5 154 "CornLaws$Lettings" "size" "I") wdX5_count_8) (fun _ h9 => h9) rfl dX5_count_81 ?_
    exact W.iret (v := (u.2.2.2.2.1 9 0)) hx hb hr (fun t ht hW => ⟨(u.2.2.2.2.1 9 0), rfl, h, ht⟩) (fun _ h9 => by cases h9) dX5_count_84
