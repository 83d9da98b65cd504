theorem z_setM17 {cI : ClassId} {q : Nat → Nat} {w : MS} {g : Nat → Int32} : (wM cI q w).set 18 (q 18, .inl (cI, 20, .inl g)) = wM cI q (va_up w.1 17 g, w.2.1, w.2.2) := rfl
theorem z_setM18 {cI : ClassId} {q : Nat → Nat} {w : MS} {g : Nat → Int32} : (wM cI q w).set 19 (q 19, .inl (cI, 20, .inl g)) = wM cI q (va_up w.1 18 g, w.2.1, w.2.2) := rfl
theorem z_setM22 {cI : ClassId} {q : Nat → Nat} {w : MS} {g : Nat → Int32} : (wM cI q w).set 23 (q 23, .inl (cI, 100, .inl g)) = wM cI q (va_up w.1 22 g, w.2.1, w.2.2) := rfl
theorem z_setM23 {cI : ClassId} {q : Nat → Nat} {w : MS} {g : Nat → Int32} : (wM cI q w).set 24 (q 24, .inl (cI, 100, .inl g)) = wM cI q (va_up w.1 23 g, w.2.1, w.2.2) := rfl
theorem z_setM24 {cI : ClassId} {q : Nat → Nat} {w : MS} {g : Nat → Int32} : (wM cI q w).set 25 (q 25, .inl (cI, 100, .inl g)) = wM cI q (va_up w.1 24 g, w.2.1, w.2.2) := rfl
/-! X6_letOut -/
set_option maxRecDepth 20000 in
theorem wdX6_letOut_0 : Cond.constantLong RX6 142 (-2) ∈ wsX6_letOut := by decide +kernel
set_option maxRecDepth 20000 in
theorem wdX6_letOut_1 : Cond.fieldLink RX6 61 "CornLawsModel" "cargoBond" "[I" ∈ wsX6_letOut := by decide +kernel
set_option maxRecDepth 20000 in
theorem wdX6_letOut_2 : Cond.fieldLink RX6 146 "CornLawsModel" "lettings" "I" ∈ wsX6_letOut := by decide +kernel
set_option maxRecDepth 20000 in
theorem wdX6_letOut_3 : Cond.fieldLink RX6 58 "CornLawsModel" "cargoGrain" "[I" ∈ wsX6_letOut := by decide +kernel
set_option maxRecDepth 20000 in
theorem wdX6_letOut_4 : Cond.fieldLink RX6 96 "CornLawsModel" "week" "I" ∈ wsX6_letOut := by decide +kernel
set_option maxRecDepth 20000 in
theorem wdX6_letOut_5 : Cond.fieldLink RX6 64 "CornLawsModel" "cargoOut" "[I" ∈ wsX6_letOut := by decide +kernel
set_option maxRecDepth 20000 in
theorem wdX6_letOut_6 : Cond.fieldLink RX6 76 "CornLawsModel" "letGrain" "[I" ∈ wsX6_letOut := by decide +kernel
set_option maxRecDepth 20000 in
theorem wdX6_letOut_7 : Cond.fieldLink RX6 79 "CornLawsModel" "letWeek" "[I" ∈ wsX6_letOut := by decide +kernel
set_option maxRecDepth 20000 in
theorem wdX6_letOut_8 : Cond.fieldLink RX6 82 "CornLawsModel" "letMany" "[I" ∈ wsX6_letOut := by decide +kernel
set_option maxRecDepth 20000 in
theorem wdX6_letOut_9 : Cond.fieldLink RX6 151 "CornLawsModel" "chest" "J" ∈ wsX6_letOut := by decide +kernel
set_option maxRecDepth 20000 in
theorem wdX6_letOut_10 : Cond.constantLong RX6 149 (-4) ∈ wsX6_letOut := by decide +kernel
set_option maxRecDepth 20000 in
theorem wdX6_letOut_11 : Cond.constantLong RX6 144 (-3) ∈ wsX6_letOut := by decide +kernel
set_option maxRecDepth 20000 in
theorem inX6_letOut_6 : ∀ w ∈ wsX60, w ∈ wsX6_letOut := by decide +kernel
set_option maxHeartbeats 4000000 in
set_option maxRecDepth 100000 in
theorem cX6_letOut_ok (l : Launch) (D : va_G) (cI cII : ClassId) (q : Nat → Nat) (w : MS) (p1 : Int32) (p2 : Int32) (post : Int64 → MS → Prop) (h : wpX6_letOut w p1 p2 post) : Met l yX6_letOut wsX6_letOut ({ frames := 5, cells := 0, slots := 0, locals := 128 } : Room) (zPm [.ref (q 0), .int p1, .int p2] D cI cII (wM cI q w)) (va_Ql post (fun (z : MS) (t : State) => va_P D vwCl (wM cI q z) t.heap) (z_in (wM cI q w))) 0 0 (z_in (wM cI q w)) := by
  refine Met.ofW (cc := cX6_letOut) (maxL := 5) (ret := (some .long)) (by decide) rfl ?_
  intro p e s m args below meth c s₁ B hml hv
  obtain ⟨rfl, hP, hK, hD0⟩ := hv
  have hx := B.exec
  have hb := B.bytes
  have hr := B.returns
  have hts := atoms_spec (ws := wsX6_letOut) B.pre
  have hown : s.vm.findClass RX6 = some m.cls := findClass_of_methodNamed B.named
  have hlocks := B.notSynchronized
  have hD := z_Dself hD0
  generalize hAe : z_in (wM cI q w) = A at hD ⊢
  have hS : va_S A s.heap s.heap [] := va_S.rf
  have hl := lv_entry ([.ref (q 0), .int p1, .int p2]) (n := 5) (Nat.le_of_ble_eq_true rfl)
  rw [lg_entry_eq]
  generalize (lg_sl ([.ref (q 0), .int p1, .int p2]) ++ List.replicate (5 - (lg_sl ([.ref (q 0), .int p1, .int p2])).length) Slot.unset).toArray = ls at hl ⊢
  have hl : lv_has ls 5 [(0, .ref (q 0)), (1, .int p1), (2, .int p2)] := hl
  unfold wpX6_letOut at h
  refine lv_aload_n hx hb dX6_letOut_0 rfl (lv_at hl 0 rfl) ?_
  refine lv_iload_n hx hb dX6_letOut_1 rfl (lv_at hl 1 rfl) ?_
  refine vp_callSi (W.runV (C := RX6) (As := [.int p1]) (rest := []) ⟨hx, hb, hml, hown, hts⟩ (cX6_isCargo_ok l D cI cII q w p1 _ h) (cwV 1 hts gX6_letOut_X6_isCargo rfl rfl rfl (by decide +kernel) ⟨Nat.le_of_ble_eq_true rfl, Nat.le_of_ble_eq_true rfl⟩) (z_preV hK hP rfl rfl) rfl rfl hl.1 rfl (lv_room (Nat.le_of_ble_eq_true rfl)) dX6_letOut_2 ⟨Nat.le_of_ble_eq_true rfl, Nat.le_of_ble_eq_true rfl⟩) (fun r1 h => ?_)
  refine lv_if_eq (tgt := 19) hx hb dX6_letOut_5 (by decide) (fun c2 => ?_) (fun c2 => ?_)
  · replace h := h.1 c2
    refine lv_ldc2 (v := (-2)) hx hb hown (hts (.constantLong RX6 142 (-2)) wdX6_letOut_0) dX6_letOut_19 ?_
    exact W.lret (v := (-2)) hx hb hr (fun t ht hW => ⟨⟨(-2), w, rfl, h, by show va_P D vwCl _ t.heap; rw [ht]; exact hP⟩, hS.F ht⟩) hS.2.2 dX6_letOut_22
  · replace h := h.2 c2
    refine lv_iload_n hx hb dX6_letOut_8 rfl (lv_at hl 2 rfl) ?_
    refine lv_iconst (v := 1) hx hb dX6_letOut_9 (by decide) ?_
    refine lv_sipush (v := 10000) hx hb dX6_letOut_10 (by decide) ?_
    refine vp_callSi (W.runS (As := [.int p2, .int 1, .int 10000]) (rest := []) ⟨hx, hb, hml, hown, hts⟩ (cX6_in_ok l p2 1 10000 _ h) (va_cwS 3 hts gX6_letOut_X6_in rfl rfl rfl (by decide +kernel) ⟨Nat.le_of_ble_eq_true rfl, Nat.le_of_ble_eq_true rfl⟩) z_preS rfl rfl hl.1 rfl (lv_room (Nat.le_of_ble_eq_true rfl)) dX6_letOut_13 ⟨Nat.le_of_ble_eq_true rfl, Nat.le_of_ble_eq_true rfl⟩) (fun r3 h => ?_)
    refine lv_if_ne (tgt := 23) hx hb dX6_letOut_16 (by decide) (fun c4 => ?_) (fun c4 => ?_)
    · replace h := h.1 c4
      refine lv_aload_n hx hb dX6_letOut_23 rfl (lv_at hl 0 rfl) ?_
      refine va_get (D := D) (ci := 6) (v := .ref (q 18)) (C := RX6) (T := TX6) (N := 34) hx hb hts inX6_letOut_6 hown hK hP 0 rfl rfl 21 (by decide) (hts (.fieldLink RX6 61 "CornLawsModel" "cargoBond" "[I") wdX6_letOut_1) (fun _ h9 => h9) rfl dX6_letOut_24 ?_
      refine lv_iload_n hx hb dX6_letOut_27 rfl (lv_at hl 1 rfl) ?_
      obtain ⟨hi5, h⟩ := h
      refine va_iald (f := w.1 17) hx hb hK hP 18 0 rfl rfl hi5 dX6_letOut_28 ?_
      refine lv_iload_n hx hb dX6_letOut_29 rfl (lv_at hl 2 rfl) ?_
      refine lv_icmp_ge (tgt := 37) hx hb dX6_letOut_30 (by decide) (fun c6 => ?_) (fun c6 => ?_)
      · replace h := h.1 c6
        refine lv_aload_n hx hb dX6_letOut_37 rfl (lv_at hl 0 rfl) ?_
        refine va_get (D := D) (ci := 6) (v := .int (w.2.1 5)) (C := RX6) (T := TX6) (N := 34) hx hb hts inX6_letOut_6 hown hK hP 0 rfl rfl 27 (by decide) (hts (.fieldLink RX6 146 "CornLawsModel" "lettings" "I") wdX6_letOut_2) (fun _ h9 => h9) rfl dX6_letOut_38 ?_
        refine lv_bipush (v := 100) hx hb dX6_letOut_41 (by decide) ?_
        refine lv_icmp_ne (tgt := 50) hx hb dX6_letOut_43 (by decide) (fun c7 => ?_) (fun c7 => ?_)
        · replace h := h.1 c7
          refine lv_iload_n hx hb dX6_letOut_50 rfl (lv_at hl 2 rfl) ?_
          refine lv_i2l (v := p2.toInt64) hx hb dX6_letOut_51 rfl ?_
          refine lv_aload_n hx hb dX6_letOut_52 rfl (lv_at hl 0 rfl) ?_
          refine lv_aload_n hx hb dX6_letOut_53 rfl (lv_at hl 0 rfl) ?_
          refine va_get (D := D) (ci := 6) (v := .ref (q 17)) (C := RX6) (T := TX6) (N := 34) hx hb hts inX6_letOut_6 hown hK hP 0 rfl rfl 20 (by decide) (hts (.fieldLink RX6 58 "CornLawsModel" "cargoGrain" "[I") wdX6_letOut_3) (fun _ h9 => h9) rfl dX6_letOut_54 ?_
          refine lv_iload_n hx hb dX6_letOut_57 rfl (lv_at hl 1 rfl) ?_
          refine va_iald (f := w.1 16) hx hb hK hP 17 0 rfl rfl hi5 dX6_letOut_58 ?_
          refine lv_aload_n hx hb dX6_letOut_59 rfl (lv_at hl 0 rfl) ?_
          refine va_get (D := D) (ci := 6) (v := .int (w.2.1 0)) (C := RX6) (T := TX6) (N := 34) hx hb hts inX6_letOut_6 hown hK hP 0 rfl rfl 0 (by decide) (hts (.fieldLink RX6 96 "CornLawsModel" "week" "I") wdX6_letOut_4) (fun _ h9 => h9) rfl dX6_letOut_60 ?_
          refine lv_aload_n hx hb dX6_letOut_63 rfl (lv_at hl 0 rfl) ?_
          refine va_get (D := D) (ci := 6) (v := .int (w.2.1 0)) (C := RX6) (T := TX6) (N := 34) hx hb hts inX6_letOut_6 hown hK hP 0 rfl rfl 0 (by decide) (hts (.fieldLink RX6 96 "CornLawsModel" "week" "I") wdX6_letOut_4) (fun _ h9 => h9) rfl dX6_letOut_64 ?_
          refine vp_callSi (W.runV (C := RX6) (As := [.int (w.1 16 p1.toNatClampNeg), .int (w.2.1 0), .int (w.2.1 0)]) (rest := [.long p2.toInt64]) ⟨hx, hb, hml, hown, hts⟩ (cX6_dutyAt_ok l D cI cII q w (w.1 16 p1.toNatClampNeg) (w.2.1 0) (w.2.1 0) _ h) (cwV 3 hts gX6_letOut_X6_dutyAt rfl rfl rfl (by decide +kernel) ⟨Nat.le_of_ble_eq_true rfl, Nat.le_of_ble_eq_true rfl⟩) (z_preV hK hP rfl rfl) rfl rfl hl.1 rfl (lv_room (Nat.le_of_ble_eq_true rfl)) dX6_letOut_67 ⟨Nat.le_of_ble_eq_true rfl, Nat.le_of_ble_eq_true rfl⟩) (fun r8 h => ?_)
          refine lv_i2l (v := r8.toInt64) hx hb dX6_letOut_70 rfl ?_
          refine lv_lmul hx hb dX6_letOut_71 ?_
          refine lv_lstore_n (lv' := [(3, .long (p2.toInt64 * r8.toInt64)), (0, .ref (q 0)), (1, .int p1), (2, .int p2)]) hx hb dX6_letOut_72 rfl hl (by decide) rfl (fun ls hl => ?_)
          refine lv_aload_n hx hb dX6_letOut_73 rfl (lv_at hl 1 rfl) ?_
          refine va_get (D := D) (ci := 6) (v := .ref (q 18)) (C := RX6) (T := TX6) (N := 34) hx hb hts inX6_letOut_6 hown hK hP 0 rfl rfl 21 (by decide) (hts (.fieldLink RX6 61 "CornLawsModel" "cargoBond" "[I") wdX6_letOut_1) (fun _ h9 => h9) rfl dX6_letOut_74 ?_
          refine lv_iload_n hx hb dX6_letOut_77 rfl (lv_at hl 2 rfl) ?_
          refine lv_dup2_11 hx hb dX6_letOut_78 rfl rfl ?_
          refine va_iald (f := w.1 17) hx hb hK hP 18 0 rfl rfl hi5 dX6_letOut_79 ?_
          refine lv_iload_n hx hb dX6_letOut_80 rfl (lv_at hl 3 rfl) ?_
          refine lv_isub hx hb dX6_letOut_81 ?_
          refine va_iast (f := w.1 17) hx hb hK hP hD hS 18 0 rfl rfl hi5 dX6_letOut_82 (fun H locs hP hD hS => ?_)
          rw [z_setM17] at hP hD
          obtain ⟨w9, ew9⟩ : ∃ z, z = (va_up w.1 17 (upd (w.1 17) (p1.toNatClampNeg) (((w.1 17 p1.toNatClampNeg) - p2))), w.2.1, w.2.2) := ⟨_, rfl⟩
          rw [← ew9] at hP hD
          replace h := h w9 ew9
          refine lv_aload_n hx hb dX6_letOut_83 rfl (lv_at hl 1 rfl) ?_
          refine va_get (D := D) (ci := 6) (v := .ref (q 19)) (C := RX6) (T := TX6) (N := 34) hx hb hts inX6_letOut_6 hown hK hP 0 rfl rfl 22 (by decide) (hts (.fieldLink RX6 64 "CornLawsModel" "cargoOut" "[I") wdX6_letOut_5) (fun _ h9 => h9) rfl dX6_letOut_84 ?_
          refine lv_iload_n hx hb dX6_letOut_87 rfl (lv_at hl 2 rfl) ?_
          refine lv_dup2_11 hx hb dX6_letOut_88 rfl rfl ?_
          refine va_iald (f := w9.1 18) hx hb hK hP 19 0 rfl rfl hi5 dX6_letOut_89 ?_
          refine lv_iload_n hx hb dX6_letOut_90 rfl (lv_at hl 3 rfl) ?_
          refine lv_iadd hx hb dX6_letOut_91 ?_
          refine va_iast (f := w9.1 18) hx hb hK hP hD hS 19 0 rfl rfl hi5 dX6_letOut_92 (fun H locs hP hD hS => ?_)
          rw [z_setM18] at hP hD
          obtain ⟨w10, ew10⟩ : ∃ z, z = (va_up w9.1 18 (upd (w9.1 18) (p1.toNatClampNeg) (((w9.1 18 p1.toNatClampNeg) + p2))), w9.2.1, w9.2.2) := ⟨_, rfl⟩
          rw [← ew10] at hP hD
          replace h := h w10 ew10
          refine lv_aload_n hx hb dX6_letOut_93 rfl (lv_at hl 1 rfl) ?_
          refine va_get (D := D) (ci := 6) (v := .ref (q 23)) (C := RX6) (T := TX6) (N := 34) hx hb hts inX6_letOut_6 hown hK hP 0 rfl rfl 28 (by decide) (hts (.fieldLink RX6 76 "CornLawsModel" "letGrain" "[I") wdX6_letOut_6) (fun _ h9 => h9) rfl dX6_letOut_94 ?_
          refine lv_aload_n hx hb dX6_letOut_97 rfl (lv_at hl 1 rfl) ?_
          refine va_get (D := D) (ci := 6) (v := .int (w10.2.1 5)) (C := RX6) (T := TX6) (N := 34) hx hb hts inX6_letOut_6 hown hK hP 0 rfl rfl 27 (by decide) (hts (.fieldLink RX6 146 "CornLawsModel" "lettings" "I") wdX6_letOut_2) (fun _ h9 => h9) rfl dX6_letOut_98 ?_
          refine lv_aload_n hx hb dX6_letOut_101 rfl (lv_at hl 1 rfl) ?_
          refine va_get (D := D) (ci := 6) (v := .ref (q 17)) (C := RX6) (T := TX6) (N := 34) hx hb hts inX6_letOut_6 hown hK hP 0 rfl rfl 20 (by decide) (hts (.fieldLink RX6 58 "CornLawsModel" "cargoGrain" "[I") wdX6_letOut_3) (fun _ h9 => h9) rfl dX6_letOut_102 ?_
          refine lv_iload_n hx hb dX6_letOut_105 rfl (lv_at hl 2 rfl) ?_
          refine va_iald (f := w10.1 16) hx hb hK hP 17 0 rfl rfl hi5 dX6_letOut_106 ?_
          obtain ⟨hi11, h⟩ := h
          refine va_iast (f := w10.1 22) hx hb hK hP hD hS 23 0 rfl rfl hi11 dX6_letOut_107 (fun H locs hP hD hS => ?_)
          rw [z_setM22] at hP hD
          obtain ⟨w12, ew12⟩ : ∃ z, z = (va_up w10.1 22 (upd (w10.1 22) ((w10.2.1 5).toNatClampNeg) ((w10.1 16 p1.toNatClampNeg))), w10.2.1, w10.2.2) := ⟨_, rfl⟩
          rw [← ew12] at hP hD
          replace h := h w12 ew12
          refine lv_aload_n hx hb dX6_letOut_108 rfl (lv_at hl 1 rfl) ?_
          refine va_get (D := D) (ci := 6) (v := .ref (q 24)) (C := RX6) (T := TX6) (N := 34) hx hb hts inX6_letOut_6 hown hK hP 0 rfl rfl 29 (by decide) (hts (.fieldLink RX6 79 "CornLawsModel" "letWeek" "[I") wdX6_letOut_7) (fun _ h9 => h9) rfl dX6_letOut_109 ?_
          refine lv_aload_n hx hb dX6_letOut_112 rfl (lv_at hl 1 rfl) ?_
          refine va_get (D := D) (ci := 6) (v := .int (w12.2.1 5)) (C := RX6) (T := TX6) (N := 34) hx hb hts inX6_letOut_6 hown hK hP 0 rfl rfl 27 (by decide) (hts (.fieldLink RX6 146 "CornLawsModel" "lettings" "I") wdX6_letOut_2) (fun _ h9 => h9) rfl dX6_letOut_113 ?_
          refine lv_aload_n hx hb dX6_letOut_116 rfl (lv_at hl 1 rfl) ?_
          refine va_get (D := D) (ci := 6) (v := .int (w12.2.1 0)) (C := RX6) (T := TX6) (N := 34) hx hb hts inX6_letOut_6 hown hK hP 0 rfl rfl 0 (by decide) (hts (.fieldLink RX6 96 "CornLawsModel" "week" "I") wdX6_letOut_4) (fun _ h9 => h9) rfl dX6_letOut_117 ?_
          obtain ⟨hi13, h⟩ := h
          refine va_iast (f := w12.1 23) hx hb hK hP hD hS 24 0 rfl rfl hi13 dX6_letOut_120 (fun H locs hP hD hS => ?_)
          rw [z_setM23] at hP hD
          obtain ⟨w14, ew14⟩ : ∃ z, z = (va_up w12.1 23 (upd (w12.1 23) ((w12.2.1 5).toNatClampNeg) ((w12.2.1 0))), w12.2.1, w12.2.2) := ⟨_, rfl⟩
          rw [← ew14] at hP hD
          replace h := h w14 ew14
          refine lv_aload_n hx hb dX6_letOut_121 rfl (lv_at hl 1 rfl) ?_
          refine va_get (D := D) (ci := 6) (v := .ref (q 25)) (C := RX6) (T := TX6) (N := 34) hx hb hts inX6_letOut_6 hown hK hP 0 rfl rfl 30 (by decide) (hts (.fieldLink RX6 82 "CornLawsModel" "letMany" "[I") wdX6_letOut_8) (fun _ h9 => h9) rfl dX6_letOut_122 ?_
          refine lv_aload_n hx hb dX6_letOut_125 rfl (lv_at hl 1 rfl) ?_
          refine va_get (D := D) (ci := 6) (v := .int (w14.2.1 5)) (C := RX6) (T := TX6) (N := 34) hx hb hts inX6_letOut_6 hown hK hP 0 rfl rfl 27 (by decide) (hts (.fieldLink RX6 146 "CornLawsModel" "lettings" "I") wdX6_letOut_2) (fun _ h9 => h9) rfl dX6_letOut_126 ?_
          refine lv_iload_n hx hb dX6_letOut_129 rfl (lv_at hl 3 rfl) ?_
          obtain ⟨hi15, h⟩ := h
          refine va_iast (f := w14.1 24) hx hb hK hP hD hS 25 0 rfl rfl hi15 dX6_letOut_130 (fun H locs hP hD hS => ?_)
          rw [z_setM24] at hP hD
          obtain ⟨w16, ew16⟩ : ∃ z, z = (va_up w14.1 24 (upd (w14.1 24) ((w14.2.1 5).toNatClampNeg) (p2)), w14.2.1, w14.2.2) := ⟨_, rfl⟩
          rw [← ew16] at hP hD
          replace h := h w16 ew16
          refine lv_aload_n hx hb dX6_letOut_131 rfl (lv_at hl 1 rfl) ?_
          refine lv_dup hx hb dX6_letOut_132 rfl ?_
          refine va_get (D := D) (ci := 6) (v := .int (w16.2.1 5)) (C := RX6) (T := TX6) (N := 34) hx hb hts inX6_letOut_6 hown hK hP 0 rfl rfl 27 (by decide) (hts (.fieldLink RX6 146 "CornLawsModel" "lettings" "I") wdX6_letOut_2) (fun _ h9 => h9) rfl dX6_letOut_133 ?_
          refine lv_iconst (v := 1) hx hb dX6_letOut_136 (by decide) ?_
          refine lv_iadd hx hb dX6_letOut_137 ?_
          refine va_put (D := D) (ci := 6) (v := .int ((w16.2.1 5) + 1)) (ty := .int) (C := RX6) (T := TX6) (N := 34) hx hb hts inX6_letOut_6 tyX6 tyX6_ok nmX6 hown hK hP hD hS 0 rfl rfl 27 (by decide) (hts (.fieldLink RX6 146 "CornLawsModel" "lettings" "I") wdX6_letOut_2) (fun _ h9 => h9) rfl (by decide +kernel) rfl rfl (Nat.le_of_ble_eq_true rfl) dX6_letOut_138 (fun H locs hP hD hS => ?_)
          have hP : va_P D vwCl (wM cI q (w16.1, (upd w16.2.1 5 (((w16.2.1 5) + 1))), w16.2.2)) H := hP
          have hD : va_D A (wM cI q (w16.1, (upd w16.2.1 5 (((w16.2.1 5) + 1))), w16.2.2)) := hD
          refine lv_aload_n hx hb dX6_letOut_141 rfl (lv_at hl 1 rfl) ?_
          refine lv_dup hx hb dX6_letOut_142 rfl ?_
          refine va_get (D := D) (ci := 6) (v := .long (w16.2.2)) (C := RX6) (T := TX6) (N := 34) hx hb hts inX6_letOut_6 hown hK hP 0 rfl rfl 31 (by decide) (hts (.fieldLink RX6 151 "CornLawsModel" "chest" "J") wdX6_letOut_9) (fun _ h9 => h9) rfl dX6_letOut_143 ?_
          refine lv_lload_n hx hb dX6_letOut_146 rfl (lv_at hl 0 rfl) ?_
          refine lv_ladd hx hb dX6_letOut_147 ?_
          refine va_put (D := D) (ci := 6) (v := .long ((w16.2.2) + (p2.toInt64 * r8.toInt64))) (ty := .long) (C := RX6) (T := TX6) (N := 34) hx hb hts inX6_letOut_6 tyX6 tyX6_ok nmX6 hown hK hP hD hS 0 rfl rfl 31 (by decide) (hts (.fieldLink RX6 151 "CornLawsModel" "chest" "J") wdX6_letOut_9) (fun _ h9 => h9) rfl (by decide +kernel) rfl rfl (Nat.le_of_ble_eq_true rfl) dX6_letOut_148 (fun H locs hP hD hS => ?_)
          have hP : va_P D vwCl (wM cI q (w16.1, (upd w16.2.1 5 (((w16.2.1 5) + 1))), (((w16.2.2) + (p2.toInt64 * r8.toInt64))))) H := hP
          have hD : va_D A (wM cI q (w16.1, (upd w16.2.1 5 (((w16.2.1 5) + 1))), (((w16.2.2) + (p2.toInt64 * r8.toInt64))))) := hD
          refine lv_lload_n hx hb dX6_letOut_151 rfl (lv_at hl 0 rfl) ?_
          exact W.lret (v := (p2.toInt64 * r8.toInt64)) hx hb hr (fun t ht hW => ⟨⟨(p2.toInt64 * r8.toInt64), (w16.1, (upd w16.2.1 5 (((w16.2.1 5) + 1))), (((w16.2.2) + (p2.toInt64 * r8.toInt64)))), rfl, h, by show va_P D vwCl _ t.heap; rw [ht]; exact hP⟩, hS.F ht⟩) hS.2.2 dX6_letOut_152
        · replace h := h.2 c7
          refine lv_ldc2 (v := (-4)) hx hb hown (hts (.constantLong RX6 149 (-4)) wdX6_letOut_10) dX6_letOut_46 ?_
          exact W.lret (v := (-4)) hx hb hr (fun t ht hW => ⟨⟨(-4), w, rfl, h, by show va_P D vwCl _ t.heap; rw [ht]; exact hP⟩, hS.F ht⟩) hS.2.2 dX6_letOut_49
      · replace h := h.2 c6
        refine lv_ldc2 (v := (-3)) hx hb hown (hts (.constantLong RX6 144 (-3)) wdX6_letOut_11) dX6_letOut_33 ?_
        exact W.lret (v := (-3)) hx hb hr (fun t ht hW => ⟨⟨(-3), w, rfl, h, by show va_P D vwCl _ t.heap; rw [ht]; exact hP⟩, hS.F ht⟩) hS.2.2 dX6_letOut_36
    · replace h := h.2 c4
      refine lv_ldc2 (v := (-2)) hx hb hown (hts (.constantLong RX6 142 (-2)) wdX6_letOut_0) dX6_letOut_19 ?_
      exact W.lret (v := (-2)) hx hb hr (fun t ht hW => ⟨⟨(-2), w, rfl, h, by show va_P D vwCl _ t.heap; rw [ht]; exact hP⟩, hS.F ht⟩) hS.2.2 dX6_letOut_22

/-! X6_ship -/
set_option maxRecDepth 20000 in
theorem wdX6_ship_0 : Cond.fieldLink RX6 61 "CornLawsModel" "cargoBond" "[I" ∈ wsX6_ship := by decide +kernel
set_option maxRecDepth 20000 in
theorem wdX6_ship_1 : Cond.fieldLink RX6 67 "CornLawsModel" "cargoShipped" "[I" ∈ wsX6_ship := by decide +kernel
set_option maxRecDepth 20000 in
theorem inX6_ship_6 : ∀ w ∈ wsX60, w ∈ wsX6_ship := by decide +kernel
set_option maxHeartbeats 4000000 in
set_option maxRecDepth 100000 in
theorem cX6_ship_ok (l : Launch) (D : va_G) (cI cII : ClassId) (q : Nat → Nat) (w : MS) (p1 : Int32) (p2 : Int32) (post : Int32 → MS → Prop) (h : wpX6_ship w p1 p2 post) : Met l yX6_ship wsX6_ship ({ frames := 2, cells := 0, slots := 0, locals := 43 } : Room) (zPm [.ref (q 0), .int p1, .int p2] D cI cII (wM cI q w)) (va_Qi post (fun (z : MS) (t : State) => va_P D vwCl (wM cI q z) t.heap) (z_in (wM cI q w))) 0 0 (z_in (wM cI q w)) := by
  refine Met.ofW (cc := cX6_ship) (maxL := 3) (ret := (some .int)) (by decide) rfl ?_
  intro p e s m args below meth c s₁ B hml hv
  obtain ⟨rfl, hP, hK, hD0⟩ := hv
  have hx := B.exec
  have hb := B.bytes
  have hr := B.returns
  have hts := atoms_spec (ws := wsX6_ship) B.pre
  have hown : s.vm.findClass RX6 = some m.cls := findClass_of_methodNamed B.named
  have hlocks := B.notSynchronized
  have hD := z_Dself hD0
  generalize hAe : z_in (wM cI q w) = A at hD ⊢
  have hS : va_S A s.heap s.heap [] := va_S.rf
  have hl := lv_entry ([.ref (q 0), .int p1, .int p2]) (n := 3) (Nat.le_of_ble_eq_true rfl)
  rw [lg_entry_eq]
  generalize (lg_sl ([.ref (q 0), .int p1, .int p2]) ++ List.replicate (3 - (lg_sl ([.ref (q 0), .int p1, .int p2])).length) Slot.unset).toArray = ls at hl ⊢
  have hl : lv_has ls 3 [(0, .ref (q 0)), (1, .int p1), (2, .int p2)] := hl
  unfold wpX6_ship at h
  refine lv_aload_n hx hb dX6_ship_0 rfl (lv_at hl 0 rfl) ?_
  refine lv_iload_n hx hb dX6_ship_1 rfl (lv_at hl 1 rfl) ?_
  refine vp_callSi (W.runV (C := RX6) (As := [.int p1]) (rest := []) ⟨hx, hb, hml, hown, hts⟩ (cX6_isCargo_ok l D cI cII q w p1 _ h) (cwV 1 hts gX6_ship_X6_isCargo rfl rfl rfl (by decide +kernel) ⟨Nat.le_of_ble_eq_true rfl, Nat.le_of_ble_eq_true rfl⟩) (z_preV hK hP rfl rfl) rfl rfl hl.1 rfl (lv_room (Nat.le_of_ble_eq_true rfl)) dX6_ship_2 ⟨Nat.le_of_ble_eq_true rfl, Nat.le_of_ble_eq_true rfl⟩) (fun r1 h => ?_)
  refine lv_if_eq (tgt := 19) hx hb dX6_ship_5 (by decide) (fun c2 => ?_) (fun c2 => ?_)
  · replace h := h.1 c2
    refine lv_bipush (v := (-2)) hx hb dX6_ship_19 (by decide) ?_
    exact W.iret (v := (-2)) hx hb hr (fun t ht hW => ⟨⟨(-2), w, rfl, h, by show va_P D vwCl _ t.heap; rw [ht]; exact hP⟩, hS.F ht⟩) hS.2.2 dX6_ship_21
  · replace h := h.2 c2
    refine lv_iload_n hx hb dX6_ship_8 rfl (lv_at hl 2 rfl) ?_
    refine lv_iconst (v := 1) hx hb dX6_ship_9 (by decide) ?_
    refine lv_sipush (v := 10000) hx hb dX6_ship_10 (by decide) ?_
    refine vp_callSi (W.runS (As := [.int p2, .int 1, .int 10000]) (rest := []) ⟨hx, hb, hml, hown, hts⟩ (cX6_in_ok l p2 1 10000 _ h) (va_cwS 3 hts gX6_ship_X6_in rfl rfl rfl (by decide +kernel) ⟨Nat.le_of_ble_eq_true rfl, Nat.le_of_ble_eq_true rfl⟩) z_preS rfl rfl hl.1 rfl (lv_room (Nat.le_of_ble_eq_true rfl)) dX6_ship_13 ⟨Nat.le_of_ble_eq_true rfl, Nat.le_of_ble_eq_true rfl⟩) (fun r3 h => ?_)
    refine lv_if_ne (tgt := 22) hx hb dX6_ship_16 (by decide) (fun c4 => ?_) (fun c4 => ?_)
    · replace h := h.1 c4
      refine lv_aload_n hx hb dX6_ship_22 rfl (lv_at hl 0 rfl) ?_
      refine va_get (D := D) (ci := 6) (v := .ref (q 18)) (C := RX6) (T := TX6) (N := 34) hx hb hts inX6_ship_6 hown hK hP 0 rfl rfl 21 (by decide) (hts (.fieldLink RX6 61 "CornLawsModel" "cargoBond" "[I") wdX6_ship_0) (fun _ h9 => h9) rfl dX6_ship_23 ?_
      refine lv_iload_n hx hb dX6_ship_26 rfl (lv_at hl 1 rfl) ?_
      obtain ⟨hi5, h⟩ := h
      refine va_iald (f := w.1 17) hx hb hK hP 18 0 rfl rfl hi5 dX6_ship_27 ?_
      refine lv_iload_n hx hb dX6_ship_28 rfl (lv_at hl 2 rfl) ?_
      refine lv_icmp_ge (tgt := 35) hx hb dX6_ship_29 (by decide) (fun c6 => ?_) (fun c6 => ?_)
      · replace h := h.1 c6
        refine lv_aload_n hx hb dX6_ship_35 rfl (lv_at hl 0 rfl) ?_
        refine va_get (D := D) (ci := 6) (v := .ref (q 18)) (C := RX6) (T := TX6) (N := 34) hx hb hts inX6_ship_6 hown hK hP 0 rfl rfl 21 (by decide) (hts (.fieldLink RX6 61 "CornLawsModel" "cargoBond" "[I") wdX6_ship_0) (fun _ h9 => h9) rfl dX6_ship_36 ?_
        refine lv_iload_n hx hb dX6_ship_39 rfl (lv_at hl 1 rfl) ?_
        refine lv_dup2_11 hx hb dX6_ship_40 rfl rfl ?_
        refine va_iald (f := w.1 17) hx hb hK hP 18 0 rfl rfl hi5 dX6_ship_41 ?_
        refine lv_iload_n hx hb dX6_ship_42 rfl (lv_at hl 2 rfl) ?_
        refine lv_isub hx hb dX6_ship_43 ?_
        refine va_iast (f := w.1 17) hx hb hK hP hD hS 18 0 rfl rfl hi5 dX6_ship_44 (fun H locs hP hD hS => ?_)
        have hP : va_P D vwCl (wM cI q ((va_up w.1 17 (upd (w.1 17) (p1.toNatClampNeg) (((w.1 17 p1.toNatClampNeg) - p2)))), w.2.1, w.2.2)) H := hP
        have hD : va_D A (wM cI q ((va_up w.1 17 (upd (w.1 17) (p1.toNatClampNeg) (((w.1 17 p1.toNatClampNeg) - p2)))), w.2.1, w.2.2)) := hD
        refine lv_aload_n hx hb dX6_ship_45 rfl (lv_at hl 0 rfl) ?_
        refine va_get (D := D) (ci := 6) (v := .ref (q 20)) (C := RX6) (T := TX6) (N := 34) hx hb hts inX6_ship_6 hown hK hP 0 rfl rfl 23 (by decide) (hts (.fieldLink RX6 67 "CornLawsModel" "cargoShipped" "[I") wdX6_ship_1) (fun _ h9 => h9) rfl dX6_ship_46 ?_
        refine lv_iload_n hx hb dX6_ship_49 rfl (lv_at hl 1 rfl) ?_
        refine lv_dup2_11 hx hb dX6_ship_50 rfl rfl ?_
        refine va_iald (f := w.1 19) hx hb hK hP 20 0 rfl rfl hi5 dX6_ship_51 ?_
        refine lv_iload_n hx hb dX6_ship_52 rfl (lv_at hl 2 rfl) ?_
        refine lv_iadd hx hb dX6_ship_53 ?_
        refine va_iast (f := w.1 19) hx hb hK hP hD hS 20 0 rfl rfl hi5 dX6_ship_54 (fun H locs hP hD hS => ?_)
        have hP : va_P D vwCl (wM cI q ((va_up (va_up w.1 17 (upd (w.1 17) (p1.toNatClampNeg) (((w.1 17 p1.toNatClampNeg) - p2)))) 19 (upd (w.1 19) (p1.toNatClampNeg) (((w.1 19 p1.toNatClampNeg) + p2)))), w.2.1, w.2.2)) H := hP
        have hD : va_D A (wM cI q ((va_up (va_up w.1 17 (upd (w.1 17) (p1.toNatClampNeg) (((w.1 17 p1.toNatClampNeg) - p2)))) 19 (upd (w.1 19) (p1.toNatClampNeg) (((w.1 19 p1.toNatClampNeg) + p2)))), w.2.1, w.2.2)) := hD
        refine lv_aload_n hx hb dX6_ship_55 rfl (lv_at hl 0 rfl) ?_
        refine va_get (D := D) (ci := 6) (v := .ref (q 18)) (C := RX6) (T := TX6) (N := 34) hx hb hts inX6_ship_6 hown hK hP 0 rfl rfl 21 (by decide) (hts (.fieldLink RX6 61 "CornLawsModel" "cargoBond" "[I") wdX6_ship_0) (fun _ h9 => h9) rfl dX6_ship_56 ?_
        refine lv_iload_n hx hb dX6_ship_59 rfl (lv_at hl 1 rfl) ?_
        refine va_iald (f := upd (w.1 17) (p1.toNatClampNeg) (((w.1 17 p1.toNatClampNeg) - p2))) hx hb hK hP 18 0 rfl rfl hi5 dX6_ship_60 ?_
        exact W.iret (v := ((upd (w.1 17) (p1.toNatClampNeg) (((w.1 17 p1.toNatClampNeg) - p2))) p1.toNatClampNeg)) hx hb hr (fun t ht hW => ⟨⟨((upd (w.1 17) (p1.toNatClampNeg) (((w.1 17 p1.toNatClampNeg) - p2))) p1.toNatClampNeg), ((va_up (va_up w.1 17 (upd (w.1 17) (p1.toNatClampNeg) (((w.1 17 p1.toNatClampNeg) - p2)))) 19 (upd (w.1 19) (p1.toNatClampNeg) (((w.1 19 p1.toNatClampNeg) + p2)))), w.2.1, w.2.2), rfl, h, by show va_P D vwCl _ t.heap; rw [ht]; exact hP⟩, hS.F ht⟩) hS.2.2 dX6_ship_61
      · replace h := h.2 c6
        refine lv_bipush (v := (-3)) hx hb dX6_ship_32 (by decide) ?_
        exact W.iret (v := (-3)) hx hb hr (fun t ht hW => ⟨⟨(-3), w, rfl, h, by show va_P D vwCl _ t.heap; rw [ht]; exact hP⟩, hS.F ht⟩) hS.2.2 dX6_ship_34
    · replace h := h.2 c4
      refine lv_bipush (v := (-2)) hx hb dX6_ship_19 (by decide) ?_
      exact W.iret (v := (-2)) hx hb hr (fun t ht hW => ⟨⟨(-2), w, rfl, h, by show va_P D vwCl _ t.heap; rw [ht]; exact hP⟩, hS.F ht⟩) hS.2.2 dX6_ship_21

/-! X6_bond -/
set_option maxRecDepth 20000 in
theorem wdX6_bond_0 : Cond.fieldLink RX6 58 "CornLawsModel" "cargoGrain" "[I" ∈ wsX6_bond := by decide +kernel
set_option maxRecDepth 20000 in
theorem wdX6_bond_1 : Cond.fieldLink RX6 61 "CornLawsModel" "cargoBond" "[I" ∈ wsX6_bond := by decide +kernel
set_option maxRecDepth 20000 in
theorem wdX6_bond_2 : Cond.fieldLink RX6 64 "CornLawsModel" "cargoOut" "[I" ∈ wsX6_bond := by decide +kernel
set_option maxRecDepth 20000 in
theorem wdX6_bond_3 : Cond.fieldLink RX6 67 "CornLawsModel" "cargoShipped" "[I" ∈ wsX6_bond := by decide +kernel
set_option maxRecDepth 20000 in
theorem wdX6_bond_4 : Cond.fieldLink RX6 70 "CornLawsModel" "cargoSpoilt" "[I" ∈ wsX6_bond := by decide +kernel
set_option maxRecDepth 20000 in
theorem wdX6_bond_5 : Cond.fieldLink RX6 73 "CornLawsModel" "cargoWeek" "[I" ∈ wsX6_bond := by decide +kernel
set_option maxRecDepth 20000 in
theorem inX6_bond_6 : ∀ w ∈ wsX60, w ∈ wsX6_bond := by decide +kernel
set_option maxHeartbeats 4000000 in
set_option maxRecDepth 100000 in
theorem cX6_bond_ok (l : Launch) (D : va_G) (cI cII : ClassId) (q : Nat → Nat) (w : MS) (p1 : Int32) (p2 : Int32) (post : Int32 → Prop) (h : wpX6_bond w p1 p2 post) : Met l yX6_bond wsX6_bond ({ frames := 2, cells := 0, slots := 0, locals := 43 } : Room) (zPc [.ref (q 0), .int p1, .int p2] D cI cII (wM cI q w)) (vp_Si post) 0 0 (fun _ => False) := by
  refine Met.ofW (cc := cX6_bond) (maxL := 3) (ret := (some .int)) (by decide) rfl ?_
  intro p e s m args below meth c s₁ B hml hv
  obtain ⟨rfl, hP, hK⟩ := hv
  have hx := B.exec
  have hb := B.bytes
  have hr := B.returns
  have hts := atoms_spec (ws := wsX6_bond) B.pre
  have hown : s.vm.findClass RX6 = some m.cls := findClass_of_methodNamed B.named
  have hlocks := B.notSynchronized
  have hl := lv_entry ([.ref (q 0), .int p1, .int p2]) (n := 3) (Nat.le_of_ble_eq_true rfl)
  rw [lg_entry_eq]
  generalize (lg_sl ([.ref (q 0), .int p1, .int p2]) ++ List.replicate (3 - (lg_sl ([.ref (q 0), .int p1, .int p2])).length) Slot.unset).toArray = ls at hl ⊢
  have hl : lv_has ls 3 [(0, .ref (q 0)), (1, .int p1), (2, .int p2)] := hl
  unfold wpX6_bond at h
  refine lv_aload_n hx hb dX6_bond_0 rfl (lv_at hl 0 rfl) ?_
  refine lv_iload_n hx hb dX6_bond_1 rfl (lv_at hl 1 rfl) ?_
  refine vp_callSi (W.runV (C := RX6) (As := [.int p1]) (rest := []) ⟨hx, hb, hml, hown, hts⟩ (cX6_isCargo_ok l D cI cII q w p1 _ h) (cwV 1 hts gX6_bond_X6_isCargo rfl rfl rfl (by decide +kernel) ⟨Nat.le_of_ble_eq_true rfl, Nat.le_of_ble_eq_true rfl⟩) (z_preV hK hP rfl rfl) rfl rfl hl.1 rfl (lv_room (Nat.le_of_ble_eq_true rfl)) dX6_bond_2 ⟨Nat.le_of_ble_eq_true rfl, Nat.le_of_ble_eq_true rfl⟩) (fun r1 h => ?_)
  refine lv_if_ne (tgt := 11) hx hb dX6_bond_5 (by decide) (fun c2 => ?_) (fun c2 => ?_)
  · replace h := h.1 c2
    refine lv_iload_n hx hb dX6_bond_11 rfl (lv_at hl 2 rfl) ?_
    rcases z_sw5 p2 with c3 | c3 | c3 | c3 | c3 | c3 | c3
    · replace h := h.1 c3
      refine lv_tableOut (tgt := 94) hx hb dX6_bond_12 c3 (by decide) ?_
      refine lv_bipush (v := (-2)) hx hb dX6_bond_94 (by decide) ?_
      exact W.iret (v := (-2)) hx hb hr (fun t ht hW => ⟨(-2), rfl, h, ht⟩) (fun _ h9 => by cases h9) dX6_bond_96
    · replace h := h.2.1 c3
      refine lv_tableIn (tgt := 52) (off := 40) hx hb dX6_bond_12 (by rw [c3]; decide) (by rw [c3]; decide) (by rw [c3]; rfl) (by decide) ?_
      refine lv_aload_n hx hb dX6_bond_52 rfl (lv_at hl 0 rfl) ?_
      refine va_get (D := D) (ci := 6) (v := .ref (q 17)) (C := RX6) (T := TX6) (N := 34) hx hb hts inX6_bond_6 hown hK hP 0 rfl rfl 20 (by decide) (hts (.fieldLink RX6 58 "CornLawsModel" "cargoGrain" "[I") wdX6_bond_0) (fun _ h9 => h9) rfl dX6_bond_53 ?_
      refine lv_iload_n hx hb dX6_bond_56 rfl (lv_at hl 1 rfl) ?_
      obtain ⟨hi4, h⟩ := h
      refine va_iald (f := w.1 16) hx hb hK hP 17 0 rfl rfl hi4 dX6_bond_57 ?_
      exact W.iret (v := (w.1 16 p1.toNatClampNeg)) hx hb hr (fun t ht hW => ⟨(w.1 16 p1.toNatClampNeg), rfl, h, ht⟩) (fun _ h9 => by cases h9) dX6_bond_58
    · replace h := h.2.2.1 c3
      refine lv_tableIn (tgt := 59) (off := 47) hx hb dX6_bond_12 (by rw [c3]; decide) (by rw [c3]; decide) (by rw [c3]; rfl) (by decide) ?_
      refine lv_aload_n hx hb dX6_bond_59 rfl (lv_at hl 0 rfl) ?_
      refine va_get (D := D) (ci := 6) (v := .ref (q 18)) (C := RX6) (T := TX6) (N := 34) hx hb hts inX6_bond_6 hown hK hP 0 rfl rfl 21 (by decide) (hts (.fieldLink RX6 61 "CornLawsModel" "cargoBond" "[I") wdX6_bond_1) (fun _ h9 => h9) rfl dX6_bond_60 ?_
      refine lv_iload_n hx hb dX6_bond_63 rfl (lv_at hl 1 rfl) ?_
      obtain ⟨hi5, h⟩ := h
      refine va_iald (f := w.1 17) hx hb hK hP 18 0 rfl rfl hi5 dX6_bond_64 ?_
      exact W.iret (v := (w.1 17 p1.toNatClampNeg)) hx hb hr (fun t ht hW => ⟨(w.1 17 p1.toNatClampNeg), rfl, h, ht⟩) (fun _ h9 => by cases h9) dX6_bond_65
    · replace h := h.2.2.2.1 c3
      refine lv_tableIn (tgt := 66) (off := 54) hx hb dX6_bond_12 (by rw [c3]; decide) (by rw [c3]; decide) (by rw [c3]; rfl) (by decide) ?_
      refine lv_aload_n hx hb dX6_bond_66 rfl (lv_at hl 0 rfl) ?_
      refine va_get (D := D) (ci := 6) (v := .ref (q 19)) (C := RX6) (T := TX6) (N := 34) hx hb hts inX6_bond_6 hown hK hP 0 rfl rfl 22 (by decide) (hts (.fieldLink RX6 64 "CornLawsModel" "cargoOut" "[I") wdX6_bond_2) (fun _ h9 => h9) rfl dX6_bond_67 ?_
      refine lv_iload_n hx hb dX6_bond_70 rfl (lv_at hl 1 rfl) ?_
      obtain ⟨hi6, h⟩ := h
      refine va_iald (f := w.1 18) hx hb hK hP 19 0 rfl rfl hi6 dX6_bond_71 ?_
      exact W.iret (v := (w.1 18 p1.toNatClampNeg)) hx hb hr (fun t ht hW => ⟨(w.1 18 p1.toNatClampNeg), rfl, h, ht⟩) (fun _ h9 => by cases h9) dX6_bond_72
    · replace h := h.2.2.2.2.1 c3
      refine lv_tableIn (tgt := 73) (off := 61) hx hb dX6_bond_12 (by rw [c3]; decide) (by rw [c3]; decide) (by rw [c3]; rfl) (by decide) ?_
      refine lv_aload_n hx hb dX6_bond_73 rfl (lv_at hl 0 rfl) ?_
      refine va_get (D := D) (ci := 6) (v := .ref (q 20)) (C := RX6) (T := TX6) (N := 34) hx hb hts inX6_bond_6 hown hK hP 0 rfl rfl 23 (by decide) (hts (.fieldLink RX6 67 "CornLawsModel" "cargoShipped" "[I") wdX6_bond_3) (fun _ h9 => h9) rfl dX6_bond_74 ?_
      refine lv_iload_n hx hb dX6_bond_77 rfl (lv_at hl 1 rfl) ?_
      obtain ⟨hi7, h⟩ := h
      refine va_iald (f := w.1 19) hx hb hK hP 20 0 rfl rfl hi7 dX6_bond_78 ?_
      exact W.iret (v := (w.1 19 p1.toNatClampNeg)) hx hb hr (fun t ht hW => ⟨(w.1 19 p1.toNatClampNeg), rfl, h, ht⟩) (fun _ h9 => by cases h9) dX6_bond_79
    · replace h := h.2.2.2.2.2.1 c3
      refine lv_tableIn (tgt := 80) (off := 68) hx hb dX6_bond_12 (by rw [c3]; decide) (by rw [c3]; decide) (by rw [c3]; rfl) (by decide) ?_
      refine lv_aload_n hx hb dX6_bond_80 rfl (lv_at hl 0 rfl) ?_
      refine va_get (D := D) (ci := 6) (v := .ref (q 21)) (C := RX6) (T := TX6) (N := 34) hx hb hts inX6_bond_6 hown hK hP 0 rfl rfl 24 (by decide) (hts (.fieldLink RX6 70 "CornLawsModel" "cargoSpoilt" "[I") wdX6_bond_4) (fun _ h9 => h9) rfl dX6_bond_81 ?_
      refine lv_iload_n hx hb dX6_bond_84 rfl (lv_at hl 1 rfl) ?_
      obtain ⟨hi8, h⟩ := h
      refine va_iald (f := w.1 20) hx hb hK hP 21 0 rfl rfl hi8 dX6_bond_85 ?_
      exact W.iret (v := (w.1 20 p1.toNatClampNeg)) hx hb hr (fun t ht hW => ⟨(w.1 20 p1.toNatClampNeg), rfl, h, ht⟩) (fun _ h9 => by cases h9) dX6_bond_86
    · replace h := h.2.2.2.2.2.2 c3
      refine lv_tableIn (tgt := 87) (off := 75) hx hb dX6_bond_12 (by rw [c3]; decide) (by rw [c3]; decide) (by rw [c3]; rfl) (by decide) ?_
      refine lv_aload_n hx hb dX6_bond_87 rfl (lv_at hl 0 rfl) ?_
      refine va_get (D := D) (ci := 6) (v := .ref (q 22)) (C := RX6) (T := TX6) (N := 34) hx hb hts inX6_bond_6 hown hK hP 0 rfl rfl 25 (by decide) (hts (.fieldLink RX6 73 "CornLawsModel" "cargoWeek" "[I") wdX6_bond_5) (fun _ h9 => h9) rfl dX6_bond_88 ?_
      refine lv_iload_n hx hb dX6_bond_91 rfl (lv_at hl 1 rfl) ?_
      obtain ⟨hi9, h⟩ := h
      refine va_iald (f := w.1 21) hx hb hK hP 22 0 rfl rfl hi9 dX6_bond_92 ?_
      exact W.iret (v := (w.1 21 p1.toNatClampNeg)) hx hb hr (fun t ht hW => ⟨(w.1 21 p1.toNatClampNeg), rfl, h, ht⟩) (fun _ h9 => by cases h9) dX6_bond_93
  · replace h := h.2 c2
    refine lv_bipush (v := (-2)) hx hb dX6_bond_8 (by decide) ?_
    exact W.iret (v := (-2)) hx hb hr (fun t ht hW => ⟨(-2), rfl, h, ht⟩) (fun _ h9 => by cases h9) dX6_bond_10

/-! X6_chest -/
set_option maxRecDepth 20000 in
theorem wdX6_chest_0 : Cond.fieldLink RX6 151 "CornLawsModel" "chest" "J" ∈ wsX6_chest := by decide +kernel
set_option maxRecDepth 20000 in
theorem inX6_chest_6 : ∀ w ∈ wsX60, w ∈ wsX6_chest := by decide +kernel
set_option maxHeartbeats 4000000 in
set_option maxRecDepth 100000 in
theorem cX6_chest_ok (l : Launch) (D : va_G) (cI cII : ClassId) (q : Nat → Nat) (w : MS) (post : Int64 → Prop) (h : wpX6_chest w post) : Met l yX6_chest wsX6_chest ({ frames := 0, cells := 0, slots := 0, locals := 0 } : Room) (zPc [.ref (q 0)] D cI cII (wM cI q w)) (vp_Sl post) 0 0 (fun _ => False) := by
  refine Met.ofW (cc := cX6_chest) (maxL := 1) (ret := (some .long)) (by decide) rfl ?_
  intro p e s m args below meth c s₁ B hml hv
  obtain ⟨rfl, hP, hK⟩ := hv
  have hx := B.exec
  have hb := B.bytes
  have hr := B.returns
  have hts := atoms_spec (ws := wsX6_chest) B.pre
  have hown : s.vm.findClass RX6 = some m.cls := findClass_of_methodNamed B.named
  have hlocks := B.notSynchronized
  have hl := lv_entry ([.ref (q 0)]) (n := 1) (Nat.le_of_ble_eq_true rfl)
  rw [lg_entry_eq]
  generalize (lg_sl ([.ref (q 0)]) ++ List.replicate (1 - (lg_sl ([.ref (q 0)])).length) Slot.unset).toArray = ls at hl ⊢
  have hl : lv_has ls 1 [(0, .ref (q 0))] := hl
  unfold wpX6_chest at h
  refine lv_aload_n hx hb dX6_chest_0 rfl (lv_at hl 0 rfl) ?_
  refine va_get (D := D) (ci := 6) (v := .long (w.2.2)) (C := RX6) (T := TX6) (N := 34) hx hb hts inX6_chest_6 hown hK hP 0 rfl rfl 31 (by decide) (hts (.fieldLink RX6 151 "CornLawsModel" "chest" "J") wdX6_chest_0) (fun _ h9 => h9) rfl dX6_chest_1 ?_
  exact W.lret (v := (w.2.2)) hx hb hr (fun t ht hW => ⟨(w.2.2), rfl, h, ht⟩) (fun _ h9 => by cases h9) dX6_chest_4

/-! X6_paidAnew -/
set_option maxRecDepth 20000 in
theorem wdX6_paidAnew_0 : Cond.fieldLink RX6 146 "CornLawsModel" "lettings" "I" ∈ wsX6_paidAnew := by decide +kernel
set_option maxRecDepth 20000 in
theorem wdX6_paidAnew_1 : Cond.fieldLink RX6 82 "CornLawsModel" "letMany" "[I" ∈ wsX6_paidAnew := by decide +kernel
set_option maxRecDepth 20000 in
theorem wdX6_paidAnew_2 : Cond.fieldLink RX6 76 "CornLawsModel" "letGrain" "[I" ∈ wsX6_paidAnew := by decide +kernel
set_option maxRecDepth 20000 in
theorem wdX6_paidAnew_3 : Cond.fieldLink RX6 79 "CornLawsModel" "letWeek" "[I" ∈ wsX6_paidAnew := by decide +kernel
set_option maxRecDepth 20000 in
theorem inX6_paidAnew_6 : ∀ w ∈ wsX60, w ∈ wsX6_paidAnew := by decide +kernel
set_option maxHeartbeats 4000000 in
set_option maxRecDepth 100000 in
theorem cX6_paidAnew_ok (l : Launch) (D : va_G) (cI cII : ClassId) (q : Nat → Nat) (w : MS) (post : Int64 → Prop) (h : wpX6_paidAnew w post) : Met l yX6_paidAnew wsX6_paidAnew ({ frames := 5, cells := 0, slots := 0, locals := 128 } : Room) (zPc [.ref (q 0)] D cI cII (wM cI q w)) (vp_Sl post) 0 0 (fun _ => False) := by
  refine Met.ofW (cc := cX6_paidAnew) (maxL := 4) (ret := (some .long)) (by decide) rfl ?_
  intro p e s m args below meth c s₁ B hml hv
  obtain ⟨rfl, hP, hK⟩ := hv
  have hx := B.exec
  have hb := B.bytes
  have hr := B.returns
  have hts := atoms_spec (ws := wsX6_paidAnew) B.pre
  have hown : s.vm.findClass RX6 = some m.cls := findClass_of_methodNamed B.named
  have hlocks := B.notSynchronized
  have hl := lv_entry ([.ref (q 0)]) (n := 4) (Nat.le_of_ble_eq_true rfl)
  rw [lg_entry_eq]
  generalize (lg_sl ([.ref (q 0)]) ++ List.replicate (4 - (lg_sl ([.ref (q 0)])).length) Slot.unset).toArray = ls at hl ⊢
  have hl : lv_has ls 4 [(0, .ref (q 0))] := hl
  unfold wpX6_paidAnew at h
  refine lv_lconst (v := 0) hx hb dX6_paidAnew_0 (by decide) ?_
  refine lv_lstore_n (lv' := [(1, .long 0), (0, .ref (q 0))]) hx hb dX6_paidAnew_1 rfl hl (by decide) rfl (fun ls hl => ?_)
  refine lv_iconst (v := 0) hx hb dX6_paidAnew_2 (by decide) ?_
  refine lv_istore_n (lv' := [(3, .int 0), (1, .long 0), (0, .ref (q 0))]) hx hb dX6_paidAnew_3 rfl hl (by decide) rfl (fun ls hl => ?_)
  have hL4 : ∀ (K4 : Int32 → Int64 → Prop) (hX : ∀ (x3_4 : Int32) (x1_4 : Int64), K4 x3_4 x1_4 → ∀ ls : Array Slot, lv_has ls 4 [(3, .int x3_4), (1, .long x1_4), (0, .ref (q 0))] → W p l e (headSpec wsX6_paidAnew ({ frames := 5, cells := 0, slots := 0, locals := 128 } : Room)).room s m ([.ref (q 0)] : List Value).toArray below meth c s.heap [] 0 0 (MQ below (vp_Sl post) ([.ref (q 0)] : List Value).toArray s 0 0 (fun _ => False)) (F0 m 52 ls [])) (n : Nat) (x3_4 : Int32) (x1_4 : Int64), wpX6_paidAnew_L4 w K4 n x3_4 x1_4 → ∀ ls : Array Slot, lv_has ls 4 [(3, .int x3_4), (1, .long x1_4), (0, .ref (q 0))] → W p l e (headSpec wsX6_paidAnew ({ frames := 5, cells := 0, slots := 0, locals := 128 } : Room)).room s m ([.ref (q 0)] : List Value).toArray below meth c s.heap [] 0 0 (MQ below (vp_Sl post) ([.ref (q 0)] : List Value).toArray s 0 0 (fun _ => False)) (F0 m 4 ls []) := by
    intro K4 hX n
    induction n with
    | zero => intro x3_4 x1_4 h; exact False.elim h
    | succ n ih =>
      intro x3_4 x1_4 h ls hl
      rw [wpX6_paidAnew_L4] at h
      refine lv_iload_n hx hb dX6_paidAnew_4 rfl (lv_at hl 0 rfl) ?_
      refine lv_aload_n hx hb dX6_paidAnew_5 rfl (lv_at hl 2 rfl) ?_
      refine va_get (D := D) (ci := 6) (v := .int (w.2.1 5)) (C := RX6) (T := TX6) (N := 34) hx hb hts inX6_paidAnew_6 hown hK hP 0 rfl rfl 27 (by decide) (hts (.fieldLink RX6 146 "CornLawsModel" "lettings" "I") wdX6_paidAnew_0) (fun _ h9 => h9) rfl dX6_paidAnew_6 ?_
      refine lv_icmp_ge (tgt := 52) hx hb dX6_paidAnew_9 (by decide) (fun c1 => ?_) (fun c1 => ?_)
      · replace h := h.1 c1
        exact hX x3_4 x1_4 h ls (lv_sub hl [0, 1, 2] rfl)
      · replace h := h.2 c1
        refine lv_lload_n hx hb dX6_paidAnew_12 rfl (lv_at hl 1 rfl) ?_
        refine lv_aload_n hx hb dX6_paidAnew_13 rfl (lv_at hl 2 rfl) ?_
        refine va_get (D := D) (ci := 6) (v := .ref (q 25)) (C := RX6) (T := TX6) (N := 34) hx hb hts inX6_paidAnew_6 hown hK hP 0 rfl rfl 30 (by decide) (hts (.fieldLink RX6 82 "CornLawsModel" "letMany" "[I") wdX6_paidAnew_1) (fun _ h9 => h9) rfl dX6_paidAnew_14 ?_
        refine lv_iload_n hx hb dX6_paidAnew_17 rfl (lv_at hl 0 rfl) ?_
        obtain ⟨hi2, h⟩ := h
        refine va_iald (f := w.1 24) hx hb hK hP 25 0 rfl rfl hi2 dX6_paidAnew_18 ?_
        refine lv_i2l (v := (w.1 24 x3_4.toNatClampNeg).toInt64) hx hb dX6_paidAnew_19 rfl ?_
        refine lv_aload_n hx hb dX6_paidAnew_20 rfl (lv_at hl 2 rfl) ?_
        refine lv_aload_n hx hb dX6_paidAnew_21 rfl (lv_at hl 2 rfl) ?_
        refine va_get (D := D) (ci := 6) (v := .ref (q 23)) (C := RX6) (T := TX6) (N := 34) hx hb hts inX6_paidAnew_6 hown hK hP 0 rfl rfl 28 (by decide) (hts (.fieldLink RX6 76 "CornLawsModel" "letGrain" "[I") wdX6_paidAnew_2) (fun _ h9 => h9) rfl dX6_paidAnew_22 ?_
        refine lv_iload_n hx hb dX6_paidAnew_25 rfl (lv_at hl 0 rfl) ?_
        refine va_iald (f := w.1 22) hx hb hK hP 23 0 rfl rfl hi2 dX6_paidAnew_26 ?_
        refine lv_aload_n hx hb dX6_paidAnew_27 rfl (lv_at hl 2 rfl) ?_
        refine va_get (D := D) (ci := 6) (v := .ref (q 24)) (C := RX6) (T := TX6) (N := 34) hx hb hts inX6_paidAnew_6 hown hK hP 0 rfl rfl 29 (by decide) (hts (.fieldLink RX6 79 "CornLawsModel" "letWeek" "[I") wdX6_paidAnew_3) (fun _ h9 => h9) rfl dX6_paidAnew_28 ?_
        refine lv_iload_n hx hb dX6_paidAnew_31 rfl (lv_at hl 0 rfl) ?_
        refine va_iald (f := w.1 23) hx hb hK hP 24 0 rfl rfl hi2 dX6_paidAnew_32 ?_
        refine lv_aload_n hx hb dX6_paidAnew_33 rfl (lv_at hl 2 rfl) ?_
        refine va_get (D := D) (ci := 6) (v := .ref (q 24)) (C := RX6) (T := TX6) (N := 34) hx hb hts inX6_paidAnew_6 hown hK hP 0 rfl rfl 29 (by decide) (hts (.fieldLink RX6 79 "CornLawsModel" "letWeek" "[I") wdX6_paidAnew_3) (fun _ h9 => h9) rfl dX6_paidAnew_34 ?_
        refine lv_iload_n hx hb dX6_paidAnew_37 rfl (lv_at hl 0 rfl) ?_
        refine va_iald (f := w.1 23) hx hb hK hP 24 0 rfl rfl hi2 dX6_paidAnew_38 ?_
        refine vp_callSi (W.runV (C := RX6) (As := [.int (w.1 22 x3_4.toNatClampNeg), .int (w.1 23 x3_4.toNatClampNeg), .int (w.1 23 x3_4.toNatClampNeg)]) (rest := [.long ((w.1 24 x3_4.toNatClampNeg).toInt64), .long x1_4]) ⟨hx, hb, hml, hown, hts⟩ (cX6_dutyAt_ok l D cI cII q w (w.1 22 x3_4.toNatClampNeg) (w.1 23 x3_4.toNatClampNeg) (w.1 23 x3_4.toNatClampNeg) _ h) (cwV 3 hts gX6_paidAnew_X6_dutyAt rfl rfl rfl (by decide +kernel) ⟨Nat.le_of_ble_eq_true rfl, Nat.le_of_ble_eq_true rfl⟩) (z_preV hK hP rfl rfl) rfl rfl hl.1 rfl (lv_room (Nat.le_of_ble_eq_true rfl)) dX6_paidAnew_39 ⟨Nat.le_of_ble_eq_true rfl, Nat.le_of_ble_eq_true rfl⟩) (fun r3 h => ?_)
        refine lv_i2l (v := r3.toInt64) hx hb dX6_paidAnew_42 rfl ?_
        refine lv_lmul hx hb dX6_paidAnew_43 ?_
        refine lv_ladd hx hb dX6_paidAnew_44 ?_
        refine lv_lstore_n (lv' := [(1, .long (x1_4 + (((w.1 24 x3_4.toNatClampNeg).toInt64) * r3.toInt64))), (3, .int x3_4), (0, .ref (q 0))]) hx hb dX6_paidAnew_45 rfl hl (by decide) rfl (fun ls hl => ?_)
        refine lv_iinc (v := (x3_4 + 1)) (lv' := [(3, .int (x3_4 + 1)), (1, .long (x1_4 + (((w.1 24 x3_4.toNatClampNeg).toInt64) * r3.toInt64))), (0, .ref (q 0))]) hx hb dX6_paidAnew_46 hl (k := 1) rfl rfl (by decide) rfl (fun ls hl => ?_)
        refine lv_goto (tgt := 4) hx hb dX6_paidAnew_49 (by decide) ?_
        exact ih (x3_4 + 1) (x1_4 + (((w.1 24 x3_4.toNatClampNeg).toInt64) * r3.toInt64)) h ls (lv_sub hl [0, 1, 2] rfl)
  obtain ⟨n, h⟩ := h
  refine hL4 _ (fun x3_4 x1_4 h ls hl => ?_) n 0 0 h ls hl
  refine lv_lload_n hx hb dX6_paidAnew_52 rfl (lv_at hl 1 rfl) ?_
  exact W.lret (v := x1_4) hx hb hr (fun t ht hW => ⟨x1_4, rfl, h, ht⟩) (fun _ h9 => by cases h9) dX6_paidAnew_53

/-! X6_worth -/
set_option maxRecDepth 20000 in
theorem wdX6_worth_0 : Cond.fieldLink RX6 109 "CornLawsModel" "returns" "I" ∈ wsX6_worth := by decide +kernel
set_option maxRecDepth 20000 in
theorem wdX6_worth_1 : Cond.fieldLink RX6 85 "CornLawsModel" "without" "I" ∈ wsX6_worth := by decide +kernel
set_option maxRecDepth 20000 in
theorem wdX6_worth_2 : Cond.fieldLink RX6 151 "CornLawsModel" "chest" "J" ∈ wsX6_worth := by decide +kernel
set_option maxRecDepth 20000 in
theorem wdX6_worth_3 : Cond.constantLong RX6 155 (-9223372036854775808) ∈ wsX6_worth := by decide +kernel
set_option maxRecDepth 20000 in
theorem inX6_worth_6 : ∀ w ∈ wsX60, w ∈ wsX6_worth := by decide +kernel
set_option maxHeartbeats 4000000 in
set_option maxRecDepth 100000 in
theorem cX6_worth_ok (l : Launch) (D : va_G) (cI cII : ClassId) (q : Nat → Nat) (w : MS) (p1 : Int32) (post : Int64 → MS → Prop) (h : wpX6_worth w p1 post) : Met l yX6_worth wsX6_worth ({ frames := 6, cells := 0, slots := 0, locals := 151 } : Room) (zPm [.ref (q 0), .int p1] D cI cII (wM cI q w)) (va_Ql post (fun (z : MS) (t : State) => va_P D vwCl (wM cI q z) t.heap) (z_in (wM cI q w))) 0 0 (z_in (wM cI q w)) := by
  refine Met.ofW (cc := cX6_worth) (maxL := 4) (ret := (some .long)) (by decide) rfl ?_
  intro p e s m args below meth c s₁ B hml hv
  obtain ⟨rfl, hP, hK, hD0⟩ := hv
  have hx := B.exec
  have hb := B.bytes
  have hr := B.returns
  have hts := atoms_spec (ws := wsX6_worth) B.pre
  have hown : s.vm.findClass RX6 = some m.cls := findClass_of_methodNamed B.named
  have hlocks := B.notSynchronized
  have hD := z_Dself hD0
  generalize hAe : z_in (wM cI q w) = A at hD ⊢
  have hS : va_S A s.heap s.heap [] := va_S.rf
  have hl := lv_entry ([.ref (q 0), .int p1]) (n := 4) (Nat.le_of_ble_eq_true rfl)
  rw [lg_entry_eq]
  generalize (lg_sl ([.ref (q 0), .int p1]) ++ List.replicate (4 - (lg_sl ([.ref (q 0), .int p1])).length) Slot.unset).toArray = ls at hl ⊢
  have hl : lv_has ls 4 [(0, .ref (q 0)), (1, .int p1)] := hl
  unfold wpX6_worth at h
  refine lv_iload_n hx hb dX6_worth_0 rfl (lv_at hl 1 rfl) ?_
  refine lv_iconst (v := 0) hx hb dX6_worth_1 (by decide) ?_
  refine lv_aload_n hx hb dX6_worth_2 rfl (lv_at hl 0 rfl) ?_
  refine va_get (D := D) (ci := 6) (v := .int (w.2.1 1)) (C := RX6) (T := TX6) (N := 34) hx hb hts inX6_worth_6 hown hK hP 0 rfl rfl 1 (by decide) (hts (.fieldLink RX6 109 "CornLawsModel" "returns" "I") wdX6_worth_0) (fun _ h9 => h9) rfl dX6_worth_3 ?_
  refine lv_iconst (v := 1) hx hb dX6_worth_6 (by decide) ?_
  refine lv_isub hx hb dX6_worth_7 ?_
  refine vp_callSi (W.runS (As := [.int p1, .int 0, .int ((w.2.1 1) - 1)]) (rest := []) ⟨hx, hb, hml, hown, hts⟩ (cX6_in_ok l p1 0 ((w.2.1 1) - 1) _ h) (va_cwS 3 hts gX6_worth_X6_in rfl rfl rfl (by decide +kernel) ⟨Nat.le_of_ble_eq_true rfl, Nat.le_of_ble_eq_true rfl⟩) z_preS rfl rfl hl.1 rfl (lv_room (Nat.le_of_ble_eq_true rfl)) dX6_worth_8 ⟨Nat.le_of_ble_eq_true rfl, Nat.le_of_ble_eq_true rfl⟩) (fun r1 h => ?_)
  refine lv_if_ne (tgt := 18) hx hb dX6_worth_11 (by decide) (fun c2 => ?_) (fun c2 => ?_)
  · replace h := h.1 c2
    refine lv_aload_n hx hb dX6_worth_18 rfl (lv_at hl 0 rfl) ?_
    refine lv_iload_n hx hb dX6_worth_19 rfl (lv_at hl 1 rfl) ?_
    refine va_put (D := D) (ci := 6) (v := .int p1) (ty := .int) (C := RX6) (T := TX6) (N := 34) hx hb hts inX6_worth_6 tyX6 tyX6_ok nmX6 hown hK hP hD hS 0 rfl rfl 32 (by decide) (hts (.fieldLink RX6 85 "CornLawsModel" "without" "I") wdX6_worth_1) (fun _ h9 => h9) rfl (by decide +kernel) rfl rfl (Nat.le_of_ble_eq_true rfl) dX6_worth_20 (fun H locs hP hD hS => ?_)
    have hP : va_P D vwCl (wM cI q (w.1, (upd w.2.1 6 (p1)), w.2.2)) H := hP
    have hD : va_D A (wM cI q (w.1, (upd w.2.1 6 (p1)), w.2.2)) := hD
    refine lv_aload_n hx hb dX6_worth_23 rfl (lv_at hl 0 rfl) ?_
    refine vp_callSl (W.runV (C := RX6) (As := []) (rest := []) ⟨hx, hb, hml, hown, hts⟩ (cX6_paidAnew_ok l D cI cII q (w.1, (upd w.2.1 6 (p1)), w.2.2)  _ h) (cwV 0 hts gX6_worth_X6_paidAnew rfl rfl rfl (by decide +kernel) ⟨Nat.le_of_ble_eq_true rfl, Nat.le_of_ble_eq_true rfl⟩) (z_preV hK hP rfl rfl) rfl rfl hl.1 rfl (lv_room (Nat.le_of_ble_eq_true rfl)) dX6_worth_24 ⟨Nat.le_of_ble_eq_true rfl, Nat.le_of_ble_eq_true rfl⟩) (fun r3 h => ?_)
    refine lv_lstore_n (lv' := [(2, .long r3), (0, .ref (q 0)), (1, .int p1)]) hx hb dX6_worth_27 rfl hl (by decide) rfl (fun ls hl => ?_)
    refine lv_aload_n hx hb dX6_worth_28 rfl (lv_at hl 1 rfl) ?_
    refine lv_iconst (v := (-1)) hx hb dX6_worth_29 (by decide) ?_
    refine va_put (D := D) (ci := 6) (v := .int (-1)) (ty := .int) (C := RX6) (T := TX6) (N := 34) hx hb hts inX6_worth_6 tyX6 tyX6_ok nmX6 hown hK hP hD hS 0 rfl rfl 32 (by decide) (hts (.fieldLink RX6 85 "CornLawsModel" "without" "I") wdX6_worth_1) (fun _ h9 => h9) rfl (by decide +kernel) rfl rfl (Nat.le_of_ble_eq_true rfl) dX6_worth_30 (fun H locs hP hD hS => ?_)
    have hP : va_P D vwCl (wM cI q (w.1, (upd (upd w.2.1 6 (p1)) 6 ((-1))), w.2.2)) H := hP
    have hD : va_D A (wM cI q (w.1, (upd (upd w.2.1 6 (p1)) 6 ((-1))), w.2.2)) := hD
    refine lv_lload_n hx hb dX6_worth_33 rfl (lv_at hl 0 rfl) ?_
    refine lv_aload_n hx hb dX6_worth_34 rfl (lv_at hl 1 rfl) ?_
    refine va_get (D := D) (ci := 6) (v := .long (w.2.2)) (C := RX6) (T := TX6) (N := 34) hx hb hts inX6_worth_6 hown hK hP 0 rfl rfl 31 (by decide) (hts (.fieldLink RX6 151 "CornLawsModel" "chest" "J") wdX6_worth_2) (fun _ h9 => h9) rfl dX6_worth_35 ?_
    refine lv_lsub hx hb dX6_worth_38 ?_
    exact W.lret (v := (r3 - (w.2.2))) hx hb hr (fun t ht hW => ⟨⟨(r3 - (w.2.2)), (w.1, (upd (upd w.2.1 6 (p1)) 6 ((-1))), w.2.2), rfl, h, by show va_P D vwCl _ t.heap; rw [ht]; exact hP⟩, hS.F ht⟩) hS.2.2 dX6_worth_39
  · replace h := h.2 c2
    refine lv_ldc2 (v := (-9223372036854775808)) hx hb hown (hts (.constantLong RX6 155 (-9223372036854775808)) wdX6_worth_3) dX6_worth_14 ?_
    exact W.lret (v := (-9223372036854775808)) hx hb hr (fun t ht hW => ⟨⟨(-9223372036854775808), w, rfl, h, by show va_P D vwCl _ t.heap; rw [ht]; exact hP⟩, hS.F ht⟩) hS.2.2 dX6_worth_17

/-! X6_other -/
set_option maxRecDepth 20000 in
theorem wdX6_other_0 : Cond.fieldLink RX6 89 "CornLawsModel" "always" "I" ∈ wsX6_other := by decide +kernel
set_option maxRecDepth 20000 in
theorem wdX6_other_1 : Cond.constantLong RX6 142 (-2) ∈ wsX6_other := by decide +kernel
set_option maxRecDepth 20000 in
theorem inX6_other_6 : ∀ w ∈ wsX60, w ∈ wsX6_other := by decide +kernel
set_option maxHeartbeats 4000000 in
set_option maxRecDepth 100000 in
theorem cX6_other_ok (l : Launch) (D : va_G) (cI cII : ClassId) (q : Nat → Nat) (w : MS) (p1 : Int32) (post : Int64 → MS → Prop) (h : wpX6_other w p1 post) : Met l yX6_other wsX6_other ({ frames := 6, cells := 0, slots := 0, locals := 151 } : Room) (zPm [.ref (q 0), .int p1] D cI cII (wM cI q w)) (va_Ql post (fun (z : MS) (t : State) => va_P D vwCl (wM cI q z) t.heap) (z_in (wM cI q w))) 0 0 (z_in (wM cI q w)) := by
  refine Met.ofW (cc := cX6_other) (maxL := 4) (ret := (some .long)) (by decide) rfl ?_
  intro p e s m args below meth c s₁ B hml hv
  obtain ⟨rfl, hP, hK, hD0⟩ := hv
  have hx := B.exec
  have hb := B.bytes
  have hr := B.returns
  have hts := atoms_spec (ws := wsX6_other) B.pre
  have hown : s.vm.findClass RX6 = some m.cls := findClass_of_methodNamed B.named
  have hlocks := B.notSynchronized
  have hD := z_Dself hD0
  generalize hAe : z_in (wM cI q w) = A at hD ⊢
  have hS : va_S A s.heap s.heap [] := va_S.rf
  have hl := lv_entry ([.ref (q 0), .int p1]) (n := 4) (Nat.le_of_ble_eq_true rfl)
  rw [lg_entry_eq]
  generalize (lg_sl ([.ref (q 0), .int p1]) ++ List.replicate (4 - (lg_sl ([.ref (q 0), .int p1])).length) Slot.unset).toArray = ls at hl ⊢
  have hl : lv_has ls 4 [(0, .ref (q 0)), (1, .int p1)] := hl
  unfold wpX6_other at h
  refine lv_aload_n hx hb dX6_other_0 rfl (lv_at hl 0 rfl) ?_
  refine lv_iload_n hx hb dX6_other_1 rfl (lv_at hl 1 rfl) ?_
  refine vp_callSi (W.runV (C := RX6) (As := [.int p1]) (rest := []) ⟨hx, hb, hml, hown, hts⟩ (cX6_isScale_ok l D cI cII q w p1 _ h) (cwV 1 hts gX6_other_X6_isScale rfl rfl rfl (by decide +kernel) ⟨Nat.le_of_ble_eq_true rfl, Nat.le_of_ble_eq_true rfl⟩) (z_preV hK hP rfl rfl) rfl rfl hl.1 rfl (lv_room (Nat.le_of_ble_eq_true rfl)) dX6_other_2 ⟨Nat.le_of_ble_eq_true rfl, Nat.le_of_ble_eq_true rfl⟩) (fun r1 h => ?_)
  refine lv_if_ne (tgt := 12) hx hb dX6_other_5 (by decide) (fun c2 => ?_) (fun c2 => ?_)
  · replace h := h.1 c2
    refine lv_aload_n hx hb dX6_other_12 rfl (lv_at hl 0 rfl) ?_
    refine lv_iload_n hx hb dX6_other_13 rfl (lv_at hl 1 rfl) ?_
    refine va_put (D := D) (ci := 6) (v := .int p1) (ty := .int) (C := RX6) (T := TX6) (N := 34) hx hb hts inX6_other_6 tyX6 tyX6_ok nmX6 hown hK hP hD hS 0 rfl rfl 33 (by decide) (hts (.fieldLink RX6 89 "CornLawsModel" "always" "I") wdX6_other_0) (fun _ h9 => h9) rfl (by decide +kernel) rfl rfl (Nat.le_of_ble_eq_true rfl) dX6_other_14 (fun H locs hP hD hS => ?_)
    have hP : va_P D vwCl (wM cI q (w.1, (upd w.2.1 7 (p1)), w.2.2)) H := hP
    have hD : va_D A (wM cI q (w.1, (upd w.2.1 7 (p1)), w.2.2)) := hD
    refine lv_aload_n hx hb dX6_other_17 rfl (lv_at hl 0 rfl) ?_
    refine vp_callSl (W.runV (C := RX6) (As := []) (rest := []) ⟨hx, hb, hml, hown, hts⟩ (cX6_paidAnew_ok l D cI cII q (w.1, (upd w.2.1 7 (p1)), w.2.2)  _ h) (cwV 0 hts gX6_other_X6_paidAnew rfl rfl rfl (by decide +kernel) ⟨Nat.le_of_ble_eq_true rfl, Nat.le_of_ble_eq_true rfl⟩) (z_preV hK hP rfl rfl) rfl rfl hl.1 rfl (lv_room (Nat.le_of_ble_eq_true rfl)) dX6_other_18 ⟨Nat.le_of_ble_eq_true rfl, Nat.le_of_ble_eq_true rfl⟩) (fun r3 h => ?_)
    refine lv_lstore_n (lv' := [(2, .long r3), (0, .ref (q 0)), (1, .int p1)]) hx hb dX6_other_21 rfl hl (by decide) rfl (fun ls hl => ?_)
    refine lv_aload_n hx hb dX6_other_22 rfl (lv_at hl 1 rfl) ?_
    refine lv_iconst (v := (-1)) hx hb dX6_other_23 (by decide) ?_
    refine va_put (D := D) (ci := 6) (v := .int (-1)) (ty := .int) (C := RX6) (T := TX6) (N := 34) hx hb hts inX6_other_6 tyX6 tyX6_ok nmX6 hown hK hP hD hS 0 rfl rfl 33 (by decide) (hts (.fieldLink RX6 89 "CornLawsModel" "always" "I") wdX6_other_0) (fun _ h9 => h9) rfl (by decide +kernel) rfl rfl (Nat.le_of_ble_eq_true rfl) dX6_other_24 (fun H locs hP hD hS => ?_)
    have hP : va_P D vwCl (wM cI q (w.1, (upd (upd w.2.1 7 (p1)) 7 ((-1))), w.2.2)) H := hP
    have hD : va_D A (wM cI q (w.1, (upd (upd w.2.1 7 (p1)) 7 ((-1))), w.2.2)) := hD
    refine lv_lload_n hx hb dX6_other_27 rfl (lv_at hl 0 rfl) ?_
    exact W.lret (v := r3) hx hb hr (fun t ht hW => ⟨⟨r3, (w.1, (upd (upd w.2.1 7 (p1)) 7 ((-1))), w.2.2), rfl, h, by show va_P D vwCl _ t.heap; rw [ht]; exact hP⟩, hS.F ht⟩) hS.2.2 dX6_other_28
  · replace h := h.2 c2
    refine lv_ldc2 (v := (-2)) hx hb hown (hts (.constantLong RX6 142 (-2)) wdX6_other_1) dX6_other_8 ?_
    exact W.lret (v := (-2)) hx hb hr (fun t ht hW => ⟨⟨(-2), w, rfl, h, by show va_P D vwCl _ t.heap; rw [ht]; exact hP⟩, hS.F ht⟩) hS.2.2 dX6_other_11

/-! X6_gainAt -/
set_option maxRecDepth 20000 in
theorem wdX6_gainAt_0 : Cond.fieldLink RX6 61 "CornLawsModel" "cargoBond" "[I" ∈ wsX6_gainAt := by decide +kernel
set_option maxRecDepth 20000 in
theorem wdX6_gainAt_1 : Cond.fieldLink RX6 96 "CornLawsModel" "week" "I" ∈ wsX6_gainAt := by decide +kernel
set_option maxRecDepth 20000 in
theorem wdX6_gainAt_2 : Cond.fieldLink RX6 102 "CornLawsModel" "spoils" "I" ∈ wsX6_gainAt := by decide +kernel
set_option maxRecDepth 20000 in
theorem wdX6_gainAt_3 : Cond.fieldLink RX6 58 "CornLawsModel" "cargoGrain" "[I" ∈ wsX6_gainAt := by decide +kernel
set_option maxRecDepth 20000 in
theorem inX6_gainAt_6 : ∀ w ∈ wsX60, w ∈ wsX6_gainAt := by decide +kernel
set_option maxHeartbeats 4000000 in
set_option maxRecDepth 100000 in
theorem cX6_gainAt_ok (l : Launch) (D : va_G) (cI cII : ClassId) (q : Nat → Nat) (w : MS) (p1 : Int32) (p2 : Int32) (p3 : Int32) (post : Int64 → Prop) (h : wpX6_gainAt w p1 p2 p3 post) : Met l yX6_gainAt wsX6_gainAt ({ frames := 5, cells := 0, slots := 0, locals := 128 } : Room) (zPc [.ref (q 0), .int p1, .int p2, .int p3] D cI cII (wM cI q w)) (vp_Sl post) 0 0 (fun _ => False) := by
  refine Met.ofW (cc := cX6_gainAt) (maxL := 6) (ret := (some .long)) (by decide) rfl ?_
  intro p e s m args below meth c s₁ B hml hv
  obtain ⟨rfl, hP, hK⟩ := hv
  have hx := B.exec
  have hb := B.bytes
  have hr := B.returns
  have hts := atoms_spec (ws := wsX6_gainAt) B.pre
  have hown : s.vm.findClass RX6 = some m.cls := findClass_of_methodNamed B.named
  have hlocks := B.notSynchronized
  have hl := lv_entry ([.ref (q 0), .int p1, .int p2, .int p3]) (n := 6) (Nat.le_of_ble_eq_true rfl)
  rw [lg_entry_eq]
  generalize (lg_sl ([.ref (q 0), .int p1, .int p2, .int p3]) ++ List.replicate (6 - (lg_sl ([.ref (q 0), .int p1, .int p2, .int p3])).length) Slot.unset).toArray = ls at hl ⊢
  have hl : lv_has ls 6 [(0, .ref (q 0)), (1, .int p1), (2, .int p2), (3, .int p3)] := hl
  unfold wpX6_gainAt at h
  refine lv_aload_n hx hb dX6_gainAt_0 rfl (lv_at hl 0 rfl) ?_
  refine va_get (D := D) (ci := 6) (v := .ref (q 18)) (C := RX6) (T := TX6) (N := 34) hx hb hts inX6_gainAt_6 hown hK hP 0 rfl rfl 21 (by decide) (hts (.fieldLink RX6 61 "CornLawsModel" "cargoBond" "[I") wdX6_gainAt_0) (fun _ h9 => h9) rfl dX6_gainAt_1 ?_
  refine lv_iload_n hx hb dX6_gainAt_4 rfl (lv_at hl 1 rfl) ?_
  obtain ⟨hi1, h⟩ := h
  refine va_iald (f := w.1 17) hx hb hK hP 18 0 rfl rfl hi1 dX6_gainAt_5 ?_
  refine lv_istore (lv' := [(4, .int (w.1 17 p1.toNatClampNeg)), (0, .ref (q 0)), (1, .int p1), (2, .int p2), (3, .int p3)]) hx hb dX6_gainAt_6 hl (by decide) rfl (fun ls hl => ?_)
  refine lv_aload_n hx hb dX6_gainAt_8 rfl (lv_at hl 1 rfl) ?_
  refine va_get (D := D) (ci := 6) (v := .int (w.2.1 0)) (C := RX6) (T := TX6) (N := 34) hx hb hts inX6_gainAt_6 hown hK hP 0 rfl rfl 0 (by decide) (hts (.fieldLink RX6 96 "CornLawsModel" "week" "I") wdX6_gainAt_1) (fun _ h9 => h9) rfl dX6_gainAt_9 ?_
  refine lv_istore (lv' := [(5, .int (w.2.1 0)), (4, .int (w.1 17 p1.toNatClampNeg)), (0, .ref (q 0)), (1, .int p1), (2, .int p2), (3, .int p3)]) hx hb dX6_gainAt_12 hl (by decide) rfl (fun ls hl => ?_)
  have hL14 : ∀ (K14 : Int32 → Int32 → Prop) (hX : ∀ (x5_14 : Int32) (x4_14 : Int32), K14 x5_14 x4_14 → ∀ ls : Array Slot, lv_has ls 6 [(5, .int x5_14), (4, .int x4_14), (0, .ref (q 0)), (1, .int p1), (2, .int p2), (3, .int p3)] → W p l e (headSpec wsX6_gainAt ({ frames := 5, cells := 0, slots := 0, locals := 128 } : Room)).room s m ([.ref (q 0), .int p1, .int p2, .int p3] : List Value).toArray below meth c s.heap [] 0 0 (MQ below (vp_Sl post) ([.ref (q 0), .int p1, .int p2, .int p3] : List Value).toArray s 0 0 (fun _ => False)) (F0 m 42 ls [])) (n : Nat) (x5_14 : Int32) (x4_14 : Int32), wpX6_gainAt_L14 w p2 K14 n x5_14 x4_14 → ∀ ls : Array Slot, lv_has ls 6 [(5, .int x5_14), (4, .int x4_14), (0, .ref (q 0)), (1, .int p1), (2, .int p2), (3, .int p3)] → W p l e (headSpec wsX6_gainAt ({ frames := 5, cells := 0, slots := 0, locals := 128 } : Room)).room s m ([.ref (q 0), .int p1, .int p2, .int p3] : List Value).toArray below meth c s.heap [] 0 0 (MQ below (vp_Sl post) ([.ref (q 0), .int p1, .int p2, .int p3] : List Value).toArray s 0 0 (fun _ => False)) (F0 m 14 ls []) := by
    intro K14 hX n
    induction n with
    | zero => intro x5_14 x4_14 h; exact False.elim h
    | succ n ih =>
      intro x5_14 x4_14 h ls hl
      rw [wpX6_gainAt_L14] at h
      refine lv_iload hx hb dX6_gainAt_14 (lv_at hl 0 rfl) ?_
      refine lv_iload_n hx hb dX6_gainAt_16 rfl (lv_at hl 4 rfl) ?_
      refine lv_icmp_ge (tgt := 42) hx hb dX6_gainAt_17 (by decide) (fun c2 => ?_) (fun c2 => ?_)
      · replace h := h.1 c2
        exact hX x5_14 x4_14 h ls (lv_sub hl [0, 1, 2, 3, 4, 5] rfl)
      · replace h := h.2 c2
        refine lv_iload hx hb dX6_gainAt_20 (lv_at hl 1 rfl) ?_
        refine lv_iload hx hb dX6_gainAt_22 (lv_at hl 1 rfl) ?_
        refine lv_aload_n hx hb dX6_gainAt_24 rfl (lv_at hl 2 rfl) ?_
        refine va_get (D := D) (ci := 6) (v := .int (w.2.1 4)) (C := RX6) (T := TX6) (N := 34) hx hb hts inX6_gainAt_6 hown hK hP 0 rfl rfl 26 (by decide) (hts (.fieldLink RX6 102 "CornLawsModel" "spoils" "I") wdX6_gainAt_2) (fun _ h9 => h9) rfl dX6_gainAt_25 ?_
        refine lv_imul hx hb dX6_gainAt_28 ?_
        refine lv_sipush (v := 1000) hx hb dX6_gainAt_29 (by decide) ?_
        refine lv_idiv hx hb dX6_gainAt_32 (by decide) ?_
        refine lv_isub hx hb dX6_gainAt_33 ?_
        refine lv_istore (lv' := [(4, .int (x4_14 - ((x4_14 * (w.2.1 4)) / 1000))), (5, .int x5_14), (0, .ref (q 0)), (1, .int p1), (2, .int p2), (3, .int p3)]) hx hb dX6_gainAt_34 hl (by decide) rfl (fun ls hl => ?_)
        refine lv_iinc (v := (x5_14 + 1)) (lv' := [(5, .int (x5_14 + 1)), (4, .int (x4_14 - ((x4_14 * (w.2.1 4)) / 1000))), (0, .ref (q 0)), (1, .int p1), (2, .int p2), (3, .int p3)]) hx hb dX6_gainAt_36 hl (k := 1) rfl rfl (by decide) rfl (fun ls hl => ?_)
        refine lv_goto (tgt := 14) hx hb dX6_gainAt_39 (by decide) ?_
        exact ih (x5_14 + 1) (x4_14 - ((x4_14 * (w.2.1 4)) / 1000)) h ls (lv_sub hl [0, 1, 2, 3, 4, 5] rfl)
  obtain ⟨n, h⟩ := h
  refine hL14 _ (fun x5_14 x4_14 h ls hl => ?_) n (w.2.1 0) (w.1 17 p1.toNatClampNeg) h ls hl
  refine lv_iload hx hb dX6_gainAt_42 (lv_at hl 1 rfl) ?_
  refine lv_i2l (v := x4_14.toInt64) hx hb dX6_gainAt_44 rfl ?_
  refine lv_iload_n hx hb dX6_gainAt_45 rfl (lv_at hl 5 rfl) ?_
  refine lv_aload_n hx hb dX6_gainAt_46 rfl (lv_at hl 2 rfl) ?_
  refine lv_aload_n hx hb dX6_gainAt_47 rfl (lv_at hl 2 rfl) ?_
  refine va_get (D := D) (ci := 6) (v := .ref (q 17)) (C := RX6) (T := TX6) (N := 34) hx hb hts inX6_gainAt_6 hown hK hP 0 rfl rfl 20 (by decide) (hts (.fieldLink RX6 58 "CornLawsModel" "cargoGrain" "[I") wdX6_gainAt_3) (fun _ h9 => h9) rfl dX6_gainAt_48 ?_
  refine lv_iload_n hx hb dX6_gainAt_51 rfl (lv_at hl 3 rfl) ?_
  refine va_iald (f := w.1 16) hx hb hK hP 17 0 rfl rfl hi1 dX6_gainAt_52 ?_
  refine lv_iload_n hx hb dX6_gainAt_53 rfl (lv_at hl 4 rfl) ?_
  refine lv_aload_n hx hb dX6_gainAt_54 rfl (lv_at hl 2 rfl) ?_
  refine va_get (D := D) (ci := 6) (v := .int (w.2.1 0)) (C := RX6) (T := TX6) (N := 34) hx hb hts inX6_gainAt_6 hown hK hP 0 rfl rfl 0 (by decide) (hts (.fieldLink RX6 96 "CornLawsModel" "week" "I") wdX6_gainAt_1) (fun _ h9 => h9) rfl dX6_gainAt_55 ?_
  refine vp_callSi (W.runV (C := RX6) (As := [.int (w.1 16 p1.toNatClampNeg), .int p2, .int (w.2.1 0)]) (rest := [.int p3, .long x4_14.toInt64]) ⟨hx, hb, hml, hown, hts⟩ (cX6_dutyAt_ok l D cI cII q w (w.1 16 p1.toNatClampNeg) p2 (w.2.1 0) _ h) (cwV 3 hts gX6_gainAt_X6_dutyAt rfl rfl rfl (by decide +kernel) ⟨Nat.le_of_ble_eq_true rfl, Nat.le_of_ble_eq_true rfl⟩) (z_preV hK hP rfl rfl) rfl rfl hl.1 rfl (lv_room (Nat.le_of_ble_eq_true rfl)) dX6_gainAt_58 ⟨Nat.le_of_ble_eq_true rfl, Nat.le_of_ble_eq_true rfl⟩) (fun r3 h => ?_)
  refine lv_isub hx hb dX6_gainAt_61 ?_
  refine lv_i2l (v := (p3 - r3).toInt64) hx hb dX6_gainAt_62 rfl ?_
  refine lv_lmul hx hb dX6_gainAt_63 ?_
  exact W.lret (v := (x4_14.toInt64 * ((p3 - r3).toInt64))) hx hb hr (fun t ht hW => ⟨(x4_14.toInt64 * ((p3 - r3).toInt64)), rfl, h, ht⟩) (fun _ h9 => by cases h9) dX6_gainAt_64

/-! X6_gain -/
set_option maxRecDepth 20000 in
theorem wdX6_gain_0 : Cond.constantLong RX6 155 (-9223372036854775808) ∈ wsX6_gain := by decide +kernel
set_option maxRecDepth 20000 in
theorem wdX6_gain_1 : Cond.fieldLink RX6 96 "CornLawsModel" "week" "I" ∈ wsX6_gain := by decide +kernel
set_option maxRecDepth 20000 in
theorem inX6_gain_6 : ∀ w ∈ wsX60, w ∈ wsX6_gain := by decide +kernel
set_option maxHeartbeats 4000000 in
set_option maxRecDepth 100000 in
theorem cX6_gain_ok (l : Launch) (D : va_G) (cI cII : ClassId) (q : Nat → Nat) (w : MS) (p1 : Int32) (p2 : Int32) (p3 : Int32) (post : Int64 → Prop) (h : wpX6_gain w p1 p2 p3 post) : Met l yX6_gain wsX6_gain ({ frames := 6, cells := 0, slots := 0, locals := 153 } : Room) (zPc [.ref (q 0), .int p1, .int p2, .int p3] D cI cII (wM cI q w)) (vp_Sl post) 0 0 (fun _ => False) := by
  refine Met.ofW (cc := cX6_gain) (maxL := 4) (ret := (some .long)) (by decide) rfl ?_
  intro p e s m args below meth c s₁ B hml hv
  obtain ⟨rfl, hP, hK⟩ := hv
  have hx := B.exec
  have hb := B.bytes
  have hr := B.returns
  have hts := atoms_spec (ws := wsX6_gain) B.pre
  have hown : s.vm.findClass RX6 = some m.cls := findClass_of_methodNamed B.named
  have hlocks := B.notSynchronized
  have hl := lv_entry ([.ref (q 0), .int p1, .int p2, .int p3]) (n := 4) (Nat.le_of_ble_eq_true rfl)
  rw [lg_entry_eq]
  generalize (lg_sl ([.ref (q 0), .int p1, .int p2, .int p3]) ++ List.replicate (4 - (lg_sl ([.ref (q 0), .int p1, .int p2, .int p3])).length) Slot.unset).toArray = ls at hl ⊢
  have hl : lv_has ls 4 [(0, .ref (q 0)), (1, .int p1), (2, .int p2), (3, .int p3)] := hl
  unfold wpX6_gain at h
  refine lv_aload_n hx hb dX6_gain_0 rfl (lv_at hl 0 rfl) ?_
  refine lv_iload_n hx hb dX6_gain_1 rfl (lv_at hl 1 rfl) ?_
  refine vp_callSi (W.runV (C := RX6) (As := [.int p1]) (rest := []) ⟨hx, hb, hml, hown, hts⟩ (cX6_isCargo_ok l D cI cII q w p1 _ h) (cwV 1 hts gX6_gain_X6_isCargo rfl rfl rfl (by decide +kernel) ⟨Nat.le_of_ble_eq_true rfl, Nat.le_of_ble_eq_true rfl⟩) (z_preV hK hP rfl rfl) rfl rfl hl.1 rfl (lv_room (Nat.le_of_ble_eq_true rfl)) dX6_gain_2 ⟨Nat.le_of_ble_eq_true rfl, Nat.le_of_ble_eq_true rfl⟩) (fun r1 h => ?_)
  refine lv_if_eq (tgt := 47) hx hb dX6_gain_5 (by decide) (fun c2 => ?_) (fun c2 => ?_)
  · replace h := h.1 c2
    refine lv_ldc2 (v := (-9223372036854775808)) hx hb hown (hts (.constantLong RX6 155 (-9223372036854775808)) wdX6_gain_0) dX6_gain_47 ?_
    exact W.lret (v := (-9223372036854775808)) hx hb hr (fun t ht hW => ⟨(-9223372036854775808), rfl, h, ht⟩) (fun _ h9 => by cases h9) dX6_gain_50
  · replace h := h.2 c2
    refine lv_iload_n hx hb dX6_gain_8 rfl (lv_at hl 2 rfl) ?_
    refine lv_aload_n hx hb dX6_gain_9 rfl (lv_at hl 0 rfl) ?_
    refine va_get (D := D) (ci := 6) (v := .int (w.2.1 0)) (C := RX6) (T := TX6) (N := 34) hx hb hts inX6_gain_6 hown hK hP 0 rfl rfl 0 (by decide) (hts (.fieldLink RX6 96 "CornLawsModel" "week" "I") wdX6_gain_1) (fun _ h9 => h9) rfl dX6_gain_10 ?_
    refine lv_aload_n hx hb dX6_gain_13 rfl (lv_at hl 0 rfl) ?_
    refine va_get (D := D) (ci := 6) (v := .int (w.2.1 0)) (C := RX6) (T := TX6) (N := 34) hx hb hts inX6_gain_6 hown hK hP 0 rfl rfl 0 (by decide) (hts (.fieldLink RX6 96 "CornLawsModel" "week" "I") wdX6_gain_1) (fun _ h9 => h9) rfl dX6_gain_14 ?_
    refine lv_bipush (v := 20) hx hb dX6_gain_17 (by decide) ?_
    refine lv_iadd hx hb dX6_gain_19 ?_
    refine vp_callSi (W.runS (As := [.int p2, .int (w.2.1 0), .int ((w.2.1 0) + 20)]) (rest := []) ⟨hx, hb, hml, hown, hts⟩ (cX6_in_ok l p2 (w.2.1 0) ((w.2.1 0) + 20) _ h) (va_cwS 3 hts gX6_gain_X6_in rfl rfl rfl (by decide +kernel) ⟨Nat.le_of_ble_eq_true rfl, Nat.le_of_ble_eq_true rfl⟩) z_preS rfl rfl hl.1 rfl (lv_room (Nat.le_of_ble_eq_true rfl)) dX6_gain_20 ⟨Nat.le_of_ble_eq_true rfl, Nat.le_of_ble_eq_true rfl⟩) (fun r3 h => ?_)
    refine lv_if_eq (tgt := 47) hx hb dX6_gain_23 (by decide) (fun c4 => ?_) (fun c4 => ?_)
    · replace h := h.1 c4
      refine lv_ldc2 (v := (-9223372036854775808)) hx hb hown (hts (.constantLong RX6 155 (-9223372036854775808)) wdX6_gain_0) dX6_gain_47 ?_
      exact W.lret (v := (-9223372036854775808)) hx hb hr (fun t ht hW => ⟨(-9223372036854775808), rfl, h, ht⟩) (fun _ h9 => by cases h9) dX6_gain_50
    · replace h := h.2 c4
      refine lv_iload_n hx hb dX6_gain_26 rfl (lv_at hl 3 rfl) ?_
      refine lv_iconst (v := 0) hx hb dX6_gain_27 (by decide) ?_
      refine lv_sipush (v := 2000) hx hb dX6_gain_28 (by decide) ?_
      refine vp_callSi (W.runS (As := [.int p3, .int 0, .int 2000]) (rest := []) ⟨hx, hb, hml, hown, hts⟩ (cX6_in_ok l p3 0 2000 _ h) (va_cwS 3 hts gX6_gain_X6_in rfl rfl rfl (by decide +kernel) ⟨Nat.le_of_ble_eq_true rfl, Nat.le_of_ble_eq_true rfl⟩) z_preS rfl rfl hl.1 rfl (lv_room (Nat.le_of_ble_eq_true rfl)) dX6_gain_31 ⟨Nat.le_of_ble_eq_true rfl, Nat.le_of_ble_eq_true rfl⟩) (fun r5 h => ?_)
      refine lv_if_eq (tgt := 47) hx hb dX6_gain_34 (by decide) (fun c6 => ?_) (fun c6 => ?_)
      · replace h := h.1 c6
        refine lv_ldc2 (v := (-9223372036854775808)) hx hb hown (hts (.constantLong RX6 155 (-9223372036854775808)) wdX6_gain_0) dX6_gain_47 ?_
        exact W.lret (v := (-9223372036854775808)) hx hb hr (fun t ht hW => ⟨(-9223372036854775808), rfl, h, ht⟩) (fun _ h9 => by cases h9) dX6_gain_50
      · replace h := h.2 c6
        refine lv_aload_n hx hb dX6_gain_37 rfl (lv_at hl 0 rfl) ?_
        refine lv_iload_n hx hb dX6_gain_38 rfl (lv_at hl 1 rfl) ?_
        refine lv_iload_n hx hb dX6_gain_39 rfl (lv_at hl 2 rfl) ?_
        refine lv_iload_n hx hb dX6_gain_40 rfl (lv_at hl 3 rfl) ?_
        refine vp_callSl (W.runV (C := RX6) (As := [.int p1, .int p2, .int p3]) (rest := []) ⟨hx, hb, hml, hown, hts⟩ (cX6_gainAt_ok l D cI cII q w p1 p2 p3 _ h) (cwV 3 hts gX6_gain_X6_gainAt rfl rfl rfl (by decide +kernel) ⟨Nat.le_of_ble_eq_true rfl, Nat.le_of_ble_eq_true rfl⟩) (z_preV hK hP rfl rfl) rfl rfl hl.1 rfl (lv_room (Nat.le_of_ble_eq_true rfl)) dX6_gain_41 ⟨Nat.le_of_ble_eq_true rfl, Nat.le_of_ble_eq_true rfl⟩) (fun r7 h => ?_)
        refine lv_goto (tgt := 50) hx hb dX6_gain_44 (by decide) ?_
        exact W.lret (v := r7) hx hb hr (fun t ht hW => ⟨r7, rfl, h, ht⟩) (fun _ h9 => by cases h9) dX6_gain_50

/-! X6_best -/
set_option maxRecDepth 20000 in
theorem wdX6_best_0 : Cond.fieldLink RX6 96 "CornLawsModel" "week" "I" ∈ wsX6_best := by decide +kernel
set_option maxRecDepth 20000 in
theorem inX6_best_6 : ∀ w ∈ wsX60, w ∈ wsX6_best := by decide +kernel
set_option maxHeartbeats 4000000 in
set_option maxRecDepth 100000 in
theorem cX6_best_ok (l : Launch) (D : va_G) (cI cII : ClassId) (q : Nat → Nat) (w : MS) (p1 : Int32) (p2 : Int32) (p3 : Int32) (post : Int32 → Prop) (h : wpX6_best w p1 p2 p3 post) : Met l yX6_best wsX6_best ({ frames := 6, cells := 0, slots := 0, locals := 153 } : Room) (zPc [.ref (q 0), .int p1, .int p2, .int p3] D cI cII (wM cI q w)) (vp_Si post) 0 0 (fun _ => False) := by
  refine Met.ofW (cc := cX6_best) (maxL := 6) (ret := (some .int)) (by decide) rfl ?_
  intro p e s m args below meth c s₁ B hml hv
  obtain ⟨rfl, hP, hK⟩ := hv
  have hx := B.exec
  have hb := B.bytes
  have hr := B.returns
  have hts := atoms_spec (ws := wsX6_best) B.pre
  have hown : s.vm.findClass RX6 = some m.cls := findClass_of_methodNamed B.named
  have hlocks := B.notSynchronized
  have hl := lv_entry ([.ref (q 0), .int p1, .int p2, .int p3]) (n := 6) (Nat.le_of_ble_eq_true rfl)
  rw [lg_entry_eq]
  generalize (lg_sl ([.ref (q 0), .int p1, .int p2, .int p3]) ++ List.replicate (6 - (lg_sl ([.ref (q 0), .int p1, .int p2, .int p3])).length) Slot.unset).toArray = ls at hl ⊢
  have hl : lv_has ls 6 [(0, .ref (q 0)), (1, .int p1), (2, .int p2), (3, .int p3)] := hl
  unfold wpX6_best at h
  refine lv_aload_n hx hb dX6_best_0 rfl (lv_at hl 0 rfl) ?_
  refine lv_iload_n hx hb dX6_best_1 rfl (lv_at hl 1 rfl) ?_
  refine vp_callSi (W.runV (C := RX6) (As := [.int p1]) (rest := []) ⟨hx, hb, hml, hown, hts⟩ (cX6_isCargo_ok l D cI cII q w p1 _ h) (cwV 1 hts gX6_best_X6_isCargo rfl rfl rfl (by decide +kernel) ⟨Nat.le_of_ble_eq_true rfl, Nat.le_of_ble_eq_true rfl⟩) (z_preV hK hP rfl rfl) rfl rfl hl.1 rfl (lv_room (Nat.le_of_ble_eq_true rfl)) dX6_best_2 ⟨Nat.le_of_ble_eq_true rfl, Nat.le_of_ble_eq_true rfl⟩) (fun r1 h => ?_)
  refine lv_if_eq (tgt := 29) hx hb dX6_best_5 (by decide) (fun c2 => ?_) (fun c2 => ?_)
  · replace h := h.1 c2
    refine lv_bipush (v := (-2)) hx hb dX6_best_29 (by decide) ?_
    exact W.iret (v := (-2)) hx hb hr (fun t ht hW => ⟨(-2), rfl, h, ht⟩) (fun _ h9 => by cases h9) dX6_best_31
  · replace h := h.2 c2
    refine lv_iload_n hx hb dX6_best_8 rfl (lv_at hl 2 rfl) ?_
    refine lv_iconst (v := 0) hx hb dX6_best_9 (by decide) ?_
    refine lv_bipush (v := 20) hx hb dX6_best_10 (by decide) ?_
    refine vp_callSi (W.runS (As := [.int p2, .int 0, .int 20]) (rest := []) ⟨hx, hb, hml, hown, hts⟩ (cX6_in_ok l p2 0 20 _ h) (va_cwS 3 hts gX6_best_X6_in rfl rfl rfl (by decide +kernel) ⟨Nat.le_of_ble_eq_true rfl, Nat.le_of_ble_eq_true rfl⟩) z_preS rfl rfl hl.1 rfl (lv_room (Nat.le_of_ble_eq_true rfl)) dX6_best_12 ⟨Nat.le_of_ble_eq_true rfl, Nat.le_of_ble_eq_true rfl⟩) (fun r3 h => ?_)
    refine lv_if_eq (tgt := 29) hx hb dX6_best_15 (by decide) (fun c4 => ?_) (fun c4 => ?_)
    · replace h := h.1 c4
      refine lv_bipush (v := (-2)) hx hb dX6_best_29 (by decide) ?_
      exact W.iret (v := (-2)) hx hb hr (fun t ht hW => ⟨(-2), rfl, h, ht⟩) (fun _ h9 => by cases h9) dX6_best_31
    · replace h := h.2 c4
      refine lv_iload_n hx hb dX6_best_18 rfl (lv_at hl 3 rfl) ?_
      refine lv_iconst (v := 0) hx hb dX6_best_19 (by decide) ?_
      refine lv_sipush (v := 2000) hx hb dX6_best_20 (by decide) ?_
      refine vp_callSi (W.runS (As := [.int p3, .int 0, .int 2000]) (rest := []) ⟨hx, hb, hml, hown, hts⟩ (cX6_in_ok l p3 0 2000 _ h) (va_cwS 3 hts gX6_best_X6_in rfl rfl rfl (by decide +kernel) ⟨Nat.le_of_ble_eq_true rfl, Nat.le_of_ble_eq_true rfl⟩) z_preS rfl rfl hl.1 rfl (lv_room (Nat.le_of_ble_eq_true rfl)) dX6_best_23 ⟨Nat.le_of_ble_eq_true rfl, Nat.le_of_ble_eq_true rfl⟩) (fun r5 h => ?_)
      refine lv_if_ne (tgt := 32) hx hb dX6_best_26 (by decide) (fun c6 => ?_) (fun c6 => ?_)
      · replace h := h.1 c6
        refine lv_aload_n hx hb dX6_best_32 rfl (lv_at hl 0 rfl) ?_
        refine va_get (D := D) (ci := 6) (v := .int (w.2.1 0)) (C := RX6) (T := TX6) (N := 34) hx hb hts inX6_best_6 hown hK hP 0 rfl rfl 0 (by decide) (hts (.fieldLink RX6 96 "CornLawsModel" "week" "I") wdX6_best_0) (fun _ h9 => h9) rfl dX6_best_33 ?_
        refine lv_istore (lv' := [(4, .int (w.2.1 0)), (0, .ref (q 0)), (1, .int p1), (2, .int p2), (3, .int p3)]) hx hb dX6_best_36 hl (by decide) rfl (fun ls hl => ?_)
        refine lv_aload_n hx hb dX6_best_38 rfl (lv_at hl 1 rfl) ?_
        refine va_get (D := D) (ci := 6) (v := .int (w.2.1 0)) (C := RX6) (T := TX6) (N := 34) hx hb hts inX6_best_6 hown hK hP 0 rfl rfl 0 (by decide) (hts (.fieldLink RX6 96 "CornLawsModel" "week" "I") wdX6_best_0) (fun _ h9 => h9) rfl dX6_best_39 ?_
        refine lv_iconst (v := 1) hx hb dX6_best_42 (by decide) ?_
        refine lv_iadd hx hb dX6_best_43 ?_
        refine lv_istore (lv' := [(5, .int ((w.2.1 0) + 1)), (4, .int (w.2.1 0)), (0, .ref (q 0)), (1, .int p1), (2, .int p2), (3, .int p3)]) hx hb dX6_best_44 hl (by decide) rfl (fun ls hl => ?_)
        have hL46 : ∀ (K46 : Int32 → Int32 → Prop) (hX : ∀ (x5_46 : Int32) (x4_46 : Int32), K46 x5_46 x4_46 → ∀ ls : Array Slot, lv_has ls 6 [(5, .int x5_46), (4, .int x4_46), (0, .ref (q 0)), (1, .int p1), (2, .int p2), (3, .int p3)] → W p l e (headSpec wsX6_best ({ frames := 6, cells := 0, slots := 0, locals := 153 } : Room)).room s m ([.ref (q 0), .int p1, .int p2, .int p3] : List Value).toArray below meth c s.heap [] 0 0 (MQ below (vp_Si post) ([.ref (q 0), .int p1, .int p2, .int p3] : List Value).toArray s 0 0 (fun _ => False)) (F0 m 92 ls [])) (n : Nat) (x5_46 : Int32) (x4_46 : Int32), wpX6_best_L46 w p1 p2 p3 K46 n x5_46 x4_46 → ∀ ls : Array Slot, lv_has ls 6 [(5, .int x5_46), (4, .int x4_46), (0, .ref (q 0)), (1, .int p1), (2, .int p2), (3, .int p3)] → W p l e (headSpec wsX6_best ({ frames := 6, cells := 0, slots := 0, locals := 153 } : Room)).room s m ([.ref (q 0), .int p1, .int p2, .int p3] : List Value).toArray below meth c s.heap [] 0 0 (MQ below (vp_Si post) ([.ref (q 0), .int p1, .int p2, .int p3] : List Value).toArray s 0 0 (fun _ => False)) (F0 m 46 ls []) := by
          intro K46 hX n
          induction n with
          | zero => intro x5_46 x4_46 h; exact False.elim h
          | succ n ih =>
            intro x5_46 x4_46 h ls hl
            rw [wpX6_best_L46] at h
            refine lv_iload hx hb dX6_best_46 (lv_at hl 0 rfl) ?_
            refine lv_aload_n hx hb dX6_best_48 rfl (lv_at hl 2 rfl) ?_
            refine va_get (D := D) (ci := 6) (v := .int (w.2.1 0)) (C := RX6) (T := TX6) (N := 34) hx hb hts inX6_best_6 hown hK hP 0 rfl rfl 0 (by decide) (hts (.fieldLink RX6 96 "CornLawsModel" "week" "I") wdX6_best_0) (fun _ h9 => h9) rfl dX6_best_49 ?_
            refine lv_iload_n hx hb dX6_best_52 rfl (lv_at hl 4 rfl) ?_
            refine lv_iadd hx hb dX6_best_53 ?_
            refine lv_icmp_gt (tgt := 92) hx hb dX6_best_54 (by decide) (fun c7 => ?_) (fun c7 => ?_)
            · replace h := h.1 c7
              exact hX x5_46 x4_46 h ls (lv_sub hl [0, 1, 2, 3, 4, 5] rfl)
            · replace h := h.2 c7
              refine lv_aload_n hx hb dX6_best_57 rfl (lv_at hl 2 rfl) ?_
              refine lv_iload_n hx hb dX6_best_58 rfl (lv_at hl 3 rfl) ?_
              refine lv_iload hx hb dX6_best_59 (lv_at hl 0 rfl) ?_
              refine lv_iload_n hx hb dX6_best_61 rfl (lv_at hl 5 rfl) ?_
              refine vp_callSl (W.runV (C := RX6) (As := [.int p1, .int x5_46, .int p3]) (rest := []) ⟨hx, hb, hml, hown, hts⟩ (cX6_gainAt_ok l D cI cII q w p1 x5_46 p3 _ h) (cwV 3 hts gX6_best_X6_gainAt rfl rfl rfl (by decide +kernel) ⟨Nat.le_of_ble_eq_true rfl, Nat.le_of_ble_eq_true rfl⟩) (z_preV hK hP rfl rfl) rfl rfl hl.1 rfl (lv_room (Nat.le_of_ble_eq_true rfl)) dX6_best_62 ⟨Nat.le_of_ble_eq_true rfl, Nat.le_of_ble_eq_true rfl⟩) (fun r8 h => ?_)
              refine lv_aload_n hx hb dX6_best_65 rfl (lv_at hl 2 rfl) ?_
              refine lv_iload_n hx hb dX6_best_66 rfl (lv_at hl 3 rfl) ?_
              refine lv_iload hx hb dX6_best_67 (lv_at hl 1 rfl) ?_
              refine lv_iload_n hx hb dX6_best_69 rfl (lv_at hl 5 rfl) ?_
              refine vp_callSl (W.runV (C := RX6) (As := [.int p1, .int x4_46, .int p3]) (rest := [.long r8]) ⟨hx, hb, hml, hown, hts⟩ (cX6_gainAt_ok l D cI cII q w p1 x4_46 p3 _ h) (cwV 3 hts gX6_best_X6_gainAt rfl rfl rfl (by decide +kernel) ⟨Nat.le_of_ble_eq_true rfl, Nat.le_of_ble_eq_true rfl⟩) (z_preV hK hP rfl rfl) rfl rfl hl.1 rfl (lv_room (Nat.le_of_ble_eq_true rfl)) dX6_best_70 ⟨Nat.le_of_ble_eq_true rfl, Nat.le_of_ble_eq_true rfl⟩) (fun r9 h => ?_)
              refine W.lcmp hx hb dX6_best_73 ?_
              refine lv_if_le (tgt := 82) hx hb dX6_best_74 (by decide) (fun c10 => ?_) (fun c10 => ?_)
              · replace h := h.1 c10
                refine lv_iload hx hb dX6_best_82 (lv_at hl 1 rfl) ?_
                refine lv_istore (lv' := [(4, .int x4_46), (5, .int x5_46), (0, .ref (q 0)), (1, .int p1), (2, .int p2), (3, .int p3)]) hx hb dX6_best_84 hl (by decide) rfl (fun ls hl => ?_)
                refine lv_iinc (v := (x5_46 + 1)) (lv' := [(5, .int (x5_46 + 1)), (4, .int x4_46), (0, .ref (q 0)), (1, .int p1), (2, .int p2), (3, .int p3)]) hx hb dX6_best_86 hl (k := 1) rfl rfl (by decide) rfl (fun ls hl => ?_)
                refine lv_goto (tgt := 46) hx hb dX6_best_89 (by decide) ?_
                exact ih (x5_46 + 1) x4_46 h ls (lv_sub hl [0, 1, 2, 3, 4, 5] rfl)
              · replace h := h.2 c10
                refine lv_iload hx hb dX6_best_77 (lv_at hl 0 rfl) ?_
                refine lv_goto (tgt := 84) hx hb dX6_best_79 (by decide) ?_
                refine lv_istore (lv' := [(4, .int x5_46), (5, .int x5_46), (0, .ref (q 0)), (1, .int p1), (2, .int p2), (3, .int p3)]) hx hb dX6_best_84 hl (by decide) rfl (fun ls hl => ?_)
                refine lv_iinc (v := (x5_46 + 1)) (lv' := [(5, .int (x5_46 + 1)), (4, .int x5_46), (0, .ref (q 0)), (1, .int p1), (2, .int p2), (3, .int p3)]) hx hb dX6_best_86 hl (k := 1) rfl rfl (by decide) rfl (fun ls hl => ?_)
                refine lv_goto (tgt := 46) hx hb dX6_best_89 (by decide) ?_
                exact ih (x5_46 + 1) x5_46 h ls (lv_sub hl [0, 1, 2, 3, 4, 5] rfl)
        obtain ⟨n, h⟩ := h
        refine hL46 _ (fun x5_46 x4_46 h ls hl => ?_) n ((w.2.1 0) + 1) (w.2.1 0) h ls hl
        refine lv_iload hx hb dX6_best_92 (lv_at hl 1 rfl) ?_
        exact W.iret (v := x4_46) hx hb hr (fun t ht hW => ⟨x4_46, rfl, h, ht⟩) (fun _ h9 => by cases h9) dX6_best_94
      · replace h := h.2 c6
        refine lv_bipush (v := (-2)) hx hb dX6_best_29 (by decide) ?_
        exact W.iret (v := (-2)) hx hb hr (fun t ht hW => ⟨(-2), rfl, h, ht⟩) (fun _ h9 => by cases h9) dX6_best_31

/-! X6_count -/
set_option maxRecDepth 20000 in
theorem wdX6_count_0 : Cond.fieldLink RX6 96 "CornLawsModel" "week" "I" ∈ wsX6_count := by decide +kernel
set_option maxRecDepth 20000 in
theorem wdX6_count_1 : Cond.fieldLink RX6 109 "CornLawsModel" "returns" "I" ∈ wsX6_count := by decide +kernel
set_option maxRecDepth 20000 in
theorem wdX6_count_2 : Cond.fieldLink RX6 28 "CornLawsModel" "struck" "[I" ∈ wsX6_count := by decide +kernel
set_option maxRecDepth 20000 in
theorem wdX6_count_3 : Cond.fieldLink RX6 123 "CornLawsModel" "scales" "I" ∈ wsX6_count := by decide +kernel
set_option maxRecDepth 20000 in
theorem wdX6_count_4 : Cond.fieldLink RX6 99 "CornLawsModel" "cargoes" "I" ∈ wsX6_count := by decide +kernel
set_option maxRecDepth 20000 in
theorem wdX6_count_5 : Cond.fieldLink RX6 146 "CornLawsModel" "lettings" "I" ∈ wsX6_count := by decide +kernel
set_option maxRecDepth 20000 in
theorem inX6_count_6 : ∀ w ∈ wsX60, w ∈ wsX6_count := by decide +kernel
set_option maxHeartbeats 4000000 in
set_option maxRecDepth 100000 in
theorem cX6_count_ok (l : Launch) (D : va_G) (cI cII : ClassId) (q : Nat → Nat) (w : MS) (p1 : Int32) (post : Int32 → Prop) (h : wpX6_count w p1 post) : Met l yX6_count wsX6_count ({ frames := 0, cells := 0, slots := 0, locals := 0 } : Room) (zPc [.ref (q 0), .int p1] D cI cII (wM cI q w)) (vp_Si post) 0 0 (fun _ => False) := by
  refine Met.ofW (cc := cX6_count) (maxL := 4) (ret := (some .int)) (by decide) rfl ?_
  intro p e s m args below meth c s₁ B hml hv
  obtain ⟨rfl, hP, hK⟩ := hv
  have hx := B.exec
  have hb := B.bytes
  have hr := B.returns
  have hts := atoms_spec (ws := wsX6_count) B.pre
  have hown : s.vm.findClass RX6 = some m.cls := findClass_of_methodNamed B.named
  have hlocks := B.notSynchronized
  have hl := lv_entry ([.ref (q 0), .int p1]) (n := 4) (Nat.le_of_ble_eq_true rfl)
  rw [lg_entry_eq]
  generalize (lg_sl ([.ref (q 0), .int p1]) ++ List.replicate (4 - (lg_sl ([.ref (q 0), .int p1])).length) Slot.unset).toArray = ls at hl ⊢
  have hl : lv_has ls 4 [(0, .ref (q 0)), (1, .int p1)] := hl
  unfold wpX6_count at h
  refine lv_iconst (v := 0) hx hb dX6_count_0 (by decide) ?_
  refine lv_istore_n (lv' := [(2, .int 0), (0, .ref (q 0)), (1, .int p1)]) hx hb dX6_count_1 rfl hl (by decide) rfl (fun ls hl => ?_)
  refine lv_iload_n hx hb dX6_count_2 rfl (lv_at hl 2 rfl) ?_
  rcases z_sw5 p1 with c1 | c1 | c1 | c1 | c1 | c1 | c1
  · replace h := h.1 c1
    refine lv_tableOut (tgt := 101) hx hb dX6_count_3 c1 (by decide) ?_
    refine lv_bipush (v := (-2)) hx hb dX6_count_101 (by decide) ?_
    exact W.iret (v := (-2)) hx hb hr (fun t ht hW => ⟨(-2), rfl, h, ht⟩) (fun _ h9 => by cases h9) dX6_count_103
  · replace h := h.2.1 c1
    refine lv_tableIn (tgt := 40) (off := 37) hx hb dX6_count_3 (by rw [c1]; decide) (by rw [c1]; decide) (by rw [c1]; rfl) (by decide) ?_
    refine lv_aload_n hx hb dX6_count_40 rfl (lv_at hl 1 rfl) ?_
    refine va_get (D := D) (ci := 6) (v := .int (w.2.1 0)) (C := RX6) (T := TX6) (N := 34) hx hb hts inX6_count_6 hown hK hP 0 rfl rfl 0 (by decide) (hts (.fieldLink RX6 96 "CornLawsModel" "week" "I") wdX6_count_0) (fun _ h9 => h9) rfl dX6_count_41 ?_
    exact W.iret (v := (w.2.1 0)) hx hb hr (fun t ht hW => ⟨(w.2.1 0), rfl, h, ht⟩) (fun _ h9 => by cases h9) dX6_count_44
  · replace h := h.2.2.1 c1
    refine lv_tableIn (tgt := 45) (off := 42) hx hb dX6_count_3 (by rw [c1]; decide) (by rw [c1]; decide) (by rw [c1]; rfl) (by decide) ?_
    refine lv_aload_n hx hb dX6_count_45 rfl (lv_at hl 1 rfl) ?_
    refine va_get (D := D) (ci := 6) (v := .int (w.2.1 1)) (C := RX6) (T := TX6) (N := 34) hx hb hts inX6_count_6 hown hK hP 0 rfl rfl 1 (by decide) (hts (.fieldLink RX6 109 "CornLawsModel" "returns" "I") wdX6_count_1) (fun _ h9 => h9) rfl dX6_count_46 ?_
    exact W.iret (v := (w.2.1 1)) hx hb hr (fun t ht hW => ⟨(w.2.1 1), rfl, h, ht⟩) (fun _ h9 => by cases h9) dX6_count_49
  · replace h := h.2.2.2.1 c1
    refine lv_tableIn (tgt := 50) (off := 47) hx hb dX6_count_3 (by rw [c1]; decide) (by rw [c1]; decide) (by rw [c1]; rfl) (by decide) ?_
    refine lv_iconst (v := 0) hx hb dX6_count_50 (by decide) ?_
    refine lv_istore_n (lv' := [(3, .int 0), (2, .int 0), (0, .ref (q 0)), (1, .int p1)]) hx hb dX6_count_51 rfl hl (by decide) rfl (fun ls hl => ?_)
    have hL52 : ∀ (K52 : Int32 → Int32 → Prop) (hX : ∀ (x3_52 : Int32) (x2_52 : Int32), K52 x3_52 x2_52 → ∀ ls : Array Slot, lv_has ls 4 [(3, .int x3_52), (2, .int x2_52), (0, .ref (q 0)), (1, .int p1)] → W p l e (headSpec wsX6_count ({ frames := 0, cells := 0, slots := 0, locals := 0 } : Room)).room s m ([.ref (q 0), .int p1] : List Value).toArray below meth c s.heap [] 0 0 (MQ below (vp_Si post) ([.ref (q 0), .int p1] : List Value).toArray s 0 0 (fun _ => False)) (F0 m 84 ls [])) (n : Nat) (x3_52 : Int32) (x2_52 : Int32), wpX6_count_L52 w K52 n x3_52 x2_52 → ∀ ls : Array Slot, lv_has ls 4 [(3, .int x3_52), (2, .int x2_52), (0, .ref (q 0)), (1, .int p1)] → W p l e (headSpec wsX6_count ({ frames := 0, cells := 0, slots := 0, locals := 0 } : Room)).room s m ([.ref (q 0), .int p1] : List Value).toArray below meth c s.heap [] 0 0 (MQ below (vp_Si post) ([.ref (q 0), .int p1] : List Value).toArray s 0 0 (fun _ => False)) (F0 m 52 ls []) := by
      intro K52 hX n
      induction n with
      | zero => intro x3_52 x2_52 h; exact False.elim h
      | succ n ih =>
        intro x3_52 x2_52 h ls hl
        rw [wpX6_count_L52] at h
        refine lv_iload_n hx hb dX6_count_52 rfl (lv_at hl 0 rfl) ?_
        refine lv_aload_n hx hb dX6_count_53 rfl (lv_at hl 2 rfl) ?_
        refine va_get (D := D) (ci := 6) (v := .int (w.2.1 1)) (C := RX6) (T := TX6) (N := 34) hx hb hts inX6_count_6 hown hK hP 0 rfl rfl 1 (by decide) (hts (.fieldLink RX6 109 "CornLawsModel" "returns" "I") wdX6_count_1) (fun _ h9 => h9) rfl dX6_count_54 ?_
        refine lv_icmp_ge (tgt := 84) hx hb dX6_count_57 (by decide) (fun c2 => ?_) (fun c2 => ?_)
        · replace h := h.1 c2
          exact hX x3_52 x2_52 h ls (lv_sub hl [0, 1, 2, 3] rfl)
        · replace h := h.2 c2
          refine lv_iload_n hx hb dX6_count_60 rfl (lv_at hl 1 rfl) ?_
          refine lv_aload_n hx hb dX6_count_61 rfl (lv_at hl 2 rfl) ?_
          refine va_get (D := D) (ci := 6) (v := .ref (q 7)) (C := RX6) (T := TX6) (N := 34) hx hb hts inX6_count_6 hown hK hP 0 rfl rfl 8 (by decide) (hts (.fieldLink RX6 28 "CornLawsModel" "struck" "[I") wdX6_count_2) (fun _ h9 => h9) rfl dX6_count_62 ?_
          refine lv_iload_n hx hb dX6_count_65 rfl (lv_at hl 0 rfl) ?_
          obtain ⟨hi3, h⟩ := h
          refine va_iald (f := w.1 6) hx hb hK hP 7 0 rfl rfl hi3 dX6_count_66 ?_
          refine lv_iconst (v := (-1)) hx hb dX6_count_67 (by decide) ?_
          refine lv_icmp_eq (tgt := 75) hx hb dX6_count_68 (by decide) (fun c4 => ?_) (fun c4 => ?_)
          · replace h := h.1 c4
            refine lv_iconst (v := 0) hx hb dX6_count_75 (by decide) ?_
            refine lv_iadd hx hb dX6_count_76 ?_
            refine lv_istore_n (lv' := [(2, .int (x2_52 + 0)), (3, .int x3_52), (0, .ref (q 0)), (1, .int p1)]) hx hb dX6_count_77 rfl hl (by decide) rfl (fun ls hl => ?_)
            refine lv_iinc (v := (x3_52 + 1)) (lv' := [(3, .int (x3_52 + 1)), (2, .int (x2_52 + 0)), (0, .ref (q 0)), (1, .int p1)]) hx hb dX6_count_78 hl (k := 1) rfl rfl (by decide) rfl (fun ls hl => ?_)
            refine lv_goto (tgt := 52) hx hb dX6_count_81 (by decide) ?_
            exact ih (x3_52 + 1) (x2_52 + 0) h ls (lv_sub hl [0, 1, 2, 3] rfl)
          · replace h := h.2 c4
            refine lv_iconst (v := 1) hx hb dX6_count_71 (by decide) ?_
            refine lv_goto (tgt := 76) hx hb dX6_count_72 (by decide) ?_
            refine lv_iadd hx hb dX6_count_76 ?_
            refine lv_istore_n (lv' := [(2, .int (x2_52 + 1)), (3, .int x3_52), (0, .ref (q 0)), (1, .int p1)]) hx hb dX6_count_77 rfl hl (by decide) rfl (fun ls hl => ?_)
            refine lv_iinc (v := (x3_52 + 1)) (lv' := [(3, .int (x3_52 + 1)), (2, .int (x2_52 + 1)), (0, .ref (q 0)), (1, .int p1)]) hx hb dX6_count_78 hl (k := 1) rfl rfl (by decide) rfl (fun ls hl => ?_)
            refine lv_goto (tgt := 52) hx hb dX6_count_81 (by decide) ?_
            exact ih (x3_52 + 1) (x2_52 + 1) h ls (lv_sub hl [0, 1, 2, 3] rfl)
    obtain ⟨n, h⟩ := h
    refine hL52 _ (fun x3_52 x2_52 h ls hl => ?_) n 0 0 h ls hl
    refine lv_iload_n hx hb dX6_count_84 rfl (lv_at hl 1 rfl) ?_
    exact W.iret (v := x2_52) hx hb hr (fun t ht hW => ⟨x2_52, rfl, h, ht⟩) (fun _ h9 => by cases h9) dX6_count_85
  · replace h := h.2.2.2.2.1 c1
    refine lv_tableIn (tgt := 86) (off := 83) hx hb dX6_count_3 (by rw [c1]; decide) (by rw [c1]; decide) (by rw [c1]; rfl) (by decide) ?_
    refine lv_aload_n hx hb dX6_count_86 rfl (lv_at hl 1 rfl) ?_
    refine va_get (D := D) (ci := 6) (v := .int (w.2.1 2)) (C := RX6) (T := TX6) (N := 34) hx hb hts inX6_count_6 hown hK hP 0 rfl rfl 9 (by decide) (hts (.fieldLink RX6 123 "CornLawsModel" "scales" "I") wdX6_count_3) (fun _ h9 => h9) rfl dX6_count_87 ?_
    exact W.iret (v := (w.2.1 2)) hx hb hr (fun t ht hW => ⟨(w.2.1 2), rfl, h, ht⟩) (fun _ h9 => by cases h9) dX6_count_90
  · replace h := h.2.2.2.2.2.1 c1
    refine lv_tableIn (tgt := 91) (off := 88) hx hb dX6_count_3 (by rw [c1]; decide) (by rw [c1]; decide) (by rw [c1]; rfl) (by decide) ?_
    refine lv_aload_n hx hb dX6_count_91 rfl (lv_at hl 1 rfl) ?_
    refine va_get (D := D) (ci := 6) (v := .int (w.2.1 3)) (C := RX6) (T := TX6) (N := 34) hx hb hts inX6_count_6 hown hK hP 0 rfl rfl 19 (by decide) (hts (.fieldLink RX6 99 "CornLawsModel" "cargoes" "I") wdX6_count_4) (fun _ h9 => h9) rfl dX6_count_92 ?_
    exact W.iret (v := (w.2.1 3)) hx hb hr (fun t ht hW => ⟨(w.2.1 3), rfl, h, ht⟩) (fun _ h9 => by cases h9) dX6_count_95
  · replace h := h.2.2.2.2.2.2 c1
    refine lv_tableIn (tgt := 96) (off := 93) hx hb dX6_count_3 (by rw [c1]; decide) (by rw [c1]; decide) (by rw [c1]; rfl) (by decide) ?_
    refine lv_aload_n hx hb dX6_count_96 rfl (lv_at hl 1 rfl) ?_
    refine va_get (D := D) (ci := 6) (v := .int (w.2.1 5)) (C := RX6) (T := TX6) (N := 34) hx hb hts inX6_count_6 hown hK hP 0 rfl rfl 27 (by decide) (hts (.fieldLink RX6 146 "CornLawsModel" "lettings" "I") wdX6_count_5) (fun _ h9 => h9) rfl dX6_count_97 ?_
    exact W.iret (v := (w.2.1 5)) hx hb hr (fun t ht hW => ⟨(w.2.1 5), rfl, h, ht⟩) (fun _ h9 => by cases h9) dX6_count_100
