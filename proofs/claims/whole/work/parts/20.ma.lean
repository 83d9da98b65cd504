/-! X6_in -/
set_option maxHeartbeats 4000000 in
set_option maxRecDepth 100000 in
theorem cX6_in_ok (l : Launch) (p1 : Int32) (p2 : Int32) (p3 : Int32) (post : Int32 → Prop) (h : wpX6_in p1 p2 p3 post) : Met l yX6_in wsX6_in ({ frames := 0, cells := 0, slots := 0, locals := 0 } : Room) (zPs [.int p1, .int p2, .int p3]) (vp_Si post) 0 0 (fun _ => False) := by
  refine Met.ofW (cc := cX6_in) (maxL := 3) (ret := (some .boolean)) (by decide) rfl ?_
  intro p e s m args below meth c s₁ B hml hv
  obtain ⟨rfl, -⟩ := hv
  have hx := B.exec
  have hb := B.bytes
  have hr := B.returns
  have hts := atoms_spec (ws := wsX6_in) B.pre
  have hown : s.vm.findClass RX6 = some m.cls := findClass_of_methodNamed B.named
  have hlocks := B.notSynchronized
  have hl := lv_entry ([.int p1, .int p2, .int p3]) (n := 3) (Nat.le_of_ble_eq_true rfl)
  rw [lg_entry_eq]
  generalize (lg_sl ([.int p1, .int p2, .int p3]) ++ List.replicate (3 - (lg_sl ([.int p1, .int p2, .int p3])).length) Slot.unset).toArray = ls at hl ⊢
  have hl : lv_has ls 3 [(0, .int p1), (1, .int p2), (2, .int p3)] := hl
  unfold wpX6_in at h
  refine lv_iload_n hx hb dX6_in_0 rfl (lv_at hl 0 rfl) ?_
  refine lv_iload_n hx hb dX6_in_1 rfl (lv_at hl 1 rfl) ?_
  refine lv_icmp_lt (tgt := 14) hx hb dX6_in_2 (by decide) (fun c1 => ?_) (fun c1 => ?_)
  · replace h := h.1 c1
    refine lv_iconst (v := 0) hx hb dX6_in_14 (by decide) ?_
    exact W.zret (v := 0) (ty := .boolean) hx hb hr (by decide) (fun t ht hW => ⟨0, rfl, h, ht⟩) (fun _ h9 => by cases h9) dX6_in_15
  · replace h := h.2 c1
    refine lv_iload_n hx hb dX6_in_5 rfl (lv_at hl 0 rfl) ?_
    refine lv_iload_n hx hb dX6_in_6 rfl (lv_at hl 2 rfl) ?_
    refine lv_icmp_gt (tgt := 14) hx hb dX6_in_7 (by decide) (fun c2 => ?_) (fun c2 => ?_)
    · replace h := h.1 c2
      refine lv_iconst (v := 0) hx hb dX6_in_14 (by decide) ?_
      exact W.zret (v := 0) (ty := .boolean) hx hb hr (by decide) (fun t ht hW => ⟨0, rfl, h, ht⟩) (fun _ h9 => by cases h9) dX6_in_15
    · replace h := h.2 c2
      refine lv_iconst (v := 1) hx hb dX6_in_10 (by decide) ?_
      refine lv_goto (tgt := 15) hx hb dX6_in_11 (by decide) ?_
      exact W.zret (v := 1) (ty := .boolean) hx hb hr (by decide) (fun t ht hW => ⟨1, rfl, h, ht⟩) (fun _ h9 => by cases h9) dX6_in_15

/-! X6_isGrain -/
set_option maxHeartbeats 4000000 in
set_option maxRecDepth 100000 in
theorem cX6_isGrain_ok (l : Launch) (p1 : Int32) (post : Int32 → Prop) (h : wpX6_isGrain p1 post) : Met l yX6_isGrain wsX6_isGrain ({ frames := 1, cells := 0, slots := 0, locals := 22 } : Room) (zPs [.int p1]) (vp_Si post) 0 0 (fun _ => False) := by
  refine Met.ofW (cc := cX6_isGrain) (maxL := 1) (ret := (some .boolean)) (by decide) rfl ?_
  intro p e s m args below meth c s₁ B hml hv
  obtain ⟨rfl, -⟩ := hv
  have hx := B.exec
  have hb := B.bytes
  have hr := B.returns
  have hts := atoms_spec (ws := wsX6_isGrain) B.pre
  have hown : s.vm.findClass RX6 = some m.cls := findClass_of_methodNamed B.named
  have hlocks := B.notSynchronized
  have hl := lv_entry ([.int p1]) (n := 1) (Nat.le_of_ble_eq_true rfl)
  rw [lg_entry_eq]
  generalize (lg_sl ([.int p1]) ++ List.replicate (1 - (lg_sl ([.int p1])).length) Slot.unset).toArray = ls at hl ⊢
  have hl : lv_has ls 1 [(0, .int p1)] := hl
  unfold wpX6_isGrain at h
  refine lv_iload_n hx hb dX6_isGrain_0 rfl (lv_at hl 0 rfl) ?_
  refine lv_iconst (v := 0) hx hb dX6_isGrain_1 (by decide) ?_
  refine lv_iconst (v := 2) hx hb dX6_isGrain_2 (by decide) ?_
  refine vp_callSi (W.runS (As := [.int p1, .int 0, .int 2]) (rest := []) ⟨hx, hb, hml, hown, hts⟩ (cX6_in_ok l p1 0 2 _ h) (va_cwS 3 hts gX6_isGrain_X6_in rfl rfl rfl (by decide +kernel) ⟨Nat.le_of_ble_eq_true rfl, Nat.le_of_ble_eq_true rfl⟩) z_preS rfl rfl hl.1 rfl (lv_room (Nat.le_of_ble_eq_true rfl)) dX6_isGrain_3 ⟨Nat.le_of_ble_eq_true rfl, Nat.le_of_ble_eq_true rfl⟩) (fun r1 h => ?_)
  obtain ⟨hnar, h⟩ := h
  exact W.zret (v := r1) (ty := .boolean) hx hb hr hnar (fun t ht hW => ⟨r1, rfl, h, ht⟩) (fun _ h9 => by cases h9) dX6_isGrain_6

/-! X6_weeks -/
set_option maxRecDepth 20000 in
theorem wdX6_weeks_0 : Cond.fieldLink RX6 96 "CornLawsModel" "week" "I" ∈ wsX6_weeks := by decide +kernel
set_option maxRecDepth 20000 in
theorem wdX6_weeks_1 : Cond.fieldLink RX6 99 "CornLawsModel" "cargoes" "I" ∈ wsX6_weeks := by decide +kernel
set_option maxRecDepth 20000 in
theorem wdX6_weeks_2 : Cond.fieldLink RX6 61 "CornLawsModel" "cargoBond" "[I" ∈ wsX6_weeks := by decide +kernel
set_option maxRecDepth 20000 in
theorem wdX6_weeks_3 : Cond.fieldLink RX6 102 "CornLawsModel" "spoils" "I" ∈ wsX6_weeks := by decide +kernel
set_option maxRecDepth 20000 in
theorem wdX6_weeks_4 : Cond.fieldLink RX6 70 "CornLawsModel" "cargoSpoilt" "[I" ∈ wsX6_weeks := by decide +kernel
set_option maxRecDepth 20000 in
theorem inX6_weeks_6 : ∀ w ∈ wsX60, w ∈ wsX6_weeks := by decide +kernel
set_option maxHeartbeats 4000000 in
set_option maxRecDepth 100000 in
theorem cX6_weeks_ok (l : Launch) (D : va_G) (cI cII : ClassId) (q : Nat → Nat) (w : MS) (p1 : Int32) (post : Int32 → MS → Prop) (h : wpX6_weeks w p1 post) : Met l yX6_weeks wsX6_weeks ({ frames := 1, cells := 0, slots := 0, locals := 22 } : Room) (zPm [.ref (q 0), .int p1] D cI cII (wM cI q w)) (va_Qi post (fun (z : MS) (t : State) => va_P D vwCl (wM cI q z) t.heap) (z_in (wM cI q w))) 0 0 (z_in (wM cI q w)) := by
  refine Met.ofW (cc := cX6_weeks) (maxL := 5) (ret := (some .int)) (by decide) rfl ?_
  intro p e s m args below meth c s₁ B hml hv
  obtain ⟨rfl, hP, hK, hD0⟩ := hv
  have hx := B.exec
  have hb := B.bytes
  have hr := B.returns
  have hts := atoms_spec (ws := wsX6_weeks) B.pre
  have hown : s.vm.findClass RX6 = some m.cls := findClass_of_methodNamed B.named
  have hlocks := B.notSynchronized
  have hD := z_Dself hD0
  generalize hAe : z_in (wM cI q w) = A at hD ⊢
  have hS : va_S A s.heap s.heap [] := va_S.rf
  have hl := lv_entry ([.ref (q 0), .int p1]) (n := 5) (Nat.le_of_ble_eq_true rfl)
  rw [lg_entry_eq]
  generalize (lg_sl ([.ref (q 0), .int p1]) ++ List.replicate (5 - (lg_sl ([.ref (q 0), .int p1])).length) Slot.unset).toArray = ls at hl ⊢
  have hl : lv_has ls 5 [(0, .ref (q 0)), (1, .int p1)] := hl
  unfold wpX6_weeks at h
  refine lv_iload_n hx hb dX6_weeks_0 rfl (lv_at hl 1 rfl) ?_
  refine lv_iconst (v := 1) hx hb dX6_weeks_1 (by decide) ?_
  refine lv_bipush (v := 20) hx hb dX6_weeks_2 (by decide) ?_
  refine vp_callSi (W.runS (As := [.int p1, .int 1, .int 20]) (rest := []) ⟨hx, hb, hml, hown, hts⟩ (cX6_in_ok l p1 1 20 _ h) (va_cwS 3 hts gX6_weeks_X6_in rfl rfl rfl (by decide +kernel) ⟨Nat.le_of_ble_eq_true rfl, Nat.le_of_ble_eq_true rfl⟩) z_preS rfl rfl hl.1 rfl (lv_room (Nat.le_of_ble_eq_true rfl)) dX6_weeks_4 ⟨Nat.le_of_ble_eq_true rfl, Nat.le_of_ble_eq_true rfl⟩) (fun r1 h => ?_)
  refine lv_if_eq (tgt := 22) hx hb dX6_weeks_7 (by decide) (fun c2 => ?_) (fun c2 => ?_)
  · replace h := h.1 c2
    refine lv_bipush (v := (-2)) hx hb dX6_weeks_22 (by decide) ?_
    exact W.iret (v := (-2)) hx hb hr (fun t ht hW => ⟨⟨(-2), w, rfl, h, by show va_P D vwCl _ t.heap; rw [ht]; exact hP⟩, hS.F ht⟩) hS.2.2 dX6_weeks_24
  · replace h := h.2 c2
    refine lv_aload_n hx hb dX6_weeks_10 rfl (lv_at hl 0 rfl) ?_
    refine va_get (D := D) (ci := 6) (v := .int (w.2.1 0)) (C := RX6) (T := TX6) (N := 34) hx hb hts inX6_weeks_6 hown hK hP 0 rfl rfl 0 (by decide) (hts (.fieldLink RX6 96 "CornLawsModel" "week" "I") wdX6_weeks_0) (fun _ h9 => h9) rfl dX6_weeks_11 ?_
    refine lv_iload_n hx hb dX6_weeks_14 rfl (lv_at hl 1 rfl) ?_
    refine lv_iadd hx hb dX6_weeks_15 ?_
    refine lv_sipush (v := 200) hx hb dX6_weeks_16 (by decide) ?_
    refine lv_icmp_le (tgt := 25) hx hb dX6_weeks_19 (by decide) (fun c3 => ?_) (fun c3 => ?_)
    · replace h := h.1 c3
      refine lv_iconst (v := 0) hx hb dX6_weeks_25 (by decide) ?_
      refine lv_istore_n (lv' := [(2, .int 0), (0, .ref (q 0)), (1, .int p1)]) hx hb dX6_weeks_26 rfl hl (by decide) rfl (fun ls hl => ?_)
      have hL27 : ∀ (K27 : Int32 → MS → Prop) (hX : ∀ (x2_27 : Int32) (w_27 : MS) (H : Heap) (locs : List Loc), K27 x2_27 w_27 → va_P D vwCl (wM cI q w_27) H → va_D A (wM cI q w_27) → va_S A s.heap H locs → ∀ ls : Array Slot, lv_has ls 5 [(2, .int x2_27), (0, .ref (q 0)), (1, .int p1)] → W p l e (headSpec wsX6_weeks ({ frames := 1, cells := 0, slots := 0, locals := 22 } : Room)).room s m ([.ref (q 0), .int p1] : List Value).toArray below meth c H locs 0 0 (MQ below (va_Qi post (fun (z : MS) (t : State) => va_P D vwCl (wM cI q z) t.heap) A) ([.ref (q 0), .int p1] : List Value).toArray s 0 0 A) (F0 m 103 ls [])) (n : Nat) (x2_27 : Int32) (w_27 : MS) (H : Heap) (locs : List Loc), wpX6_weeks_L27 p1 K27 n x2_27 w_27 → va_P D vwCl (wM cI q w_27) H → va_D A (wM cI q w_27) → va_S A s.heap H locs → ∀ ls : Array Slot, lv_has ls 5 [(2, .int x2_27), (0, .ref (q 0)), (1, .int p1)] → W p l e (headSpec wsX6_weeks ({ frames := 1, cells := 0, slots := 0, locals := 22 } : Room)).room s m ([.ref (q 0), .int p1] : List Value).toArray below meth c H locs 0 0 (MQ below (va_Qi post (fun (z : MS) (t : State) => va_P D vwCl (wM cI q z) t.heap) A) ([.ref (q 0), .int p1] : List Value).toArray s 0 0 A) (F0 m 27 ls []) := by
        intro K27 hX n
        induction n with
        | zero => intro x2_27 w_27 H locs h; exact False.elim h
        | succ n ih =>
          intro x2_27 w_27 H locs h hP hD hS ls hl
          rw [wpX6_weeks_L27] at h
          refine lv_iload_n hx hb dX6_weeks_27 rfl (lv_at hl 0 rfl) ?_
          refine lv_iload_n hx hb dX6_weeks_28 rfl (lv_at hl 2 rfl) ?_
          refine lv_icmp_ge (tgt := 103) hx hb dX6_weeks_29 (by decide) (fun c4 => ?_) (fun c4 => ?_)
          · replace h := h.1 c4
            exact hX x2_27 w_27 _ _ h hP hD hS ls (lv_sub hl [0, 1, 2] rfl)
          · replace h := h.2 c4
            refine lv_aload_n hx hb dX6_weeks_32 rfl (lv_at hl 1 rfl) ?_
            refine lv_dup hx hb dX6_weeks_33 rfl ?_
            refine va_get (D := D) (ci := 6) (v := .int (w_27.2.1 0)) (C := RX6) (T := TX6) (N := 34) hx hb hts inX6_weeks_6 hown hK hP 0 rfl rfl 0 (by decide) (hts (.fieldLink RX6 96 "CornLawsModel" "week" "I") wdX6_weeks_0) (fun _ h9 => h9) rfl dX6_weeks_34 ?_
            refine lv_iconst (v := 1) hx hb dX6_weeks_37 (by decide) ?_
            refine lv_iadd hx hb dX6_weeks_38 ?_
            refine va_put (D := D) (ci := 6) (v := .int ((w_27.2.1 0) + 1)) (ty := .int) (C := RX6) (T := TX6) (N := 34) hx hb hts inX6_weeks_6 tyX6 tyX6_ok nmX6 hown hK hP hD hS 0 rfl rfl 0 (by decide) (hts (.fieldLink RX6 96 "CornLawsModel" "week" "I") wdX6_weeks_0) (fun _ h9 => h9) rfl (by decide +kernel) rfl rfl (Nat.le_of_ble_eq_true rfl) dX6_weeks_39 (fun H locs hP hD hS => ?_)
            have hP : va_P D vwCl (wM cI q (w_27.1, (upd w_27.2.1 0 (((w_27.2.1 0) + 1))), w_27.2.2)) H := hP
            have hD : va_D A (wM cI q (w_27.1, (upd w_27.2.1 0 (((w_27.2.1 0) + 1))), w_27.2.2)) := hD
            refine lv_iconst (v := 0) hx hb dX6_weeks_42 (by decide) ?_
            refine lv_istore_n (lv' := [(3, .int 0), (2, .int x2_27), (0, .ref (q 0)), (1, .int p1)]) hx hb dX6_weeks_43 rfl hl (by decide) rfl (fun ls hl => ?_)
            have hL44 : ∀ (K44 : Int32 → MS → Prop) (hX : ∀ (x3_44 : Int32) (w_44 : MS) (H : Heap) (locs : List Loc), K44 x3_44 w_44 → va_P D vwCl (wM cI q w_44) H → va_D A (wM cI q w_44) → va_S A s.heap H locs → ∀ ls : Array Slot, lv_has ls 5 [(3, .int x3_44), (2, .int x2_27), (0, .ref (q 0)), (1, .int p1)] → W p l e (headSpec wsX6_weeks ({ frames := 1, cells := 0, slots := 0, locals := 22 } : Room)).room s m ([.ref (q 0), .int p1] : List Value).toArray below meth c H locs 0 0 (MQ below (va_Qi post (fun (z : MS) (t : State) => va_P D vwCl (wM cI q z) t.heap) A) ([.ref (q 0), .int p1] : List Value).toArray s 0 0 A) (F0 m 97 ls [])) (n : Nat) (x3_44 : Int32) (w_44 : MS) (H : Heap) (locs : List Loc), wpX6_weeks_L44 K44 n x3_44 w_44 → va_P D vwCl (wM cI q w_44) H → va_D A (wM cI q w_44) → va_S A s.heap H locs → ∀ ls : Array Slot, lv_has ls 5 [(3, .int x3_44), (2, .int x2_27), (0, .ref (q 0)), (1, .int p1)] → W p l e (headSpec wsX6_weeks ({ frames := 1, cells := 0, slots := 0, locals := 22 } : Room)).room s m ([.ref (q 0), .int p1] : List Value).toArray below meth c H locs 0 0 (MQ below (va_Qi post (fun (z : MS) (t : State) => va_P D vwCl (wM cI q z) t.heap) A) ([.ref (q 0), .int p1] : List Value).toArray s 0 0 A) (F0 m 44 ls []) := by
              intro K44 hX n
              induction n with
              | zero => intro x3_44 w_44 H locs h; exact False.elim h
              | succ n ih =>
                intro x3_44 w_44 H locs h hP hD hS ls hl
                rw [wpX6_weeks_L44] at h
                refine lv_iload_n hx hb dX6_weeks_44 rfl (lv_at hl 0 rfl) ?_
                refine lv_aload_n hx hb dX6_weeks_45 rfl (lv_at hl 2 rfl) ?_
                refine va_get (D := D) (ci := 6) (v := .int (w_44.2.1 3)) (C := RX6) (T := TX6) (N := 34) hx hb hts inX6_weeks_6 hown hK hP 0 rfl rfl 19 (by decide) (hts (.fieldLink RX6 99 "CornLawsModel" "cargoes" "I") wdX6_weeks_1) (fun _ h9 => h9) rfl dX6_weeks_46 ?_
                refine lv_icmp_ge (tgt := 97) hx hb dX6_weeks_49 (by decide) (fun c5 => ?_) (fun c5 => ?_)
                · replace h := h.1 c5
                  exact hX x3_44 w_44 _ _ h hP hD hS ls (lv_sub hl [0, 1, 2, 3] rfl)
                · replace h := h.2 c5
                  refine lv_aload_n hx hb dX6_weeks_52 rfl (lv_at hl 2 rfl) ?_
                  refine va_get (D := D) (ci := 6) (v := .ref (q 18)) (C := RX6) (T := TX6) (N := 34) hx hb hts inX6_weeks_6 hown hK hP 0 rfl rfl 21 (by decide) (hts (.fieldLink RX6 61 "CornLawsModel" "cargoBond" "[I") wdX6_weeks_2) (fun _ h9 => h9) rfl dX6_weeks_53 ?_
                  refine lv_iload_n hx hb dX6_weeks_56 rfl (lv_at hl 0 rfl) ?_
                  obtain ⟨hi6, h⟩ := h
                  refine va_iald (f := w_44.1 17) hx hb hK hP 18 0 rfl rfl hi6 dX6_weeks_57 ?_
                  refine lv_aload_n hx hb dX6_weeks_58 rfl (lv_at hl 2 rfl) ?_
                  refine va_get (D := D) (ci := 6) (v := .int (w_44.2.1 4)) (C := RX6) (T := TX6) (N := 34) hx hb hts inX6_weeks_6 hown hK hP 0 rfl rfl 26 (by decide) (hts (.fieldLink RX6 102 "CornLawsModel" "spoils" "I") wdX6_weeks_3) (fun _ h9 => h9) rfl dX6_weeks_59 ?_
                  refine lv_imul hx hb dX6_weeks_62 ?_
                  refine lv_sipush (v := 1000) hx hb dX6_weeks_63 (by decide) ?_
                  refine lv_idiv hx hb dX6_weeks_66 (by decide) ?_
                  refine lv_istore (lv' := [(4, .int (((w_44.1 17 x3_44.toNatClampNeg) * (w_44.2.1 4)) / 1000)), (3, .int x3_44), (2, .int x2_27), (0, .ref (q 0)), (1, .int p1)]) hx hb dX6_weeks_67 hl (by decide) rfl (fun ls hl => ?_)
                  refine lv_aload_n hx hb dX6_weeks_69 rfl (lv_at hl 3 rfl) ?_
                  refine va_get (D := D) (ci := 6) (v := .ref (q 18)) (C := RX6) (T := TX6) (N := 34) hx hb hts inX6_weeks_6 hown hK hP 0 rfl rfl 21 (by decide) (hts (.fieldLink RX6 61 "CornLawsModel" "cargoBond" "[I") wdX6_weeks_2) (fun _ h9 => h9) rfl dX6_weeks_70 ?_
                  refine lv_iload_n hx hb dX6_weeks_73 rfl (lv_at hl 1 rfl) ?_
                  refine lv_dup2_11 hx hb dX6_weeks_74 rfl rfl ?_
                  refine va_iald (f := w_44.1 17) hx hb hK hP 18 0 rfl rfl hi6 dX6_weeks_75 ?_
                  refine lv_iload hx hb dX6_weeks_76 (lv_at hl 0 rfl) ?_
                  refine lv_isub hx hb dX6_weeks_78 ?_
                  refine va_iast (f := w_44.1 17) hx hb hK hP hD hS 18 0 rfl rfl hi6 dX6_weeks_79 (fun H locs hP hD hS => ?_)
                  have hP : va_P D vwCl (wM cI q ((va_up w_44.1 17 (upd (w_44.1 17) (x3_44.toNatClampNeg) (((w_44.1 17 x3_44.toNatClampNeg) - (((w_44.1 17 x3_44.toNatClampNeg) * (w_44.2.1 4)) / 1000))))), w_44.2.1, w_44.2.2)) H := hP
                  have hD : va_D A (wM cI q ((va_up w_44.1 17 (upd (w_44.1 17) (x3_44.toNatClampNeg) (((w_44.1 17 x3_44.toNatClampNeg) - (((w_44.1 17 x3_44.toNatClampNeg) * (w_44.2.1 4)) / 1000))))), w_44.2.1, w_44.2.2)) := hD
                  refine lv_aload_n hx hb dX6_weeks_80 rfl (lv_at hl 3 rfl) ?_
                  refine va_get (D := D) (ci := 6) (v := .ref (q 21)) (C := RX6) (T := TX6) (N := 34) hx hb hts inX6_weeks_6 hown hK hP 0 rfl rfl 24 (by decide) (hts (.fieldLink RX6 70 "CornLawsModel" "cargoSpoilt" "[I") wdX6_weeks_4) (fun _ h9 => h9) rfl dX6_weeks_81 ?_
                  refine lv_iload_n hx hb dX6_weeks_84 rfl (lv_at hl 1 rfl) ?_
                  refine lv_dup2_11 hx hb dX6_weeks_85 rfl rfl ?_
                  refine va_iald (f := w_44.1 20) hx hb hK hP 21 0 rfl rfl hi6 dX6_weeks_86 ?_
                  refine lv_iload hx hb dX6_weeks_87 (lv_at hl 0 rfl) ?_
                  refine lv_iadd hx hb dX6_weeks_89 ?_
                  refine va_iast (f := w_44.1 20) hx hb hK hP hD hS 21 0 rfl rfl hi6 dX6_weeks_90 (fun H locs hP hD hS => ?_)
                  have hP : va_P D vwCl (wM cI q ((va_up (va_up w_44.1 17 (upd (w_44.1 17) (x3_44.toNatClampNeg) (((w_44.1 17 x3_44.toNatClampNeg) - (((w_44.1 17 x3_44.toNatClampNeg) * (w_44.2.1 4)) / 1000))))) 20 (upd (w_44.1 20) (x3_44.toNatClampNeg) (((w_44.1 20 x3_44.toNatClampNeg) + (((w_44.1 17 x3_44.toNatClampNeg) * (w_44.2.1 4)) / 1000))))), w_44.2.1, w_44.2.2)) H := hP
                  have hD : va_D A (wM cI q ((va_up (va_up w_44.1 17 (upd (w_44.1 17) (x3_44.toNatClampNeg) (((w_44.1 17 x3_44.toNatClampNeg) - (((w_44.1 17 x3_44.toNatClampNeg) * (w_44.2.1 4)) / 1000))))) 20 (upd (w_44.1 20) (x3_44.toNatClampNeg) (((w_44.1 20 x3_44.toNatClampNeg) + (((w_44.1 17 x3_44.toNatClampNeg) * (w_44.2.1 4)) / 1000))))), w_44.2.1, w_44.2.2)) := hD
                  refine lv_iinc (v := (x3_44 + 1)) (lv' := [(3, .int (x3_44 + 1)), (4, .int (((w_44.1 17 x3_44.toNatClampNeg) * (w_44.2.1 4)) / 1000)), (2, .int x2_27), (0, .ref (q 0)), (1, .int p1)]) hx hb dX6_weeks_91 hl (k := 1) rfl rfl (by decide) rfl (fun ls hl => ?_)
                  refine lv_goto (tgt := 44) hx hb dX6_weeks_94 (by decide) ?_
                  exact ih (x3_44 + 1) ((va_up (va_up w_44.1 17 (upd (w_44.1 17) (x3_44.toNatClampNeg) (((w_44.1 17 x3_44.toNatClampNeg) - (((w_44.1 17 x3_44.toNatClampNeg) * (w_44.2.1 4)) / 1000))))) 20 (upd (w_44.1 20) (x3_44.toNatClampNeg) (((w_44.1 20 x3_44.toNatClampNeg) + (((w_44.1 17 x3_44.toNatClampNeg) * (w_44.2.1 4)) / 1000))))), w_44.2.1, w_44.2.2) _ _ h hP hD hS ls (lv_sub hl [0, 2, 3, 4] rfl)
            obtain ⟨n, h⟩ := h
            refine hL44 _ (fun x3_44 w_44 H locs h hP hD hS ls hl => ?_) n 0 (w_27.1, (upd w_27.2.1 0 (((w_27.2.1 0) + 1))), w_27.2.2) H locs h hP hD hS ls hl
            refine lv_iinc (v := (x2_27 + 1)) (lv' := [(2, .int (x2_27 + 1)), (3, .int x3_44), (0, .ref (q 0)), (1, .int p1)]) hx hb dX6_weeks_97 hl (k := 1) rfl rfl (by decide) rfl (fun ls hl => ?_)
            refine lv_goto (tgt := 27) hx hb dX6_weeks_100 (by decide) ?_
            exact ih (x2_27 + 1) w_44 _ _ h hP hD hS ls (lv_sub hl [0, 2, 3] rfl)
      obtain ⟨n, h⟩ := h
      refine hL27 _ (fun x2_27 w_27 H locs h hP hD hS ls hl => ?_) n 0 w s.heap [] h hP hD hS ls hl
      refine lv_aload_n hx hb dX6_weeks_103 rfl (lv_at hl 1 rfl) ?_
      refine va_get (D := D) (ci := 6) (v := .int (w_27.2.1 0)) (C := RX6) (T := TX6) (N := 34) hx hb hts inX6_weeks_6 hown hK hP 0 rfl rfl 0 (by decide) (hts (.fieldLink RX6 96 "CornLawsModel" "week" "I") wdX6_weeks_0) (fun _ h9 => h9) rfl dX6_weeks_104 ?_
      exact W.iret (v := (w_27.2.1 0)) hx hb hr (fun t ht hW => ⟨⟨(w_27.2.1 0), w_27, rfl, h, by show va_P D vwCl _ t.heap; rw [ht]; exact hP⟩, hS.F ht⟩) hS.2.2 dX6_weeks_107
    · replace h := h.2 c3
      refine lv_bipush (v := (-2)) hx hb dX6_weeks_22 (by decide) ?_
      exact W.iret (v := (-2)) hx hb hr (fun t ht hW => ⟨⟨(-2), w, rfl, h, by show va_P D vwCl _ t.heap; rw [ht]; exact hP⟩, hS.F ht⟩) hS.2.2 dX6_weeks_24

/-! X6_sale -/
set_option maxRecDepth 20000 in
theorem wdX6_sale_0 : Cond.fieldLink RX6 96 "CornLawsModel" "week" "I" ∈ wsX6_sale := by decide +kernel
set_option maxRecDepth 20000 in
theorem wdX6_sale_1 : Cond.fieldLink RX6 109 "CornLawsModel" "returns" "I" ∈ wsX6_sale := by decide +kernel
set_option maxRecDepth 20000 in
theorem wdX6_sale_2 : Cond.fieldLink RX6 7 "CornLawsModel" "town" "[I" ∈ wsX6_sale := by decide +kernel
set_option maxRecDepth 20000 in
theorem wdX6_sale_3 : Cond.fieldLink RX6 13 "CornLawsModel" "grain" "[I" ∈ wsX6_sale := by decide +kernel
set_option maxRecDepth 20000 in
theorem wdX6_sale_4 : Cond.fieldLink RX6 16 "CornLawsModel" "forWeek" "[I" ∈ wsX6_sale := by decide +kernel
set_option maxRecDepth 20000 in
theorem wdX6_sale_5 : Cond.fieldLink RX6 19 "CornLawsModel" "quarters" "[I" ∈ wsX6_sale := by decide +kernel
set_option maxRecDepth 20000 in
theorem wdX6_sale_6 : Cond.fieldLink RX6 22 "CornLawsModel" "price" "[I" ∈ wsX6_sale := by decide +kernel
set_option maxRecDepth 20000 in
theorem wdX6_sale_7 : Cond.fieldLink RX6 25 "CornLawsModel" "sworn" "[I" ∈ wsX6_sale := by decide +kernel
set_option maxRecDepth 20000 in
theorem wdX6_sale_8 : Cond.fieldLink RX6 28 "CornLawsModel" "struck" "[I" ∈ wsX6_sale := by decide +kernel
set_option maxRecDepth 20000 in
theorem inX6_sale_6 : ∀ w ∈ wsX60, w ∈ wsX6_sale := by decide +kernel
set_option maxHeartbeats 4000000 in
set_option maxRecDepth 100000 in
theorem cX6_sale_ok (l : Launch) (D : va_G) (cI cII : ClassId) (q : Nat → Nat) (w : MS) (p1 : Int32) (p2 : Int32) (p3 : Int32) (p4 : Int32) (p5 : Int32) (post : Int32 → MS → Prop) (h : wpX6_sale w p1 p2 p3 p4 p5 post) : Met l yX6_sale wsX6_sale ({ frames := 2, cells := 0, slots := 0, locals := 42 } : Room) (zPm [.ref (q 0), .int p1, .int p2, .int p3, .int p4, .int p5] D cI cII (wM cI q w)) (va_Qi post (fun (z : MS) (t : State) => va_P D vwCl (wM cI q z) t.heap) (z_in (wM cI q w))) 0 0 (z_in (wM cI q w)) := by
  refine Met.ofW (cc := cX6_sale) (maxL := 6) (ret := (some .int)) (by decide) rfl ?_
  intro p e s m args below meth c s₁ B hml hv
  obtain ⟨rfl, hP, hK, hD0⟩ := hv
  have hx := B.exec
  have hb := B.bytes
  have hr := B.returns
  have hts := atoms_spec (ws := wsX6_sale) B.pre
  have hown : s.vm.findClass RX6 = some m.cls := findClass_of_methodNamed B.named
  have hlocks := B.notSynchronized
  have hD := z_Dself hD0
  generalize hAe : z_in (wM cI q w) = A at hD ⊢
  have hS : va_S A s.heap s.heap [] := va_S.rf
  have hl := lv_entry ([.ref (q 0), .int p1, .int p2, .int p3, .int p4, .int p5]) (n := 6) (Nat.le_of_ble_eq_true rfl)
  rw [lg_entry_eq]
  generalize (lg_sl ([.ref (q 0), .int p1, .int p2, .int p3, .int p4, .int p5]) ++ List.replicate (6 - (lg_sl ([.ref (q 0), .int p1, .int p2, .int p3, .int p4, .int p5])).length) Slot.unset).toArray = ls at hl ⊢
  have hl : lv_has ls 6 [(0, .ref (q 0)), (1, .int p1), (2, .int p2), (3, .int p3), (4, .int p4), (5, .int p5)] := hl
  unfold wpX6_sale at h
  refine lv_iload_n hx hb dX6_sale_0 rfl (lv_at hl 1 rfl) ?_
  refine lv_iconst (v := 0) hx hb dX6_sale_1 (by decide) ?_
  refine lv_bipush (v := 9) hx hb dX6_sale_2 (by decide) ?_
  refine vp_callSi (W.runS (As := [.int p1, .int 0, .int 9]) (rest := []) ⟨hx, hb, hml, hown, hts⟩ (cX6_in_ok l p1 0 9 _ h) (va_cwS 3 hts gX6_sale_X6_in rfl rfl rfl (by decide +kernel) ⟨Nat.le_of_ble_eq_true rfl, Nat.le_of_ble_eq_true rfl⟩) z_preS rfl rfl hl.1 rfl (lv_room (Nat.le_of_ble_eq_true rfl)) dX6_sale_4 ⟨Nat.le_of_ble_eq_true rfl, Nat.le_of_ble_eq_true rfl⟩) (fun r1 h => ?_)
  refine lv_if_eq (tgt := 53) hx hb dX6_sale_7 (by decide) (fun c2 => ?_) (fun c2 => ?_)
  · replace h := h.1 c2
    refine lv_bipush (v := (-2)) hx hb dX6_sale_53 (by decide) ?_
    exact W.iret (v := (-2)) hx hb hr (fun t ht hW => ⟨⟨(-2), w, rfl, h, by show va_P D vwCl _ t.heap; rw [ht]; exact hP⟩, hS.F ht⟩) hS.2.2 dX6_sale_55
  · replace h := h.2 c2
    refine lv_iload_n hx hb dX6_sale_10 rfl (lv_at hl 2 rfl) ?_
    refine vp_callSi (W.runS (As := [.int p2]) (rest := []) ⟨hx, hb, hml, hown, hts⟩ (cX6_isGrain_ok l p2 _ h) (va_cwS 1 hts gX6_sale_X6_isGrain rfl rfl rfl (by decide +kernel) ⟨Nat.le_of_ble_eq_true rfl, Nat.le_of_ble_eq_true rfl⟩) z_preS rfl rfl hl.1 rfl (lv_room (Nat.le_of_ble_eq_true rfl)) dX6_sale_11 ⟨Nat.le_of_ble_eq_true rfl, Nat.le_of_ble_eq_true rfl⟩) (fun r3 h => ?_)
    refine lv_if_eq (tgt := 53) hx hb dX6_sale_14 (by decide) (fun c4 => ?_) (fun c4 => ?_)
    · replace h := h.1 c4
      refine lv_bipush (v := (-2)) hx hb dX6_sale_53 (by decide) ?_
      exact W.iret (v := (-2)) hx hb hr (fun t ht hW => ⟨⟨(-2), w, rfl, h, by show va_P D vwCl _ t.heap; rw [ht]; exact hP⟩, hS.F ht⟩) hS.2.2 dX6_sale_55
    · replace h := h.2 c4
      refine lv_iload_n hx hb dX6_sale_17 rfl (lv_at hl 3 rfl) ?_
      refine lv_iconst (v := 0) hx hb dX6_sale_18 (by decide) ?_
      refine lv_aload_n hx hb dX6_sale_19 rfl (lv_at hl 0 rfl) ?_
      refine va_get (D := D) (ci := 6) (v := .int (w.2.1 0)) (C := RX6) (T := TX6) (N := 34) hx hb hts inX6_sale_6 hown hK hP 0 rfl rfl 0 (by decide) (hts (.fieldLink RX6 96 "CornLawsModel" "week" "I") wdX6_sale_0) (fun _ h9 => h9) rfl dX6_sale_20 ?_
      refine vp_callSi (W.runS (As := [.int p3, .int 0, .int (w.2.1 0)]) (rest := []) ⟨hx, hb, hml, hown, hts⟩ (cX6_in_ok l p3 0 (w.2.1 0) _ h) (va_cwS 3 hts gX6_sale_X6_in rfl rfl rfl (by decide +kernel) ⟨Nat.le_of_ble_eq_true rfl, Nat.le_of_ble_eq_true rfl⟩) z_preS rfl rfl hl.1 rfl (lv_room (Nat.le_of_ble_eq_true rfl)) dX6_sale_23 ⟨Nat.le_of_ble_eq_true rfl, Nat.le_of_ble_eq_true rfl⟩) (fun r5 h => ?_)
      refine lv_if_eq (tgt := 53) hx hb dX6_sale_26 (by decide) (fun c6 => ?_) (fun c6 => ?_)
      · replace h := h.1 c6
        refine lv_bipush (v := (-2)) hx hb dX6_sale_53 (by decide) ?_
        exact W.iret (v := (-2)) hx hb hr (fun t ht hW => ⟨⟨(-2), w, rfl, h, by show va_P D vwCl _ t.heap; rw [ht]; exact hP⟩, hS.F ht⟩) hS.2.2 dX6_sale_55
      · replace h := h.2 c6
        refine lv_iload hx hb dX6_sale_29 (lv_at hl 4 rfl) ?_
        refine lv_iconst (v := 1) hx hb dX6_sale_31 (by decide) ?_
        refine lv_sipush (v := 1000) hx hb dX6_sale_32 (by decide) ?_
        refine vp_callSi (W.runS (As := [.int p4, .int 1, .int 1000]) (rest := []) ⟨hx, hb, hml, hown, hts⟩ (cX6_in_ok l p4 1 1000 _ h) (va_cwS 3 hts gX6_sale_X6_in rfl rfl rfl (by decide +kernel) ⟨Nat.le_of_ble_eq_true rfl, Nat.le_of_ble_eq_true rfl⟩) z_preS rfl rfl hl.1 rfl (lv_room (Nat.le_of_ble_eq_true rfl)) dX6_sale_35 ⟨Nat.le_of_ble_eq_true rfl, Nat.le_of_ble_eq_true rfl⟩) (fun r7 h => ?_)
        refine lv_if_eq (tgt := 53) hx hb dX6_sale_38 (by decide) (fun c8 => ?_) (fun c8 => ?_)
        · replace h := h.1 c8
          refine lv_bipush (v := (-2)) hx hb dX6_sale_53 (by decide) ?_
          exact W.iret (v := (-2)) hx hb hr (fun t ht hW => ⟨⟨(-2), w, rfl, h, by show va_P D vwCl _ t.heap; rw [ht]; exact hP⟩, hS.F ht⟩) hS.2.2 dX6_sale_55
        · replace h := h.2 c8
          refine lv_iload hx hb dX6_sale_41 (lv_at hl 5 rfl) ?_
          refine lv_iconst (v := 1) hx hb dX6_sale_43 (by decide) ?_
          refine lv_sipush (v := 2000) hx hb dX6_sale_44 (by decide) ?_
          refine vp_callSi (W.runS (As := [.int p5, .int 1, .int 2000]) (rest := []) ⟨hx, hb, hml, hown, hts⟩ (cX6_in_ok l p5 1 2000 _ h) (va_cwS 3 hts gX6_sale_X6_in rfl rfl rfl (by decide +kernel) ⟨Nat.le_of_ble_eq_true rfl, Nat.le_of_ble_eq_true rfl⟩) z_preS rfl rfl hl.1 rfl (lv_room (Nat.le_of_ble_eq_true rfl)) dX6_sale_47 ⟨Nat.le_of_ble_eq_true rfl, Nat.le_of_ble_eq_true rfl⟩) (fun r9 h => ?_)
          refine lv_if_ne (tgt := 56) hx hb dX6_sale_50 (by decide) (fun c10 => ?_) (fun c10 => ?_)
          · replace h := h.1 c10
            refine lv_aload_n hx hb dX6_sale_56 rfl (lv_at hl 0 rfl) ?_
            refine va_get (D := D) (ci := 6) (v := .int (w.2.1 1)) (C := RX6) (T := TX6) (N := 34) hx hb hts inX6_sale_6 hown hK hP 0 rfl rfl 1 (by decide) (hts (.fieldLink RX6 109 "CornLawsModel" "returns" "I") wdX6_sale_1) (fun _ h9 => h9) rfl dX6_sale_57 ?_
            refine lv_bipush (v := 60) hx hb dX6_sale_60 (by decide) ?_
            refine lv_icmp_ne (tgt := 68) hx hb dX6_sale_62 (by decide) (fun c11 => ?_) (fun c11 => ?_)
            · replace h := h.1 c11
              refine lv_aload_n hx hb dX6_sale_68 rfl (lv_at hl 0 rfl) ?_
              refine va_get (D := D) (ci := 6) (v := .ref (q 1)) (C := RX6) (T := TX6) (N := 34) hx hb hts inX6_sale_6 hown hK hP 0 rfl rfl 2 (by decide) (hts (.fieldLink RX6 7 "CornLawsModel" "town" "[I") wdX6_sale_2) (fun _ h9 => h9) rfl dX6_sale_69 ?_
              refine lv_aload_n hx hb dX6_sale_72 rfl (lv_at hl 0 rfl) ?_
              refine va_get (D := D) (ci := 6) (v := .int (w.2.1 1)) (C := RX6) (T := TX6) (N := 34) hx hb hts inX6_sale_6 hown hK hP 0 rfl rfl 1 (by decide) (hts (.fieldLink RX6 109 "CornLawsModel" "returns" "I") wdX6_sale_1) (fun _ h9 => h9) rfl dX6_sale_73 ?_
              refine lv_iload_n hx hb dX6_sale_76 rfl (lv_at hl 1 rfl) ?_
              obtain ⟨hi12, h⟩ := h
              refine va_iast (f := w.1 0) hx hb hK hP hD hS 1 0 rfl rfl hi12 dX6_sale_77 (fun H locs hP hD hS => ?_)
              have hP : va_P D vwCl (wM cI q ((va_up w.1 0 (upd (w.1 0) ((w.2.1 1).toNatClampNeg) (p1))), w.2.1, w.2.2)) H := hP
              have hD : va_D A (wM cI q ((va_up w.1 0 (upd (w.1 0) ((w.2.1 1).toNatClampNeg) (p1))), w.2.1, w.2.2)) := hD
              refine lv_aload_n hx hb dX6_sale_78 rfl (lv_at hl 0 rfl) ?_
              refine va_get (D := D) (ci := 6) (v := .ref (q 2)) (C := RX6) (T := TX6) (N := 34) hx hb hts inX6_sale_6 hown hK hP 0 rfl rfl 3 (by decide) (hts (.fieldLink RX6 13 "CornLawsModel" "grain" "[I") wdX6_sale_3) (fun _ h9 => h9) rfl dX6_sale_79 ?_
              refine lv_aload_n hx hb dX6_sale_82 rfl (lv_at hl 0 rfl) ?_
              refine va_get (D := D) (ci := 6) (v := .int (w.2.1 1)) (C := RX6) (T := TX6) (N := 34) hx hb hts inX6_sale_6 hown hK hP 0 rfl rfl 1 (by decide) (hts (.fieldLink RX6 109 "CornLawsModel" "returns" "I") wdX6_sale_1) (fun _ h9 => h9) rfl dX6_sale_83 ?_
              refine lv_iload_n hx hb dX6_sale_86 rfl (lv_at hl 2 rfl) ?_
              refine va_iast (f := w.1 1) hx hb hK hP hD hS 2 0 rfl rfl hi12 dX6_sale_87 (fun H locs hP hD hS => ?_)
              have hP : va_P D vwCl (wM cI q ((va_up (va_up w.1 0 (upd (w.1 0) ((w.2.1 1).toNatClampNeg) (p1))) 1 (upd (w.1 1) ((w.2.1 1).toNatClampNeg) (p2))), w.2.1, w.2.2)) H := hP
              have hD : va_D A (wM cI q ((va_up (va_up w.1 0 (upd (w.1 0) ((w.2.1 1).toNatClampNeg) (p1))) 1 (upd (w.1 1) ((w.2.1 1).toNatClampNeg) (p2))), w.2.1, w.2.2)) := hD
              refine lv_aload_n hx hb dX6_sale_88 rfl (lv_at hl 0 rfl) ?_
              refine va_get (D := D) (ci := 6) (v := .ref (q 3)) (C := RX6) (T := TX6) (N := 34) hx hb hts inX6_sale_6 hown hK hP 0 rfl rfl 4 (by decide) (hts (.fieldLink RX6 16 "CornLawsModel" "forWeek" "[I") wdX6_sale_4) (fun _ h9 => h9) rfl dX6_sale_89 ?_
              refine lv_aload_n hx hb dX6_sale_92 rfl (lv_at hl 0 rfl) ?_
              refine va_get (D := D) (ci := 6) (v := .int (w.2.1 1)) (C := RX6) (T := TX6) (N := 34) hx hb hts inX6_sale_6 hown hK hP 0 rfl rfl 1 (by decide) (hts (.fieldLink RX6 109 "CornLawsModel" "returns" "I") wdX6_sale_1) (fun _ h9 => h9) rfl dX6_sale_93 ?_
              refine lv_iload_n hx hb dX6_sale_96 rfl (lv_at hl 3 rfl) ?_
              refine va_iast (f := w.1 2) hx hb hK hP hD hS 3 0 rfl rfl hi12 dX6_sale_97 (fun H locs hP hD hS => ?_)
              have hP : va_P D vwCl (wM cI q ((va_up (va_up (va_up w.1 0 (upd (w.1 0) ((w.2.1 1).toNatClampNeg) (p1))) 1 (upd (w.1 1) ((w.2.1 1).toNatClampNeg) (p2))) 2 (upd (w.1 2) ((w.2.1 1).toNatClampNeg) (p3))), w.2.1, w.2.2)) H := hP
              have hD : va_D A (wM cI q ((va_up (va_up (va_up w.1 0 (upd (w.1 0) ((w.2.1 1).toNatClampNeg) (p1))) 1 (upd (w.1 1) ((w.2.1 1).toNatClampNeg) (p2))) 2 (upd (w.1 2) ((w.2.1 1).toNatClampNeg) (p3))), w.2.1, w.2.2)) := hD
              refine lv_aload_n hx hb dX6_sale_98 rfl (lv_at hl 0 rfl) ?_
              refine va_get (D := D) (ci := 6) (v := .ref (q 4)) (C := RX6) (T := TX6) (N := 34) hx hb hts inX6_sale_6 hown hK hP 0 rfl rfl 5 (by decide) (hts (.fieldLink RX6 19 "CornLawsModel" "quarters" "[I") wdX6_sale_5) (fun _ h9 => h9) rfl dX6_sale_99 ?_
              refine lv_aload_n hx hb dX6_sale_102 rfl (lv_at hl 0 rfl) ?_
              refine va_get (D := D) (ci := 6) (v := .int (w.2.1 1)) (C := RX6) (T := TX6) (N := 34) hx hb hts inX6_sale_6 hown hK hP 0 rfl rfl 1 (by decide) (hts (.fieldLink RX6 109 "CornLawsModel" "returns" "I") wdX6_sale_1) (fun _ h9 => h9) rfl dX6_sale_103 ?_
              refine lv_iload hx hb dX6_sale_106 (lv_at hl 4 rfl) ?_
              refine va_iast (f := w.1 3) hx hb hK hP hD hS 4 0 rfl rfl hi12 dX6_sale_108 (fun H locs hP hD hS => ?_)
              have hP : va_P D vwCl (wM cI q ((va_up (va_up (va_up (va_up w.1 0 (upd (w.1 0) ((w.2.1 1).toNatClampNeg) (p1))) 1 (upd (w.1 1) ((w.2.1 1).toNatClampNeg) (p2))) 2 (upd (w.1 2) ((w.2.1 1).toNatClampNeg) (p3))) 3 (upd (w.1 3) ((w.2.1 1).toNatClampNeg) (p4))), w.2.1, w.2.2)) H := hP
              have hD : va_D A (wM cI q ((va_up (va_up (va_up (va_up w.1 0 (upd (w.1 0) ((w.2.1 1).toNatClampNeg) (p1))) 1 (upd (w.1 1) ((w.2.1 1).toNatClampNeg) (p2))) 2 (upd (w.1 2) ((w.2.1 1).toNatClampNeg) (p3))) 3 (upd (w.1 3) ((w.2.1 1).toNatClampNeg) (p4))), w.2.1, w.2.2)) := hD
              refine lv_aload_n hx hb dX6_sale_109 rfl (lv_at hl 0 rfl) ?_
              refine va_get (D := D) (ci := 6) (v := .ref (q 5)) (C := RX6) (T := TX6) (N := 34) hx hb hts inX6_sale_6 hown hK hP 0 rfl rfl 6 (by decide) (hts (.fieldLink RX6 22 "CornLawsModel" "price" "[I") wdX6_sale_6) (fun _ h9 => h9) rfl dX6_sale_110 ?_
              refine lv_aload_n hx hb dX6_sale_113 rfl (lv_at hl 0 rfl) ?_
              refine va_get (D := D) (ci := 6) (v := .int (w.2.1 1)) (C := RX6) (T := TX6) (N := 34) hx hb hts inX6_sale_6 hown hK hP 0 rfl rfl 1 (by decide) (hts (.fieldLink RX6 109 "CornLawsModel" "returns" "I") wdX6_sale_1) (fun _ h9 => h9) rfl dX6_sale_114 ?_
              refine lv_iload hx hb dX6_sale_117 (lv_at hl 5 rfl) ?_
              refine va_iast (f := w.1 4) hx hb hK hP hD hS 5 0 rfl rfl hi12 dX6_sale_119 (fun H locs hP hD hS => ?_)
              have hP : va_P D vwCl (wM cI q ((va_up (va_up (va_up (va_up (va_up w.1 0 (upd (w.1 0) ((w.2.1 1).toNatClampNeg) (p1))) 1 (upd (w.1 1) ((w.2.1 1).toNatClampNeg) (p2))) 2 (upd (w.1 2) ((w.2.1 1).toNatClampNeg) (p3))) 3 (upd (w.1 3) ((w.2.1 1).toNatClampNeg) (p4))) 4 (upd (w.1 4) ((w.2.1 1).toNatClampNeg) (p5))), w.2.1, w.2.2)) H := hP
              have hD : va_D A (wM cI q ((va_up (va_up (va_up (va_up (va_up w.1 0 (upd (w.1 0) ((w.2.1 1).toNatClampNeg) (p1))) 1 (upd (w.1 1) ((w.2.1 1).toNatClampNeg) (p2))) 2 (upd (w.1 2) ((w.2.1 1).toNatClampNeg) (p3))) 3 (upd (w.1 3) ((w.2.1 1).toNatClampNeg) (p4))) 4 (upd (w.1 4) ((w.2.1 1).toNatClampNeg) (p5))), w.2.1, w.2.2)) := hD
              refine lv_aload_n hx hb dX6_sale_120 rfl (lv_at hl 0 rfl) ?_
              refine va_get (D := D) (ci := 6) (v := .ref (q 6)) (C := RX6) (T := TX6) (N := 34) hx hb hts inX6_sale_6 hown hK hP 0 rfl rfl 7 (by decide) (hts (.fieldLink RX6 25 "CornLawsModel" "sworn" "[I") wdX6_sale_7) (fun _ h9 => h9) rfl dX6_sale_121 ?_
              refine lv_aload_n hx hb dX6_sale_124 rfl (lv_at hl 0 rfl) ?_
              refine va_get (D := D) (ci := 6) (v := .int (w.2.1 1)) (C := RX6) (T := TX6) (N := 34) hx hb hts inX6_sale_6 hown hK hP 0 rfl rfl 1 (by decide) (hts (.fieldLink RX6 109 "CornLawsModel" "returns" "I") wdX6_sale_1) (fun _ h9 => h9) rfl dX6_sale_125 ?_
              refine lv_aload_n hx hb dX6_sale_128 rfl (lv_at hl 0 rfl) ?_
              refine va_get (D := D) (ci := 6) (v := .int (w.2.1 0)) (C := RX6) (T := TX6) (N := 34) hx hb hts inX6_sale_6 hown hK hP 0 rfl rfl 0 (by decide) (hts (.fieldLink RX6 96 "CornLawsModel" "week" "I") wdX6_sale_0) (fun _ h9 => h9) rfl dX6_sale_129 ?_
              refine va_iast (f := w.1 5) hx hb hK hP hD hS 6 0 rfl rfl hi12 dX6_sale_132 (fun H locs hP hD hS => ?_)
              have hP : va_P D vwCl (wM cI q ((va_up (va_up (va_up (va_up (va_up (va_up w.1 0 (upd (w.1 0) ((w.2.1 1).toNatClampNeg) (p1))) 1 (upd (w.1 1) ((w.2.1 1).toNatClampNeg) (p2))) 2 (upd (w.1 2) ((w.2.1 1).toNatClampNeg) (p3))) 3 (upd (w.1 3) ((w.2.1 1).toNatClampNeg) (p4))) 4 (upd (w.1 4) ((w.2.1 1).toNatClampNeg) (p5))) 5 (upd (w.1 5) ((w.2.1 1).toNatClampNeg) ((w.2.1 0)))), w.2.1, w.2.2)) H := hP
              have hD : va_D A (wM cI q ((va_up (va_up (va_up (va_up (va_up (va_up w.1 0 (upd (w.1 0) ((w.2.1 1).toNatClampNeg) (p1))) 1 (upd (w.1 1) ((w.2.1 1).toNatClampNeg) (p2))) 2 (upd (w.1 2) ((w.2.1 1).toNatClampNeg) (p3))) 3 (upd (w.1 3) ((w.2.1 1).toNatClampNeg) (p4))) 4 (upd (w.1 4) ((w.2.1 1).toNatClampNeg) (p5))) 5 (upd (w.1 5) ((w.2.1 1).toNatClampNeg) ((w.2.1 0)))), w.2.1, w.2.2)) := hD
              refine lv_aload_n hx hb dX6_sale_133 rfl (lv_at hl 0 rfl) ?_
              refine va_get (D := D) (ci := 6) (v := .ref (q 7)) (C := RX6) (T := TX6) (N := 34) hx hb hts inX6_sale_6 hown hK hP 0 rfl rfl 8 (by decide) (hts (.fieldLink RX6 28 "CornLawsModel" "struck" "[I") wdX6_sale_8) (fun _ h9 => h9) rfl dX6_sale_134 ?_
              refine lv_aload_n hx hb dX6_sale_137 rfl (lv_at hl 0 rfl) ?_
              refine va_get (D := D) (ci := 6) (v := .int (w.2.1 1)) (C := RX6) (T := TX6) (N := 34) hx hb hts inX6_sale_6 hown hK hP 0 rfl rfl 1 (by decide) (hts (.fieldLink RX6 109 "CornLawsModel" "returns" "I") wdX6_sale_1) (fun _ h9 => h9) rfl dX6_sale_138 ?_
              refine lv_iconst (v := (-1)) hx hb dX6_sale_141 (by decide) ?_
              refine va_iast (f := w.1 6) hx hb hK hP hD hS 7 0 rfl rfl hi12 dX6_sale_142 (fun H locs hP hD hS => ?_)
              have hP : va_P D vwCl (wM cI q ((va_up (va_up (va_up (va_up (va_up (va_up (va_up w.1 0 (upd (w.1 0) ((w.2.1 1).toNatClampNeg) (p1))) 1 (upd (w.1 1) ((w.2.1 1).toNatClampNeg) (p2))) 2 (upd (w.1 2) ((w.2.1 1).toNatClampNeg) (p3))) 3 (upd (w.1 3) ((w.2.1 1).toNatClampNeg) (p4))) 4 (upd (w.1 4) ((w.2.1 1).toNatClampNeg) (p5))) 5 (upd (w.1 5) ((w.2.1 1).toNatClampNeg) ((w.2.1 0)))) 6 (upd (w.1 6) ((w.2.1 1).toNatClampNeg) ((-1)))), w.2.1, w.2.2)) H := hP
              have hD : va_D A (wM cI q ((va_up (va_up (va_up (va_up (va_up (va_up (va_up w.1 0 (upd (w.1 0) ((w.2.1 1).toNatClampNeg) (p1))) 1 (upd (w.1 1) ((w.2.1 1).toNatClampNeg) (p2))) 2 (upd (w.1 2) ((w.2.1 1).toNatClampNeg) (p3))) 3 (upd (w.1 3) ((w.2.1 1).toNatClampNeg) (p4))) 4 (upd (w.1 4) ((w.2.1 1).toNatClampNeg) (p5))) 5 (upd (w.1 5) ((w.2.1 1).toNatClampNeg) ((w.2.1 0)))) 6 (upd (w.1 6) ((w.2.1 1).toNatClampNeg) ((-1)))), w.2.1, w.2.2)) := hD
              refine lv_aload_n hx hb dX6_sale_143 rfl (lv_at hl 0 rfl) ?_
              refine lv_dup hx hb dX6_sale_144 rfl ?_
              refine va_get (D := D) (ci := 6) (v := .int (w.2.1 1)) (C := RX6) (T := TX6) (N := 34) hx hb hts inX6_sale_6 hown hK hP 0 rfl rfl 1 (by decide) (hts (.fieldLink RX6 109 "CornLawsModel" "returns" "I") wdX6_sale_1) (fun _ h9 => h9) rfl dX6_sale_145 ?_
              refine lv_iconst (v := 1) hx hb dX6_sale_148 (by decide) ?_
              refine lv_iadd hx hb dX6_sale_149 ?_
              refine va_put (D := D) (ci := 6) (v := .int ((w.2.1 1) + 1)) (ty := .int) (C := RX6) (T := TX6) (N := 34) hx hb hts inX6_sale_6 tyX6 tyX6_ok nmX6 hown hK hP hD hS 0 rfl rfl 1 (by decide) (hts (.fieldLink RX6 109 "CornLawsModel" "returns" "I") wdX6_sale_1) (fun _ h9 => h9) rfl (by decide +kernel) rfl rfl (Nat.le_of_ble_eq_true rfl) dX6_sale_150 (fun H locs hP hD hS => ?_)
              have hP : va_P D vwCl (wM cI q ((va_up (va_up (va_up (va_up (va_up (va_up (va_up w.1 0 (upd (w.1 0) ((w.2.1 1).toNatClampNeg) (p1))) 1 (upd (w.1 1) ((w.2.1 1).toNatClampNeg) (p2))) 2 (upd (w.1 2) ((w.2.1 1).toNatClampNeg) (p3))) 3 (upd (w.1 3) ((w.2.1 1).toNatClampNeg) (p4))) 4 (upd (w.1 4) ((w.2.1 1).toNatClampNeg) (p5))) 5 (upd (w.1 5) ((w.2.1 1).toNatClampNeg) ((w.2.1 0)))) 6 (upd (w.1 6) ((w.2.1 1).toNatClampNeg) ((-1)))), (upd w.2.1 1 (((w.2.1 1) + 1))), w.2.2)) H := hP
              have hD : va_D A (wM cI q ((va_up (va_up (va_up (va_up (va_up (va_up (va_up w.1 0 (upd (w.1 0) ((w.2.1 1).toNatClampNeg) (p1))) 1 (upd (w.1 1) ((w.2.1 1).toNatClampNeg) (p2))) 2 (upd (w.1 2) ((w.2.1 1).toNatClampNeg) (p3))) 3 (upd (w.1 3) ((w.2.1 1).toNatClampNeg) (p4))) 4 (upd (w.1 4) ((w.2.1 1).toNatClampNeg) (p5))) 5 (upd (w.1 5) ((w.2.1 1).toNatClampNeg) ((w.2.1 0)))) 6 (upd (w.1 6) ((w.2.1 1).toNatClampNeg) ((-1)))), (upd w.2.1 1 (((w.2.1 1) + 1))), w.2.2)) := hD
              refine lv_aload_n hx hb dX6_sale_153 rfl (lv_at hl 0 rfl) ?_
              refine va_get (D := D) (ci := 6) (v := .int (((w.2.1 1) + 1))) (C := RX6) (T := TX6) (N := 34) hx hb hts inX6_sale_6 hown hK hP 0 rfl rfl 1 (by decide) (hts (.fieldLink RX6 109 "CornLawsModel" "returns" "I") wdX6_sale_1) (fun _ h9 => h9) rfl dX6_sale_154 ?_
              refine lv_iconst (v := 1) hx hb dX6_sale_157 (by decide) ?_
              refine lv_isub hx hb dX6_sale_158 ?_
              exact W.iret (v := ((((w.2.1 1) + 1)) - 1)) hx hb hr (fun t ht hW => ⟨⟨((((w.2.1 1) + 1)) - 1), ((va_up (va_up (va_up (va_up (va_up (va_up (va_up w.1 0 (upd (w.1 0) ((w.2.1 1).toNatClampNeg) (p1))) 1 (upd (w.1 1) ((w.2.1 1).toNatClampNeg) (p2))) 2 (upd (w.1 2) ((w.2.1 1).toNatClampNeg) (p3))) 3 (upd (w.1 3) ((w.2.1 1).toNatClampNeg) (p4))) 4 (upd (w.1 4) ((w.2.1 1).toNatClampNeg) (p5))) 5 (upd (w.1 5) ((w.2.1 1).toNatClampNeg) ((w.2.1 0)))) 6 (upd (w.1 6) ((w.2.1 1).toNatClampNeg) ((-1)))), (upd w.2.1 1 (((w.2.1 1) + 1))), w.2.2), rfl, h, by show va_P D vwCl _ t.heap; rw [ht]; exact hP⟩, hS.F ht⟩) hS.2.2 dX6_sale_159
            · replace h := h.2 c11
              refine lv_bipush (v := (-4)) hx hb dX6_sale_65 (by decide) ?_
              exact W.iret (v := (-4)) hx hb hr (fun t ht hW => ⟨⟨(-4), w, rfl, h, by show va_P D vwCl _ t.heap; rw [ht]; exact hP⟩, hS.F ht⟩) hS.2.2 dX6_sale_67
          · replace h := h.2 c10
            refine lv_bipush (v := (-2)) hx hb dX6_sale_53 (by decide) ?_
            exact W.iret (v := (-2)) hx hb hr (fun t ht hW => ⟨⟨(-2), w, rfl, h, by show va_P D vwCl _ t.heap; rw [ht]; exact hP⟩, hS.F ht⟩) hS.2.2 dX6_sale_55

/-! X6_strike -/
set_option maxRecDepth 20000 in
theorem wdX6_strike_0 : Cond.fieldLink RX6 109 "CornLawsModel" "returns" "I" ∈ wsX6_strike := by decide +kernel
set_option maxRecDepth 20000 in
theorem wdX6_strike_1 : Cond.fieldLink RX6 28 "CornLawsModel" "struck" "[I" ∈ wsX6_strike := by decide +kernel
set_option maxRecDepth 20000 in
theorem wdX6_strike_2 : Cond.fieldLink RX6 96 "CornLawsModel" "week" "I" ∈ wsX6_strike := by decide +kernel
set_option maxRecDepth 20000 in
theorem inX6_strike_6 : ∀ w ∈ wsX60, w ∈ wsX6_strike := by decide +kernel
set_option maxHeartbeats 4000000 in
set_option maxRecDepth 100000 in
theorem cX6_strike_ok (l : Launch) (D : va_G) (cI cII : ClassId) (q : Nat → Nat) (w : MS) (p1 : Int32) (post : Int32 → MS → Prop) (h : wpX6_strike w p1 post) : Met l yX6_strike wsX6_strike ({ frames := 1, cells := 0, slots := 0, locals := 22 } : Room) (zPm [.ref (q 0), .int p1] D cI cII (wM cI q w)) (va_Qi post (fun (z : MS) (t : State) => va_P D vwCl (wM cI q z) t.heap) (z_in (wM cI q w))) 0 0 (z_in (wM cI q w)) := by
  refine Met.ofW (cc := cX6_strike) (maxL := 2) (ret := (some .int)) (by decide) rfl ?_
  intro p e s m args below meth c s₁ B hml hv
  obtain ⟨rfl, hP, hK, hD0⟩ := hv
  have hx := B.exec
  have hb := B.bytes
  have hr := B.returns
  have hts := atoms_spec (ws := wsX6_strike) B.pre
  have hown : s.vm.findClass RX6 = some m.cls := findClass_of_methodNamed B.named
  have hlocks := B.notSynchronized
  have hD := z_Dself hD0
  generalize hAe : z_in (wM cI q w) = A at hD ⊢
  have hS : va_S A s.heap s.heap [] := va_S.rf
  have hl := lv_entry ([.ref (q 0), .int p1]) (n := 2) (Nat.le_of_ble_eq_true rfl)
  rw [lg_entry_eq]
  generalize (lg_sl ([.ref (q 0), .int p1]) ++ List.replicate (2 - (lg_sl ([.ref (q 0), .int p1])).length) Slot.unset).toArray = ls at hl ⊢
  have hl : lv_has ls 2 [(0, .ref (q 0)), (1, .int p1)] := hl
  unfold wpX6_strike at h
  refine lv_iload_n hx hb dX6_strike_0 rfl (lv_at hl 1 rfl) ?_
  refine lv_iconst (v := 0) hx hb dX6_strike_1 (by decide) ?_
  refine lv_aload_n hx hb dX6_strike_2 rfl (lv_at hl 0 rfl) ?_
  refine va_get (D := D) (ci := 6) (v := .int (w.2.1 1)) (C := RX6) (T := TX6) (N := 34) hx hb hts inX6_strike_6 hown hK hP 0 rfl rfl 1 (by decide) (hts (.fieldLink RX6 109 "CornLawsModel" "returns" "I") wdX6_strike_0) (fun _ h9 => h9) rfl dX6_strike_3 ?_
  refine lv_iconst (v := 1) hx hb dX6_strike_6 (by decide) ?_
  refine lv_isub hx hb dX6_strike_7 ?_
  refine vp_callSi (W.runS (As := [.int p1, .int 0, .int ((w.2.1 1) - 1)]) (rest := []) ⟨hx, hb, hml, hown, hts⟩ (cX6_in_ok l p1 0 ((w.2.1 1) - 1) _ h) (va_cwS 3 hts gX6_strike_X6_in rfl rfl rfl (by decide +kernel) ⟨Nat.le_of_ble_eq_true rfl, Nat.le_of_ble_eq_true rfl⟩) z_preS rfl rfl hl.1 rfl (lv_room (Nat.le_of_ble_eq_true rfl)) dX6_strike_8 ⟨Nat.le_of_ble_eq_true rfl, Nat.le_of_ble_eq_true rfl⟩) (fun r1 h => ?_)
  refine lv_if_ne (tgt := 17) hx hb dX6_strike_11 (by decide) (fun c2 => ?_) (fun c2 => ?_)
  · replace h := h.1 c2
    refine lv_aload_n hx hb dX6_strike_17 rfl (lv_at hl 0 rfl) ?_
    refine va_get (D := D) (ci := 6) (v := .ref (q 7)) (C := RX6) (T := TX6) (N := 34) hx hb hts inX6_strike_6 hown hK hP 0 rfl rfl 8 (by decide) (hts (.fieldLink RX6 28 "CornLawsModel" "struck" "[I") wdX6_strike_1) (fun _ h9 => h9) rfl dX6_strike_18 ?_
    refine lv_iload_n hx hb dX6_strike_21 rfl (lv_at hl 1 rfl) ?_
    obtain ⟨hi3, h⟩ := h
    refine va_iald (f := w.1 6) hx hb hK hP 7 0 rfl rfl hi3 dX6_strike_22 ?_
    refine lv_iconst (v := (-1)) hx hb dX6_strike_23 (by decide) ?_
    refine lv_icmp_eq (tgt := 30) hx hb dX6_strike_24 (by decide) (fun c4 => ?_) (fun c4 => ?_)
    · replace h := h.1 c4
      refine lv_aload_n hx hb dX6_strike_30 rfl (lv_at hl 0 rfl) ?_
      refine va_get (D := D) (ci := 6) (v := .ref (q 7)) (C := RX6) (T := TX6) (N := 34) hx hb hts inX6_strike_6 hown hK hP 0 rfl rfl 8 (by decide) (hts (.fieldLink RX6 28 "CornLawsModel" "struck" "[I") wdX6_strike_1) (fun _ h9 => h9) rfl dX6_strike_31 ?_
      refine lv_iload_n hx hb dX6_strike_34 rfl (lv_at hl 1 rfl) ?_
      refine lv_aload_n hx hb dX6_strike_35 rfl (lv_at hl 0 rfl) ?_
      refine va_get (D := D) (ci := 6) (v := .int (w.2.1 0)) (C := RX6) (T := TX6) (N := 34) hx hb hts inX6_strike_6 hown hK hP 0 rfl rfl 0 (by decide) (hts (.fieldLink RX6 96 "CornLawsModel" "week" "I") wdX6_strike_2) (fun _ h9 => h9) rfl dX6_strike_36 ?_
      refine va_iast (f := w.1 6) hx hb hK hP hD hS 7 0 rfl rfl hi3 dX6_strike_39 (fun H locs hP hD hS => ?_)
      have hP : va_P D vwCl (wM cI q ((va_up w.1 6 (upd (w.1 6) (p1.toNatClampNeg) ((w.2.1 0)))), w.2.1, w.2.2)) H := hP
      have hD : va_D A (wM cI q ((va_up w.1 6 (upd (w.1 6) (p1.toNatClampNeg) ((w.2.1 0)))), w.2.1, w.2.2)) := hD
      refine lv_iconst (v := 1) hx hb dX6_strike_40 (by decide) ?_
      exact W.iret (v := 1) hx hb hr (fun t ht hW => ⟨⟨1, ((va_up w.1 6 (upd (w.1 6) (p1.toNatClampNeg) ((w.2.1 0)))), w.2.1, w.2.2), rfl, h, by show va_P D vwCl _ t.heap; rw [ht]; exact hP⟩, hS.F ht⟩) hS.2.2 dX6_strike_41
    · replace h := h.2 c4
      refine lv_bipush (v := (-3)) hx hb dX6_strike_27 (by decide) ?_
      exact W.iret (v := (-3)) hx hb hr (fun t ht hW => ⟨⟨(-3), w, rfl, h, by show va_P D vwCl _ t.heap; rw [ht]; exact hP⟩, hS.F ht⟩) hS.2.2 dX6_strike_29
  · replace h := h.2 c2
    refine lv_bipush (v := (-2)) hx hb dX6_strike_14 (by decide) ?_
    exact W.iret (v := (-2)) hx hb hr (fun t ht hW => ⟨⟨(-2), w, rfl, h, by show va_P D vwCl _ t.heap; rw [ht]; exact hP⟩, hS.F ht⟩) hS.2.2 dX6_strike_16

/-! X6_sold -/
set_option maxRecDepth 20000 in
theorem wdX6_sold_0 : Cond.fieldLink RX6 109 "CornLawsModel" "returns" "I" ∈ wsX6_sold := by decide +kernel
set_option maxRecDepth 20000 in
theorem wdX6_sold_1 : Cond.fieldLink RX6 7 "CornLawsModel" "town" "[I" ∈ wsX6_sold := by decide +kernel
set_option maxRecDepth 20000 in
theorem wdX6_sold_2 : Cond.fieldLink RX6 13 "CornLawsModel" "grain" "[I" ∈ wsX6_sold := by decide +kernel
set_option maxRecDepth 20000 in
theorem wdX6_sold_3 : Cond.fieldLink RX6 16 "CornLawsModel" "forWeek" "[I" ∈ wsX6_sold := by decide +kernel
set_option maxRecDepth 20000 in
theorem wdX6_sold_4 : Cond.fieldLink RX6 19 "CornLawsModel" "quarters" "[I" ∈ wsX6_sold := by decide +kernel
set_option maxRecDepth 20000 in
theorem wdX6_sold_5 : Cond.fieldLink RX6 22 "CornLawsModel" "price" "[I" ∈ wsX6_sold := by decide +kernel
set_option maxRecDepth 20000 in
theorem wdX6_sold_6 : Cond.fieldLink RX6 25 "CornLawsModel" "sworn" "[I" ∈ wsX6_sold := by decide +kernel
set_option maxRecDepth 20000 in
theorem wdX6_sold_7 : Cond.fieldLink RX6 28 "CornLawsModel" "struck" "[I" ∈ wsX6_sold := by decide +kernel
set_option maxRecDepth 20000 in
theorem inX6_sold_6 : ∀ w ∈ wsX60, w ∈ wsX6_sold := by decide +kernel
set_option maxHeartbeats 4000000 in
set_option maxRecDepth 100000 in
theorem cX6_sold_ok (l : Launch) (D : va_G) (cI cII : ClassId) (q : Nat → Nat) (w : MS) (p1 : Int32) (p2 : Int32) (post : Int32 → Prop) (h : wpX6_sold w p1 p2 post) : Met l yX6_sold wsX6_sold ({ frames := 1, cells := 0, slots := 0, locals := 22 } : Room) (zPc [.ref (q 0), .int p1, .int p2] D cI cII (wM cI q w)) (vp_Si post) 0 0 (fun _ => False) := by
  refine Met.ofW (cc := cX6_sold) (maxL := 3) (ret := (some .int)) (by decide) rfl ?_
  intro p e s m args below meth c s₁ B hml hv
  obtain ⟨rfl, hP, hK⟩ := hv
  have hx := B.exec
  have hb := B.bytes
  have hr := B.returns
  have hts := atoms_spec (ws := wsX6_sold) B.pre
  have hown : s.vm.findClass RX6 = some m.cls := findClass_of_methodNamed B.named
  have hlocks := B.notSynchronized
  have hl := lv_entry ([.ref (q 0), .int p1, .int p2]) (n := 3) (Nat.le_of_ble_eq_true rfl)
  rw [lg_entry_eq]
  generalize (lg_sl ([.ref (q 0), .int p1, .int p2]) ++ List.replicate (3 - (lg_sl ([.ref (q 0), .int p1, .int p2])).length) Slot.unset).toArray = ls at hl ⊢
  have hl : lv_has ls 3 [(0, .ref (q 0)), (1, .int p1), (2, .int p2)] := hl
  unfold wpX6_sold at h
  refine lv_iload_n hx hb dX6_sold_0 rfl (lv_at hl 1 rfl) ?_
  refine lv_iconst (v := 0) hx hb dX6_sold_1 (by decide) ?_
  refine lv_aload_n hx hb dX6_sold_2 rfl (lv_at hl 0 rfl) ?_
  refine va_get (D := D) (ci := 6) (v := .int (w.2.1 1)) (C := RX6) (T := TX6) (N := 34) hx hb hts inX6_sold_6 hown hK hP 0 rfl rfl 1 (by decide) (hts (.fieldLink RX6 109 "CornLawsModel" "returns" "I") wdX6_sold_0) (fun _ h9 => h9) rfl dX6_sold_3 ?_
  refine lv_iconst (v := 1) hx hb dX6_sold_6 (by decide) ?_
  refine lv_isub hx hb dX6_sold_7 ?_
  refine vp_callSi (W.runS (As := [.int p1, .int 0, .int ((w.2.1 1) - 1)]) (rest := []) ⟨hx, hb, hml, hown, hts⟩ (cX6_in_ok l p1 0 ((w.2.1 1) - 1) _ h) (va_cwS 3 hts gX6_sold_X6_in rfl rfl rfl (by decide +kernel) ⟨Nat.le_of_ble_eq_true rfl, Nat.le_of_ble_eq_true rfl⟩) z_preS rfl rfl hl.1 rfl (lv_room (Nat.le_of_ble_eq_true rfl)) dX6_sold_8 ⟨Nat.le_of_ble_eq_true rfl, Nat.le_of_ble_eq_true rfl⟩) (fun r1 h => ?_)
  refine lv_if_ne (tgt := 17) hx hb dX6_sold_11 (by decide) (fun c2 => ?_) (fun c2 => ?_)
  · replace h := h.1 c2
    refine lv_iload_n hx hb dX6_sold_17 rfl (lv_at hl 2 rfl) ?_
    rcases z_sw6 p2 with c3 | c3 | c3 | c3 | c3 | c3 | c3 | c3
    · replace h := h.1 c3
      refine lv_tableOut (tgt := 109) hx hb dX6_sold_18 c3 (by decide) ?_
      refine lv_bipush (v := (-2)) hx hb dX6_sold_109 (by decide) ?_
      exact W.iret (v := (-2)) hx hb hr (fun t ht hW => ⟨(-2), rfl, h, ht⟩) (fun _ h9 => by cases h9) dX6_sold_111
    · replace h := h.2.1 c3
      refine lv_tableIn (tgt := 60) (off := 42) hx hb dX6_sold_18 (by rw [c3]; decide) (by rw [c3]; decide) (by rw [c3]; rfl) (by decide) ?_
      refine lv_aload_n hx hb dX6_sold_60 rfl (lv_at hl 0 rfl) ?_
      refine va_get (D := D) (ci := 6) (v := .ref (q 1)) (C := RX6) (T := TX6) (N := 34) hx hb hts inX6_sold_6 hown hK hP 0 rfl rfl 2 (by decide) (hts (.fieldLink RX6 7 "CornLawsModel" "town" "[I") wdX6_sold_1) (fun _ h9 => h9) rfl dX6_sold_61 ?_
      refine lv_iload_n hx hb dX6_sold_64 rfl (lv_at hl 1 rfl) ?_
      obtain ⟨hi4, h⟩ := h
      refine va_iald (f := w.1 0) hx hb hK hP 1 0 rfl rfl hi4 dX6_sold_65 ?_
      exact W.iret (v := (w.1 0 p1.toNatClampNeg)) hx hb hr (fun t ht hW => ⟨(w.1 0 p1.toNatClampNeg), rfl, h, ht⟩) (fun _ h9 => by cases h9) dX6_sold_66
    · replace h := h.2.2.1 c3
      refine lv_tableIn (tgt := 67) (off := 49) hx hb dX6_sold_18 (by rw [c3]; decide) (by rw [c3]; decide) (by rw [c3]; rfl) (by decide) ?_
      refine lv_aload_n hx hb dX6_sold_67 rfl (lv_at hl 0 rfl) ?_
      refine va_get (D := D) (ci := 6) (v := .ref (q 2)) (C := RX6) (T := TX6) (N := 34) hx hb hts inX6_sold_6 hown hK hP 0 rfl rfl 3 (by decide) (hts (.fieldLink RX6 13 "CornLawsModel" "grain" "[I") wdX6_sold_2) (fun _ h9 => h9) rfl dX6_sold_68 ?_
      refine lv_iload_n hx hb dX6_sold_71 rfl (lv_at hl 1 rfl) ?_
      obtain ⟨hi5, h⟩ := h
      refine va_iald (f := w.1 1) hx hb hK hP 2 0 rfl rfl hi5 dX6_sold_72 ?_
      exact W.iret (v := (w.1 1 p1.toNatClampNeg)) hx hb hr (fun t ht hW => ⟨(w.1 1 p1.toNatClampNeg), rfl, h, ht⟩) (fun _ h9 => by cases h9) dX6_sold_73
    · replace h := h.2.2.2.1 c3
      refine lv_tableIn (tgt := 74) (off := 56) hx hb dX6_sold_18 (by rw [c3]; decide) (by rw [c3]; decide) (by rw [c3]; rfl) (by decide) ?_
      refine lv_aload_n hx hb dX6_sold_74 rfl (lv_at hl 0 rfl) ?_
      refine va_get (D := D) (ci := 6) (v := .ref (q 3)) (C := RX6) (T := TX6) (N := 34) hx hb hts inX6_sold_6 hown hK hP 0 rfl rfl 4 (by decide) (hts (.fieldLink RX6 16 "CornLawsModel" "forWeek" "[I") wdX6_sold_3) (fun _ h9 => h9) rfl dX6_sold_75 ?_
      refine lv_iload_n hx hb dX6_sold_78 rfl (lv_at hl 1 rfl) ?_
      obtain ⟨hi6, h⟩ := h
      refine va_iald (f := w.1 2) hx hb hK hP 3 0 rfl rfl hi6 dX6_sold_79 ?_
      exact W.iret (v := (w.1 2 p1.toNatClampNeg)) hx hb hr (fun t ht hW => ⟨(w.1 2 p1.toNatClampNeg), rfl, h, ht⟩) (fun _ h9 => by cases h9) dX6_sold_80
    · replace h := h.2.2.2.2.1 c3
      refine lv_tableIn (tgt := 81) (off := 63) hx hb dX6_sold_18 (by rw [c3]; decide) (by rw [c3]; decide) (by rw [c3]; rfl) (by decide) ?_
      refine lv_aload_n hx hb dX6_sold_81 rfl (lv_at hl 0 rfl) ?_
      refine va_get (D := D) (ci := 6) (v := .ref (q 4)) (C := RX6) (T := TX6) (N := 34) hx hb hts inX6_sold_6 hown hK hP 0 rfl rfl 5 (by decide) (hts (.fieldLink RX6 19 "CornLawsModel" "quarters" "[I") wdX6_sold_4) (fun _ h9 => h9) rfl dX6_sold_82 ?_
      refine lv_iload_n hx hb dX6_sold_85 rfl (lv_at hl 1 rfl) ?_
      obtain ⟨hi7, h⟩ := h
      refine va_iald (f := w.1 3) hx hb hK hP 4 0 rfl rfl hi7 dX6_sold_86 ?_
      exact W.iret (v := (w.1 3 p1.toNatClampNeg)) hx hb hr (fun t ht hW => ⟨(w.1 3 p1.toNatClampNeg), rfl, h, ht⟩) (fun _ h9 => by cases h9) dX6_sold_87
    · replace h := h.2.2.2.2.2.1 c3
      refine lv_tableIn (tgt := 88) (off := 70) hx hb dX6_sold_18 (by rw [c3]; decide) (by rw [c3]; decide) (by rw [c3]; rfl) (by decide) ?_
      refine lv_aload_n hx hb dX6_sold_88 rfl (lv_at hl 0 rfl) ?_
      refine va_get (D := D) (ci := 6) (v := .ref (q 5)) (C := RX6) (T := TX6) (N := 34) hx hb hts inX6_sold_6 hown hK hP 0 rfl rfl 6 (by decide) (hts (.fieldLink RX6 22 "CornLawsModel" "price" "[I") wdX6_sold_5) (fun _ h9 => h9) rfl dX6_sold_89 ?_
      refine lv_iload_n hx hb dX6_sold_92 rfl (lv_at hl 1 rfl) ?_
      obtain ⟨hi8, h⟩ := h
      refine va_iald (f := w.1 4) hx hb hK hP 5 0 rfl rfl hi8 dX6_sold_93 ?_
      exact W.iret (v := (w.1 4 p1.toNatClampNeg)) hx hb hr (fun t ht hW => ⟨(w.1 4 p1.toNatClampNeg), rfl, h, ht⟩) (fun _ h9 => by cases h9) dX6_sold_94
    · replace h := h.2.2.2.2.2.2.1 c3
      refine lv_tableIn (tgt := 95) (off := 77) hx hb dX6_sold_18 (by rw [c3]; decide) (by rw [c3]; decide) (by rw [c3]; rfl) (by decide) ?_
      refine lv_aload_n hx hb dX6_sold_95 rfl (lv_at hl 0 rfl) ?_
      refine va_get (D := D) (ci := 6) (v := .ref (q 6)) (C := RX6) (T := TX6) (N := 34) hx hb hts inX6_sold_6 hown hK hP 0 rfl rfl 7 (by decide) (hts (.fieldLink RX6 25 "CornLawsModel" "sworn" "[I") wdX6_sold_6) (fun _ h9 => h9) rfl dX6_sold_96 ?_
      refine lv_iload_n hx hb dX6_sold_99 rfl (lv_at hl 1 rfl) ?_
      obtain ⟨hi9, h⟩ := h
      refine va_iald (f := w.1 5) hx hb hK hP 6 0 rfl rfl hi9 dX6_sold_100 ?_
      exact W.iret (v := (w.1 5 p1.toNatClampNeg)) hx hb hr (fun t ht hW => ⟨(w.1 5 p1.toNatClampNeg), rfl, h, ht⟩) (fun _ h9 => by cases h9) dX6_sold_101
    · replace h := h.2.2.2.2.2.2.2 c3
      refine lv_tableIn (tgt := 102) (off := 84) hx hb dX6_sold_18 (by rw [c3]; decide) (by rw [c3]; decide) (by rw [c3]; rfl) (by decide) ?_
      refine lv_aload_n hx hb dX6_sold_102 rfl (lv_at hl 0 rfl) ?_
      refine va_get (D := D) (ci := 6) (v := .ref (q 7)) (C := RX6) (T := TX6) (N := 34) hx hb hts inX6_sold_6 hown hK hP 0 rfl rfl 8 (by decide) (hts (.fieldLink RX6 28 "CornLawsModel" "struck" "[I") wdX6_sold_7) (fun _ h9 => h9) rfl dX6_sold_103 ?_
      refine lv_iload_n hx hb dX6_sold_106 rfl (lv_at hl 1 rfl) ?_
      obtain ⟨hi10, h⟩ := h
      refine va_iald (f := w.1 6) hx hb hK hP 7 0 rfl rfl hi10 dX6_sold_107 ?_
      exact W.iret (v := (w.1 6 p1.toNatClampNeg)) hx hb hr (fun t ht hW => ⟨(w.1 6 p1.toNatClampNeg), rfl, h, ht⟩) (fun _ h9 => by cases h9) dX6_sold_108
  · replace h := h.2 c2
    refine lv_bipush (v := (-2)) hx hb dX6_sold_14 (by decide) ?_
    exact W.iret (v := (-2)) hx hb hr (fun t ht hW => ⟨(-2), rfl, h, ht⟩) (fun _ h9 => by cases h9) dX6_sold_16

/-! X6_isKnown -/
set_option maxRecDepth 20000 in
theorem wdX6_isKnown_0 : Cond.fieldLink RX6 85 "CornLawsModel" "without" "I" ∈ wsX6_isKnown := by decide +kernel
set_option maxRecDepth 20000 in
theorem wdX6_isKnown_1 : Cond.fieldLink RX6 25 "CornLawsModel" "sworn" "[I" ∈ wsX6_isKnown := by decide +kernel
set_option maxRecDepth 20000 in
theorem wdX6_isKnown_2 : Cond.fieldLink RX6 28 "CornLawsModel" "struck" "[I" ∈ wsX6_isKnown := by decide +kernel
set_option maxRecDepth 20000 in
theorem inX6_isKnown_6 : ∀ w ∈ wsX60, w ∈ wsX6_isKnown := by decide +kernel
set_option maxHeartbeats 4000000 in
set_option maxRecDepth 100000 in
theorem cX6_isKnown_ok (l : Launch) (D : va_G) (cI cII : ClassId) (q : Nat → Nat) (w : MS) (p1 : Int32) (p2 : Int32) (post : Int32 → Prop) (h : wpX6_isKnown w p1 p2 post) : Met l yX6_isKnown wsX6_isKnown ({ frames := 0, cells := 0, slots := 0, locals := 0 } : Room) (zPc [.ref (q 0), .int p1, .int p2] D cI cII (wM cI q w)) (vp_Si post) 0 0 (fun _ => False) := by
  refine Met.ofW (cc := cX6_isKnown) (maxL := 3) (ret := (some .boolean)) (by decide) rfl ?_
  intro p e s m args below meth c s₁ B hml hv
  obtain ⟨rfl, hP, hK⟩ := hv
  have hx := B.exec
  have hb := B.bytes
  have hr := B.returns
  have hts := atoms_spec (ws := wsX6_isKnown) B.pre
  have hown : s.vm.findClass RX6 = some m.cls := findClass_of_methodNamed B.named
  have hlocks := B.notSynchronized
  have hl := lv_entry ([.ref (q 0), .int p1, .int p2]) (n := 3) (Nat.le_of_ble_eq_true rfl)
  rw [lg_entry_eq]
  generalize (lg_sl ([.ref (q 0), .int p1, .int p2]) ++ List.replicate (3 - (lg_sl ([.ref (q 0), .int p1, .int p2])).length) Slot.unset).toArray = ls at hl ⊢
  have hl : lv_has ls 3 [(0, .ref (q 0)), (1, .int p1), (2, .int p2)] := hl
  unfold wpX6_isKnown at h
  refine lv_iload_n hx hb dX6_isKnown_0 rfl (lv_at hl 1 rfl) ?_
  refine lv_aload_n hx hb dX6_isKnown_1 rfl (lv_at hl 0 rfl) ?_
  refine va_get (D := D) (ci := 6) (v := .int (w.2.1 6)) (C := RX6) (T := TX6) (N := 34) hx hb hts inX6_isKnown_6 hown hK hP 0 rfl rfl 32 (by decide) (hts (.fieldLink RX6 85 "CornLawsModel" "without" "I") wdX6_isKnown_0) (fun _ h9 => h9) rfl dX6_isKnown_2 ?_
  refine lv_icmp_eq (tgt := 42) hx hb dX6_isKnown_5 (by decide) (fun c1 => ?_) (fun c1 => ?_)
  · replace h := h.1 c1
    refine lv_iconst (v := 0) hx hb dX6_isKnown_42 (by decide) ?_
    exact W.zret (v := 0) (ty := .boolean) hx hb hr (by decide) (fun t ht hW => ⟨0, rfl, h, ht⟩) (fun _ h9 => by cases h9) dX6_isKnown_43
  · replace h := h.2 c1
    refine lv_aload_n hx hb dX6_isKnown_8 rfl (lv_at hl 0 rfl) ?_
    refine va_get (D := D) (ci := 6) (v := .ref (q 6)) (C := RX6) (T := TX6) (N := 34) hx hb hts inX6_isKnown_6 hown hK hP 0 rfl rfl 7 (by decide) (hts (.fieldLink RX6 25 "CornLawsModel" "sworn" "[I") wdX6_isKnown_1) (fun _ h9 => h9) rfl dX6_isKnown_9 ?_
    refine lv_iload_n hx hb dX6_isKnown_12 rfl (lv_at hl 1 rfl) ?_
    obtain ⟨hi2, h⟩ := h
    refine va_iald (f := w.1 5) hx hb hK hP 6 0 rfl rfl hi2 dX6_isKnown_13 ?_
    refine lv_iload_n hx hb dX6_isKnown_14 rfl (lv_at hl 2 rfl) ?_
    refine lv_icmp_gt (tgt := 42) hx hb dX6_isKnown_15 (by decide) (fun c3 => ?_) (fun c3 => ?_)
    · replace h := h.1 c3
      refine lv_iconst (v := 0) hx hb dX6_isKnown_42 (by decide) ?_
      exact W.zret (v := 0) (ty := .boolean) hx hb hr (by decide) (fun t ht hW => ⟨0, rfl, h, ht⟩) (fun _ h9 => by cases h9) dX6_isKnown_43
    · replace h := h.2 c3
      refine lv_aload_n hx hb dX6_isKnown_18 rfl (lv_at hl 0 rfl) ?_
      refine va_get (D := D) (ci := 6) (v := .ref (q 7)) (C := RX6) (T := TX6) (N := 34) hx hb hts inX6_isKnown_6 hown hK hP 0 rfl rfl 8 (by decide) (hts (.fieldLink RX6 28 "CornLawsModel" "struck" "[I") wdX6_isKnown_2) (fun _ h9 => h9) rfl dX6_isKnown_19 ?_
      refine lv_iload_n hx hb dX6_isKnown_22 rfl (lv_at hl 1 rfl) ?_
      refine va_iald (f := w.1 6) hx hb hK hP 7 0 rfl rfl hi2 dX6_isKnown_23 ?_
      refine lv_iconst (v := (-1)) hx hb dX6_isKnown_24 (by decide) ?_
      refine lv_icmp_eq (tgt := 38) hx hb dX6_isKnown_25 (by decide) (fun c4 => ?_) (fun c4 => ?_)
      · replace h := h.1 c4
        refine lv_iconst (v := 1) hx hb dX6_isKnown_38 (by decide) ?_
        refine lv_goto (tgt := 43) hx hb dX6_isKnown_39 (by decide) ?_
        exact W.zret (v := 1) (ty := .boolean) hx hb hr (by decide) (fun t ht hW => ⟨1, rfl, h, ht⟩) (fun _ h9 => by cases h9) dX6_isKnown_43
      · replace h := h.2 c4
        refine lv_aload_n hx hb dX6_isKnown_28 rfl (lv_at hl 0 rfl) ?_
        refine va_get (D := D) (ci := 6) (v := .ref (q 7)) (C := RX6) (T := TX6) (N := 34) hx hb hts inX6_isKnown_6 hown hK hP 0 rfl rfl 8 (by decide) (hts (.fieldLink RX6 28 "CornLawsModel" "struck" "[I") wdX6_isKnown_2) (fun _ h9 => h9) rfl dX6_isKnown_29 ?_
        refine lv_iload_n hx hb dX6_isKnown_32 rfl (lv_at hl 1 rfl) ?_
        refine va_iald (f := w.1 6) hx hb hK hP 7 0 rfl rfl hi2 dX6_isKnown_33 ?_
        refine lv_iload_n hx hb dX6_isKnown_34 rfl (lv_at hl 2 rfl) ?_
        refine lv_icmp_le (tgt := 42) hx hb dX6_isKnown_35 (by decide) (fun c5 => ?_) (fun c5 => ?_)
        · replace h := h.1 c5
          refine lv_iconst (v := 0) hx hb dX6_isKnown_42 (by decide) ?_
          exact W.zret (v := 0) (ty := .boolean) hx hb hr (by decide) (fun t ht hW => ⟨0, rfl, h, ht⟩) (fun _ h9 => by cases h9) dX6_isKnown_43
        · replace h := h.2 c5
          refine lv_iconst (v := 1) hx hb dX6_isKnown_38 (by decide) ?_
          refine lv_goto (tgt := 43) hx hb dX6_isKnown_39 (by decide) ?_
          exact W.zret (v := 1) (ty := .boolean) hx hb hr (by decide) (fun t ht hW => ⟨1, rfl, h, ht⟩) (fun _ h9 => by cases h9) dX6_isKnown_43

/-! X6_weeklyAt -/
set_option maxRecDepth 20000 in
theorem wdX6_weeklyAt_0 : Cond.fieldLink RX6 109 "CornLawsModel" "returns" "I" ∈ wsX6_weeklyAt := by decide +kernel
set_option maxRecDepth 20000 in
theorem wdX6_weeklyAt_1 : Cond.fieldLink RX6 13 "CornLawsModel" "grain" "[I" ∈ wsX6_weeklyAt := by decide +kernel
set_option maxRecDepth 20000 in
theorem wdX6_weeklyAt_2 : Cond.fieldLink RX6 16 "CornLawsModel" "forWeek" "[I" ∈ wsX6_weeklyAt := by decide +kernel
set_option maxRecDepth 20000 in
theorem wdX6_weeklyAt_3 : Cond.fieldLink RX6 22 "CornLawsModel" "price" "[I" ∈ wsX6_weeklyAt := by decide +kernel
set_option maxRecDepth 20000 in
theorem wdX6_weeklyAt_4 : Cond.fieldLink RX6 19 "CornLawsModel" "quarters" "[I" ∈ wsX6_weeklyAt := by decide +kernel
set_option maxRecDepth 20000 in
theorem inX6_weeklyAt_6 : ∀ w ∈ wsX60, w ∈ wsX6_weeklyAt := by decide +kernel
set_option maxHeartbeats 4000000 in
set_option maxRecDepth 100000 in
theorem cX6_weeklyAt_ok (l : Launch) (D : va_G) (cI cII : ClassId) (q : Nat → Nat) (w : MS) (p1 : Int32) (p2 : Int32) (p3 : Int32) (post : Int32 → Prop) (h : wpX6_weeklyAt w p1 p2 p3 post) : Met l yX6_weeklyAt wsX6_weeklyAt ({ frames := 1, cells := 0, slots := 0, locals := 22 } : Room) (zPc [.ref (q 0), .int p1, .int p2, .int p3] D cI cII (wM cI q w)) (vp_Si post) 0 0 (fun _ => False) := by
  refine Met.ofW (cc := cX6_weeklyAt) (maxL := 10) (ret := (some .int)) (by decide) rfl ?_
  intro p e s m args below meth c s₁ B hml hv
  obtain ⟨rfl, hP, hK⟩ := hv
  have hx := B.exec
  have hb := B.bytes
  have hr := B.returns
  have hts := atoms_spec (ws := wsX6_weeklyAt) B.pre
  have hown : s.vm.findClass RX6 = some m.cls := findClass_of_methodNamed B.named
  have hlocks := B.notSynchronized
  have hl := lv_entry ([.ref (q 0), .int p1, .int p2, .int p3]) (n := 10) (Nat.le_of_ble_eq_true rfl)
  rw [lg_entry_eq]
  generalize (lg_sl ([.ref (q 0), .int p1, .int p2, .int p3]) ++ List.replicate (10 - (lg_sl ([.ref (q 0), .int p1, .int p2, .int p3])).length) Slot.unset).toArray = ls at hl ⊢
  have hl : lv_has ls 10 [(0, .ref (q 0)), (1, .int p1), (2, .int p2), (3, .int p3)] := hl
  unfold wpX6_weeklyAt at h
  refine lv_iload_n hx hb dX6_weeklyAt_0 rfl (lv_at hl 2 rfl) ?_
  refine lv_istore (lv' := [(4, .int p2), (0, .ref (q 0)), (1, .int p1), (2, .int p2), (3, .int p3)]) hx hb dX6_weeklyAt_1 hl (by decide) rfl (fun ls hl => ?_)
  have hL3 : ∀ (K3 : Int32 → Prop) (hX : ∀ (x4_3 : Int32), K3 x4_3 → ∀ ls : Array Slot, lv_has ls 10 [(4, .int x4_3), (0, .ref (q 0)), (1, .int p1), (2, .int p2), (3, .int p3)] → W p l e (headSpec wsX6_weeklyAt ({ frames := 1, cells := 0, slots := 0, locals := 22 } : Room)).room s m ([.ref (q 0), .int p1, .int p2, .int p3] : List Value).toArray below meth c s.heap [] 0 0 (MQ below (vp_Si post) ([.ref (q 0), .int p1, .int p2, .int p3] : List Value).toArray s 0 0 (fun _ => False)) (F0 m 120 ls [])) (n : Nat) (x4_3 : Int32), wpX6_weeklyAt_L3 w p1 p3 post K3 n x4_3 → ∀ ls : Array Slot, lv_has ls 10 [(4, .int x4_3), (0, .ref (q 0)), (1, .int p1), (2, .int p2), (3, .int p3)] → W p l e (headSpec wsX6_weeklyAt ({ frames := 1, cells := 0, slots := 0, locals := 22 } : Room)).room s m ([.ref (q 0), .int p1, .int p2, .int p3] : List Value).toArray below meth c s.heap [] 0 0 (MQ below (vp_Si post) ([.ref (q 0), .int p1, .int p2, .int p3] : List Value).toArray s 0 0 (fun _ => False)) (F0 m 3 ls []) := by
    intro K3 hX n
    induction n with
    | zero => intro x4_3 h; exact False.elim h
    | succ n ih =>
      intro x4_3 h ls hl
      rw [wpX6_weeklyAt_L3] at h
      refine lv_iload hx hb dX6_weeklyAt_3 (lv_at hl 0 rfl) ?_
      refine lv_if_lt (tgt := 120) hx hb dX6_weeklyAt_5 (by decide) (fun c1 => ?_) (fun c1 => ?_)
      · replace h := h.1 c1
        exact hX x4_3 h ls (lv_sub hl [0, 1, 2, 3, 4] rfl)
      · replace h := h.2 c1
        refine lv_lconst (v := 0) hx hb dX6_weeklyAt_8 (by decide) ?_
        refine lv_lstore (lv' := [(5, .long 0), (4, .int x4_3), (0, .ref (q 0)), (1, .int p1), (2, .int p2), (3, .int p3)]) hx hb dX6_weeklyAt_9 hl (by decide) rfl (fun ls hl => ?_)
        refine lv_lconst (v := 0) hx hb dX6_weeklyAt_11 (by decide) ?_
        refine lv_lstore (lv' := [(7, .long 0), (5, .long 0), (4, .int x4_3), (0, .ref (q 0)), (1, .int p1), (2, .int p2), (3, .int p3)]) hx hb dX6_weeklyAt_12 hl (by decide) rfl (fun ls hl => ?_)
        refine lv_iconst (v := 0) hx hb dX6_weeklyAt_14 (by decide) ?_
        refine lv_istore (lv' := [(9, .int 0), (7, .long 0), (5, .long 0), (4, .int x4_3), (0, .ref (q 0)), (1, .int p1), (2, .int p2), (3, .int p3)]) hx hb dX6_weeklyAt_15 hl (by decide) rfl (fun ls hl => ?_)
        have hL17 : ∀ (K17 : Int32 → Int64 → Int64 → Prop) (hX : ∀ (x9_17 : Int32) (x7_17 : Int64) (x5_17 : Int64), K17 x9_17 x7_17 x5_17 → ∀ ls : Array Slot, lv_has ls 10 [(9, .int x9_17), (7, .long x7_17), (5, .long x5_17), (4, .int x4_3), (0, .ref (q 0)), (1, .int p1), (2, .int p2), (3, .int p3)] → W p l e (headSpec wsX6_weeklyAt ({ frames := 1, cells := 0, slots := 0, locals := 22 } : Room)).room s m ([.ref (q 0), .int p1, .int p2, .int p3] : List Value).toArray below meth c s.heap [] 0 0 (MQ below (vp_Si post) ([.ref (q 0), .int p1, .int p2, .int p3] : List Value).toArray s 0 0 (fun _ => False)) (F0 m 100 ls [])) (n : Nat) (x9_17 : Int32) (x7_17 : Int64) (x5_17 : Int64), wpX6_weeklyAt_L17 w p1 p3 x4_3 K17 n x9_17 x7_17 x5_17 → ∀ ls : Array Slot, lv_has ls 10 [(9, .int x9_17), (7, .long x7_17), (5, .long x5_17), (4, .int x4_3), (0, .ref (q 0)), (1, .int p1), (2, .int p2), (3, .int p3)] → W p l e (headSpec wsX6_weeklyAt ({ frames := 1, cells := 0, slots := 0, locals := 22 } : Room)).room s m ([.ref (q 0), .int p1, .int p2, .int p3] : List Value).toArray below meth c s.heap [] 0 0 (MQ below (vp_Si post) ([.ref (q 0), .int p1, .int p2, .int p3] : List Value).toArray s 0 0 (fun _ => False)) (F0 m 17 ls []) := by
          intro K17 hX n
          induction n with
          | zero => intro x9_17 x7_17 x5_17 h; exact False.elim h
          | succ n ih =>
            intro x9_17 x7_17 x5_17 h ls hl
            rw [wpX6_weeklyAt_L17] at h
            refine lv_iload hx hb dX6_weeklyAt_17 (lv_at hl 0 rfl) ?_
            refine lv_aload_n hx hb dX6_weeklyAt_19 rfl (lv_at hl 4 rfl) ?_
            refine va_get (D := D) (ci := 6) (v := .int (w.2.1 1)) (C := RX6) (T := TX6) (N := 34) hx hb hts inX6_weeklyAt_6 hown hK hP 0 rfl rfl 1 (by decide) (hts (.fieldLink RX6 109 "CornLawsModel" "returns" "I") wdX6_weeklyAt_0) (fun _ h9 => h9) rfl dX6_weeklyAt_20 ?_
            refine lv_icmp_ge (tgt := 100) hx hb dX6_weeklyAt_23 (by decide) (fun c2 => ?_) (fun c2 => ?_)
            · replace h := h.1 c2
              exact hX x9_17 x7_17 x5_17 h ls (lv_sub hl [0, 1, 2, 3, 4, 5, 6, 7] rfl)
            · replace h := h.2 c2
              refine lv_aload_n hx hb dX6_weeklyAt_26 rfl (lv_at hl 4 rfl) ?_
              refine va_get (D := D) (ci := 6) (v := .ref (q 2)) (C := RX6) (T := TX6) (N := 34) hx hb hts inX6_weeklyAt_6 hown hK hP 0 rfl rfl 3 (by decide) (hts (.fieldLink RX6 13 "CornLawsModel" "grain" "[I") wdX6_weeklyAt_1) (fun _ h9 => h9) rfl dX6_weeklyAt_27 ?_
              refine lv_iload hx hb dX6_weeklyAt_30 (lv_at hl 0 rfl) ?_
              obtain ⟨hi3, h⟩ := h
              refine va_iald (f := w.1 1) hx hb hK hP 2 0 rfl rfl hi3 dX6_weeklyAt_32 ?_
              refine lv_iload_n hx hb dX6_weeklyAt_33 rfl (lv_at hl 5 rfl) ?_
              refine lv_icmp_ne (tgt := 94) hx hb dX6_weeklyAt_34 (by decide) (fun c4 => ?_) (fun c4 => ?_)
              · replace h := h.1 c4
                refine lv_iinc (v := (x9_17 + 1)) (lv' := [(9, .int (x9_17 + 1)), (7, .long x7_17), (5, .long x5_17), (4, .int x4_3), (0, .ref (q 0)), (1, .int p1), (2, .int p2), (3, .int p3)]) hx hb dX6_weeklyAt_94 hl (k := 0) rfl rfl (by decide) rfl (fun ls hl => ?_)
                refine lv_goto (tgt := 17) hx hb dX6_weeklyAt_97 (by decide) ?_
                exact ih (x9_17 + 1) x7_17 x5_17 h ls (lv_sub hl [0, 1, 2, 3, 4, 5, 6, 7] rfl)
              · replace h := h.2 c4
                refine lv_aload_n hx hb dX6_weeklyAt_37 rfl (lv_at hl 4 rfl) ?_
                refine va_get (D := D) (ci := 6) (v := .ref (q 3)) (C := RX6) (T := TX6) (N := 34) hx hb hts inX6_weeklyAt_6 hown hK hP 0 rfl rfl 4 (by decide) (hts (.fieldLink RX6 16 "CornLawsModel" "forWeek" "[I") wdX6_weeklyAt_2) (fun _ h9 => h9) rfl dX6_weeklyAt_38 ?_
                refine lv_iload hx hb dX6_weeklyAt_41 (lv_at hl 0 rfl) ?_
                refine va_iald (f := w.1 2) hx hb hK hP 3 0 rfl rfl hi3 dX6_weeklyAt_43 ?_
                refine lv_iload hx hb dX6_weeklyAt_44 (lv_at hl 3 rfl) ?_
                refine lv_icmp_ne (tgt := 94) hx hb dX6_weeklyAt_46 (by decide) (fun c5 => ?_) (fun c5 => ?_)
                · replace h := h.1 c5
                  refine lv_iinc (v := (x9_17 + 1)) (lv' := [(9, .int (x9_17 + 1)), (7, .long x7_17), (5, .long x5_17), (4, .int x4_3), (0, .ref (q 0)), (1, .int p1), (2, .int p2), (3, .int p3)]) hx hb dX6_weeklyAt_94 hl (k := 0) rfl rfl (by decide) rfl (fun ls hl => ?_)
                  refine lv_goto (tgt := 17) hx hb dX6_weeklyAt_97 (by decide) ?_
                  exact ih (x9_17 + 1) x7_17 x5_17 h ls (lv_sub hl [0, 1, 2, 3, 4, 5, 6, 7] rfl)
                · replace h := h.2 c5
                  refine lv_aload_n hx hb dX6_weeklyAt_49 rfl (lv_at hl 4 rfl) ?_
                  refine lv_iload hx hb dX6_weeklyAt_50 (lv_at hl 0 rfl) ?_
                  refine lv_iload_n hx hb dX6_weeklyAt_52 rfl (lv_at hl 7 rfl) ?_
                  refine vp_callSi (W.runV (C := RX6) (As := [.int x9_17, .int p3]) (rest := []) ⟨hx, hb, hml, hown, hts⟩ (cX6_isKnown_ok l D cI cII q w x9_17 p3 _ h) (cwV 2 hts gX6_weeklyAt_X6_isKnown rfl rfl rfl (by decide +kernel) ⟨Nat.le_of_ble_eq_true rfl, Nat.le_of_ble_eq_true rfl⟩) (z_preV hK hP rfl rfl) rfl rfl hl.1 rfl (lv_room (Nat.le_of_ble_eq_true rfl)) dX6_weeklyAt_53 ⟨Nat.le_of_ble_eq_true rfl, Nat.le_of_ble_eq_true rfl⟩) (fun r6 h => ?_)
                  refine lv_if_eq (tgt := 94) hx hb dX6_weeklyAt_56 (by decide) (fun c7 => ?_) (fun c7 => ?_)
                  · replace h := h.1 c7
                    refine lv_iinc (v := (x9_17 + 1)) (lv' := [(9, .int (x9_17 + 1)), (7, .long x7_17), (5, .long x5_17), (4, .int x4_3), (0, .ref (q 0)), (1, .int p1), (2, .int p2), (3, .int p3)]) hx hb dX6_weeklyAt_94 hl (k := 0) rfl rfl (by decide) rfl (fun ls hl => ?_)
                    refine lv_goto (tgt := 17) hx hb dX6_weeklyAt_97 (by decide) ?_
                    exact ih (x9_17 + 1) x7_17 x5_17 h ls (lv_sub hl [0, 1, 2, 3, 4, 5, 6, 7] rfl)
                  · replace h := h.2 c7
                    refine lv_lload hx hb dX6_weeklyAt_59 (lv_at hl 2 rfl) ?_
                    refine lv_aload_n hx hb dX6_weeklyAt_61 rfl (lv_at hl 4 rfl) ?_
                    refine va_get (D := D) (ci := 6) (v := .ref (q 5)) (C := RX6) (T := TX6) (N := 34) hx hb hts inX6_weeklyAt_6 hown hK hP 0 rfl rfl 6 (by decide) (hts (.fieldLink RX6 22 "CornLawsModel" "price" "[I") wdX6_weeklyAt_3) (fun _ h9 => h9) rfl dX6_weeklyAt_62 ?_
                    refine lv_iload hx hb dX6_weeklyAt_65 (lv_at hl 0 rfl) ?_
                    refine va_iald (f := w.1 4) hx hb hK hP 5 0 rfl rfl hi3 dX6_weeklyAt_67 ?_
                    refine lv_i2l (v := (w.1 4 x9_17.toNatClampNeg).toInt64) hx hb dX6_weeklyAt_68 rfl ?_
                    refine lv_aload_n hx hb dX6_weeklyAt_69 rfl (lv_at hl 4 rfl) ?_
                    refine va_get (D := D) (ci := 6) (v := .ref (q 4)) (C := RX6) (T := TX6) (N := 34) hx hb hts inX6_weeklyAt_6 hown hK hP 0 rfl rfl 5 (by decide) (hts (.fieldLink RX6 19 "CornLawsModel" "quarters" "[I") wdX6_weeklyAt_4) (fun _ h9 => h9) rfl dX6_weeklyAt_70 ?_
                    refine lv_iload hx hb dX6_weeklyAt_73 (lv_at hl 0 rfl) ?_
                    refine va_iald (f := w.1 3) hx hb hK hP 4 0 rfl rfl hi3 dX6_weeklyAt_75 ?_
                    refine lv_i2l (v := (w.1 3 x9_17.toNatClampNeg).toInt64) hx hb dX6_weeklyAt_76 rfl ?_
                    refine lv_lmul hx hb dX6_weeklyAt_77 ?_
                    refine lv_ladd hx hb dX6_weeklyAt_78 ?_
                    refine lv_lstore (lv' := [(5, .long (x5_17 + (((w.1 4 x9_17.toNatClampNeg).toInt64) * ((w.1 3 x9_17.toNatClampNeg).toInt64)))), (9, .int x9_17), (7, .long x7_17), (4, .int x4_3), (0, .ref (q 0)), (1, .int p1), (2, .int p2), (3, .int p3)]) hx hb dX6_weeklyAt_79 hl (by decide) rfl (fun ls hl => ?_)
                    refine lv_lload hx hb dX6_weeklyAt_81 (lv_at hl 2 rfl) ?_
                    refine lv_aload_n hx hb dX6_weeklyAt_83 rfl (lv_at hl 4 rfl) ?_
                    refine va_get (D := D) (ci := 6) (v := .ref (q 4)) (C := RX6) (T := TX6) (N := 34) hx hb hts inX6_weeklyAt_6 hown hK hP 0 rfl rfl 5 (by decide) (hts (.fieldLink RX6 19 "CornLawsModel" "quarters" "[I") wdX6_weeklyAt_4) (fun _ h9 => h9) rfl dX6_weeklyAt_84 ?_
                    refine lv_iload hx hb dX6_weeklyAt_87 (lv_at hl 1 rfl) ?_
                    refine va_iald (f := w.1 3) hx hb hK hP 4 0 rfl rfl hi3 dX6_weeklyAt_89 ?_
                    refine lv_i2l (v := (w.1 3 x9_17.toNatClampNeg).toInt64) hx hb dX6_weeklyAt_90 rfl ?_
                    refine lv_ladd hx hb dX6_weeklyAt_91 ?_
                    refine lv_lstore (lv' := [(7, .long (x7_17 + ((w.1 3 x9_17.toNatClampNeg).toInt64))), (5, .long (x5_17 + (((w.1 4 x9_17.toNatClampNeg).toInt64) * ((w.1 3 x9_17.toNatClampNeg).toInt64)))), (9, .int x9_17), (4, .int x4_3), (0, .ref (q 0)), (1, .int p1), (2, .int p2), (3, .int p3)]) hx hb dX6_weeklyAt_92 hl (by decide) rfl (fun ls hl => ?_)
                    refine lv_iinc (v := (x9_17 + 1)) (lv' := [(9, .int (x9_17 + 1)), (7, .long (x7_17 + ((w.1 3 x9_17.toNatClampNeg).toInt64))), (5, .long (x5_17 + (((w.1 4 x9_17.toNatClampNeg).toInt64) * ((w.1 3 x9_17.toNatClampNeg).toInt64)))), (4, .int x4_3), (0, .ref (q 0)), (1, .int p1), (2, .int p2), (3, .int p3)]) hx hb dX6_weeklyAt_94 hl (k := 2) rfl rfl (by decide) rfl (fun ls hl => ?_)
                    refine lv_goto (tgt := 17) hx hb dX6_weeklyAt_97 (by decide) ?_
                    exact ih (x9_17 + 1) (x7_17 + ((w.1 3 x9_17.toNatClampNeg).toInt64)) (x5_17 + (((w.1 4 x9_17.toNatClampNeg).toInt64) * ((w.1 3 x9_17.toNatClampNeg).toInt64))) h ls (lv_sub hl [0, 1, 2, 3, 4, 5, 6, 7] rfl)
        obtain ⟨n, h⟩ := h
        refine hL17 _ (fun x9_17 x7_17 x5_17 h ls hl => ?_) n 0 0 0 h ls hl
        refine lv_lload hx hb dX6_weeklyAt_100 (lv_at hl 1 rfl) ?_
        refine lv_lconst (v := 0) hx hb dX6_weeklyAt_102 (by decide) ?_
        refine W.lcmp hx hb dX6_weeklyAt_103 ?_
        refine lv_if_le (tgt := 114) hx hb dX6_weeklyAt_104 (by decide) (fun c8 => ?_) (fun c8 => ?_)
        · replace h := h.1 c8
          refine lv_iinc (v := (x4_3 + (-1))) (lv' := [(4, .int (x4_3 + (-1))), (9, .int x9_17), (7, .long x7_17), (5, .long x5_17), (0, .ref (q 0)), (1, .int p1), (2, .int p2), (3, .int p3)]) hx hb dX6_weeklyAt_114 hl (k := 3) rfl rfl (by decide) rfl (fun ls hl => ?_)
          refine lv_goto (tgt := 3) hx hb dX6_weeklyAt_117 (by decide) ?_
          exact ih (x4_3 + (-1)) h ls (lv_sub hl [0, 4, 5, 6, 7] rfl)
        · replace h := h.2 c8
          refine lv_lload hx hb dX6_weeklyAt_107 (lv_at hl 2 rfl) ?_
          refine lv_lload hx hb dX6_weeklyAt_109 (lv_at hl 1 rfl) ?_
          obtain ⟨hdiv, h⟩ := h
          refine lv_ldiv hx hb dX6_weeklyAt_111 hdiv ?_
          refine lv_l2i (v := (x5_17 / x7_17).toInt32) hx hb dX6_weeklyAt_112 rfl ?_
          exact W.iret (v := (x5_17 / x7_17).toInt32) hx hb hr (fun t ht hW => ⟨(x5_17 / x7_17).toInt32, rfl, h, ht⟩) (fun _ h9 => by cases h9) dX6_weeklyAt_113
  obtain ⟨n, h⟩ := h
  refine hL3 _ (fun x4_3 h ls hl => ?_) n p2 h ls hl
  refine lv_iconst (v := (-1)) hx hb dX6_weeklyAt_120 (by decide) ?_
  exact W.iret (v := (-1)) hx hb hr (fun t ht hW => ⟨(-1), rfl, h, ht⟩) (fun _ h9 => by cases h9) dX6_weeklyAt_121

/-! X6_weekly -/
set_option maxHeartbeats 4000000 in
set_option maxRecDepth 100000 in
theorem cX6_weekly_ok (l : Launch) (D : va_G) (cI cII : ClassId) (q : Nat → Nat) (w : MS) (p1 : Int32) (p2 : Int32) (p3 : Int32) (post : Int32 → Prop) (h : wpX6_weekly w p1 p2 p3 post) : Met l yX6_weekly wsX6_weekly ({ frames := 2, cells := 0, slots := 0, locals := 51 } : Room) (zPc [.ref (q 0), .int p1, .int p2, .int p3] D cI cII (wM cI q w)) (vp_Si post) 0 0 (fun _ => False) := by
  refine Met.ofW (cc := cX6_weekly) (maxL := 4) (ret := (some .int)) (by decide) rfl ?_
  intro p e s m args below meth c s₁ B hml hv
  obtain ⟨rfl, hP, hK⟩ := hv
  have hx := B.exec
  have hb := B.bytes
  have hr := B.returns
  have hts := atoms_spec (ws := wsX6_weekly) B.pre
  have hown : s.vm.findClass RX6 = some m.cls := findClass_of_methodNamed B.named
  have hlocks := B.notSynchronized
  have hl := lv_entry ([.ref (q 0), .int p1, .int p2, .int p3]) (n := 4) (Nat.le_of_ble_eq_true rfl)
  rw [lg_entry_eq]
  generalize (lg_sl ([.ref (q 0), .int p1, .int p2, .int p3]) ++ List.replicate (4 - (lg_sl ([.ref (q 0), .int p1, .int p2, .int p3])).length) Slot.unset).toArray = ls at hl ⊢
  have hl : lv_has ls 4 [(0, .ref (q 0)), (1, .int p1), (2, .int p2), (3, .int p3)] := hl
  unfold wpX6_weekly at h
  refine lv_iload_n hx hb dX6_weekly_0 rfl (lv_at hl 1 rfl) ?_
  refine vp_callSi (W.runS (As := [.int p1]) (rest := []) ⟨hx, hb, hml, hown, hts⟩ (cX6_isGrain_ok l p1 _ h) (va_cwS 1 hts gX6_weekly_X6_isGrain rfl rfl rfl (by decide +kernel) ⟨Nat.le_of_ble_eq_true rfl, Nat.le_of_ble_eq_true rfl⟩) z_preS rfl rfl hl.1 rfl (lv_room (Nat.le_of_ble_eq_true rfl)) dX6_weekly_1 ⟨Nat.le_of_ble_eq_true rfl, Nat.le_of_ble_eq_true rfl⟩) (fun r1 h => ?_)
  refine lv_if_eq (tgt := 39) hx hb dX6_weekly_4 (by decide) (fun c2 => ?_) (fun c2 => ?_)
  · replace h := h.1 c2
    refine lv_bipush (v := (-2)) hx hb dX6_weekly_39 (by decide) ?_
    exact W.iret (v := (-2)) hx hb hr (fun t ht hW => ⟨(-2), rfl, h, ht⟩) (fun _ h9 => by cases h9) dX6_weekly_41
  · replace h := h.2 c2
    refine lv_iload_n hx hb dX6_weekly_7 rfl (lv_at hl 2 rfl) ?_
    refine lv_iconst (v := 0) hx hb dX6_weekly_8 (by decide) ?_
    refine lv_sipush (v := 200) hx hb dX6_weekly_9 (by decide) ?_
    refine vp_callSi (W.runS (As := [.int p2, .int 0, .int 200]) (rest := []) ⟨hx, hb, hml, hown, hts⟩ (cX6_in_ok l p2 0 200 _ h) (va_cwS 3 hts gX6_weekly_X6_in rfl rfl rfl (by decide +kernel) ⟨Nat.le_of_ble_eq_true rfl, Nat.le_of_ble_eq_true rfl⟩) z_preS rfl rfl hl.1 rfl (lv_room (Nat.le_of_ble_eq_true rfl)) dX6_weekly_12 ⟨Nat.le_of_ble_eq_true rfl, Nat.le_of_ble_eq_true rfl⟩) (fun r3 h => ?_)
    refine lv_if_eq (tgt := 39) hx hb dX6_weekly_15 (by decide) (fun c4 => ?_) (fun c4 => ?_)
    · replace h := h.1 c4
      refine lv_bipush (v := (-2)) hx hb dX6_weekly_39 (by decide) ?_
      exact W.iret (v := (-2)) hx hb hr (fun t ht hW => ⟨(-2), rfl, h, ht⟩) (fun _ h9 => by cases h9) dX6_weekly_41
    · replace h := h.2 c4
      refine lv_iload_n hx hb dX6_weekly_18 rfl (lv_at hl 3 rfl) ?_
      refine lv_iconst (v := 0) hx hb dX6_weekly_19 (by decide) ?_
      refine lv_sipush (v := 200) hx hb dX6_weekly_20 (by decide) ?_
      refine vp_callSi (W.runS (As := [.int p3, .int 0, .int 200]) (rest := []) ⟨hx, hb, hml, hown, hts⟩ (cX6_in_ok l p3 0 200 _ h) (va_cwS 3 hts gX6_weekly_X6_in rfl rfl rfl (by decide +kernel) ⟨Nat.le_of_ble_eq_true rfl, Nat.le_of_ble_eq_true rfl⟩) z_preS rfl rfl hl.1 rfl (lv_room (Nat.le_of_ble_eq_true rfl)) dX6_weekly_23 ⟨Nat.le_of_ble_eq_true rfl, Nat.le_of_ble_eq_true rfl⟩) (fun r5 h => ?_)
      refine lv_if_eq (tgt := 39) hx hb dX6_weekly_26 (by decide) (fun c6 => ?_) (fun c6 => ?_)
      · replace h := h.1 c6
        refine lv_bipush (v := (-2)) hx hb dX6_weekly_39 (by decide) ?_
        exact W.iret (v := (-2)) hx hb hr (fun t ht hW => ⟨(-2), rfl, h, ht⟩) (fun _ h9 => by cases h9) dX6_weekly_41
      · replace h := h.2 c6
        refine lv_aload_n hx hb dX6_weekly_29 rfl (lv_at hl 0 rfl) ?_
        refine lv_iload_n hx hb dX6_weekly_30 rfl (lv_at hl 1 rfl) ?_
        refine lv_iload_n hx hb dX6_weekly_31 rfl (lv_at hl 2 rfl) ?_
        refine lv_iload_n hx hb dX6_weekly_32 rfl (lv_at hl 3 rfl) ?_
        refine vp_callSi (W.runV (C := RX6) (As := [.int p1, .int p2, .int p3]) (rest := []) ⟨hx, hb, hml, hown, hts⟩ (cX6_weeklyAt_ok l D cI cII q w p1 p2 p3 _ h) (cwV 3 hts gX6_weekly_X6_weeklyAt rfl rfl rfl (by decide +kernel) ⟨Nat.le_of_ble_eq_true rfl, Nat.le_of_ble_eq_true rfl⟩) (z_preV hK hP rfl rfl) rfl rfl hl.1 rfl (lv_room (Nat.le_of_ble_eq_true rfl)) dX6_weekly_33 ⟨Nat.le_of_ble_eq_true rfl, Nat.le_of_ble_eq_true rfl⟩) (fun r7 h => ?_)
        refine lv_goto (tgt := 41) hx hb dX6_weekly_36 (by decide) ?_
        exact W.iret (v := r7) hx hb hr (fun t ht hW => ⟨r7, rfl, h, ht⟩) (fun _ h9 => by cases h9) dX6_weekly_41

/-! X6_averageAt -/
set_option maxHeartbeats 4000000 in
set_option maxRecDepth 100000 in
theorem cX6_averageAt_ok (l : Launch) (D : va_G) (cI cII : ClassId) (q : Nat → Nat) (w : MS) (p1 : Int32) (p2 : Int32) (p3 : Int32) (post : Int32 → Prop) (h : wpX6_averageAt w p1 p2 p3 post) : Met l yX6_averageAt wsX6_averageAt ({ frames := 2, cells := 0, slots := 0, locals := 51 } : Room) (zPc [.ref (q 0), .int p1, .int p2, .int p3] D cI cII (wM cI q w)) (vp_Si post) 0 0 (fun _ => False) := by
  refine Met.ofW (cc := cX6_averageAt) (maxL := 7) (ret := (some .int)) (by decide) rfl ?_
  intro p e s m args below meth c s₁ B hml hv
  obtain ⟨rfl, hP, hK⟩ := hv
  have hx := B.exec
  have hb := B.bytes
  have hr := B.returns
  have hts := atoms_spec (ws := wsX6_averageAt) B.pre
  have hown : s.vm.findClass RX6 = some m.cls := findClass_of_methodNamed B.named
  have hlocks := B.notSynchronized
  have hl := lv_entry ([.ref (q 0), .int p1, .int p2, .int p3]) (n := 7) (Nat.le_of_ble_eq_true rfl)
  rw [lg_entry_eq]
  generalize (lg_sl ([.ref (q 0), .int p1, .int p2, .int p3]) ++ List.replicate (7 - (lg_sl ([.ref (q 0), .int p1, .int p2, .int p3])).length) Slot.unset).toArray = ls at hl ⊢
  have hl : lv_has ls 7 [(0, .ref (q 0)), (1, .int p1), (2, .int p2), (3, .int p3)] := hl
  unfold wpX6_averageAt at h
  refine lv_iconst (v := 0) hx hb dX6_averageAt_0 (by decide) ?_
  refine lv_istore (lv' := [(4, .int 0), (0, .ref (q 0)), (1, .int p1), (2, .int p2), (3, .int p3)]) hx hb dX6_averageAt_1 hl (by decide) rfl (fun ls hl => ?_)
  refine lv_iload_n hx hb dX6_averageAt_3 rfl (lv_at hl 3 rfl) ?_
  refine lv_bipush (v := 6) hx hb dX6_averageAt_4 (by decide) ?_
  refine lv_isub hx hb dX6_averageAt_6 ?_
  refine lv_istore (lv' := [(5, .int (p2 - 6)), (4, .int 0), (0, .ref (q 0)), (1, .int p1), (2, .int p2), (3, .int p3)]) hx hb dX6_averageAt_7 hl (by decide) rfl (fun ls hl => ?_)
  have hL9 : ∀ (K9 : Int32 → Int32 → Prop) (hX : ∀ (x5_9 : Int32) (x4_9 : Int32), K9 x5_9 x4_9 → ∀ ls : Array Slot, lv_has ls 7 [(5, .int x5_9), (4, .int x4_9), (0, .ref (q 0)), (1, .int p1), (2, .int p2), (3, .int p3)] → W p l e (headSpec wsX6_averageAt ({ frames := 2, cells := 0, slots := 0, locals := 51 } : Room)).room s m ([.ref (q 0), .int p1, .int p2, .int p3] : List Value).toArray below meth c s.heap [] 0 0 (MQ below (vp_Si post) ([.ref (q 0), .int p1, .int p2, .int p3] : List Value).toArray s 0 0 (fun _ => False)) (F0 m 55 ls [])) (n : Nat) (x5_9 : Int32) (x4_9 : Int32), wpX6_averageAt_L9 w p1 p2 p3 post K9 n x5_9 x4_9 → ∀ ls : Array Slot, lv_has ls 7 [(5, .int x5_9), (4, .int x4_9), (0, .ref (q 0)), (1, .int p1), (2, .int p2), (3, .int p3)] → W p l e (headSpec wsX6_averageAt ({ frames := 2, cells := 0, slots := 0, locals := 51 } : Room)).room s m ([.ref (q 0), .int p1, .int p2, .int p3] : List Value).toArray below meth c s.heap [] 0 0 (MQ below (vp_Si post) ([.ref (q 0), .int p1, .int p2, .int p3] : List Value).toArray s 0 0 (fun _ => False)) (F0 m 9 ls []) := by
    intro K9 hX n
    induction n with
    | zero => intro x5_9 x4_9 h; exact False.elim h
    | succ n ih =>
      intro x5_9 x4_9 h ls hl
      rw [wpX6_averageAt_L9] at h
      refine lv_iload hx hb dX6_averageAt_9 (lv_at hl 0 rfl) ?_
      refine lv_iload_n hx hb dX6_averageAt_11 rfl (lv_at hl 4 rfl) ?_
      refine lv_icmp_ge (tgt := 55) hx hb dX6_averageAt_12 (by decide) (fun c1 => ?_) (fun c1 => ?_)
      · replace h := h.1 c1
        exact hX x5_9 x4_9 h ls (lv_sub hl [0, 1, 2, 3, 4, 5] rfl)
      · replace h := h.2 c1
        refine lv_iload hx hb dX6_averageAt_15 (lv_at hl 0 rfl) ?_
        refine lv_if_ge (tgt := 24) hx hb dX6_averageAt_17 (by decide) (fun c2 => ?_) (fun c2 => ?_)
        · replace h := h.1 c2
          refine lv_aload_n hx hb dX6_averageAt_24 rfl (lv_at hl 2 rfl) ?_
          refine lv_iload_n hx hb dX6_averageAt_25 rfl (lv_at hl 3 rfl) ?_
          refine lv_iload hx hb dX6_averageAt_26 (lv_at hl 0 rfl) ?_
          refine lv_iload_n hx hb dX6_averageAt_28 rfl (lv_at hl 5 rfl) ?_
          refine vp_callSi (W.runV (C := RX6) (As := [.int p1, .int x5_9, .int p3]) (rest := []) ⟨hx, hb, hml, hown, hts⟩ (cX6_weeklyAt_ok l D cI cII q w p1 x5_9 p3 _ h) (cwV 3 hts gX6_averageAt_X6_weeklyAt rfl rfl rfl (by decide +kernel) ⟨Nat.le_of_ble_eq_true rfl, Nat.le_of_ble_eq_true rfl⟩) (z_preV hK hP rfl rfl) rfl rfl hl.1 rfl (lv_room (Nat.le_of_ble_eq_true rfl)) dX6_averageAt_29 ⟨Nat.le_of_ble_eq_true rfl, Nat.le_of_ble_eq_true rfl⟩) (fun r3 h => ?_)
          refine lv_istore (lv' := [(6, .int r3), (5, .int x5_9), (4, .int x4_9), (0, .ref (q 0)), (1, .int p1), (2, .int p2), (3, .int p3)]) hx hb dX6_averageAt_32 hl (by decide) rfl (fun ls hl => ?_)
          refine lv_iload hx hb dX6_averageAt_34 (lv_at hl 0 rfl) ?_
          refine lv_iconst (v := (-1)) hx hb dX6_averageAt_36 (by decide) ?_
          refine lv_icmp_ne (tgt := 42) hx hb dX6_averageAt_37 (by decide) (fun c4 => ?_) (fun c4 => ?_)
          · replace h := h.1 c4
            refine lv_iload hx hb dX6_averageAt_42 (lv_at hl 2 rfl) ?_
            refine lv_iload hx hb dX6_averageAt_44 (lv_at hl 0 rfl) ?_
            refine lv_iadd hx hb dX6_averageAt_46 ?_
            refine lv_istore (lv' := [(4, .int (x4_9 + r3)), (6, .int r3), (5, .int x5_9), (0, .ref (q 0)), (1, .int p1), (2, .int p2), (3, .int p3)]) hx hb dX6_averageAt_47 hl (by decide) rfl (fun ls hl => ?_)
            refine lv_iinc (v := (x5_9 + 1)) (lv' := [(5, .int (x5_9 + 1)), (4, .int (x4_9 + r3)), (6, .int r3), (0, .ref (q 0)), (1, .int p1), (2, .int p2), (3, .int p3)]) hx hb dX6_averageAt_49 hl (k := 2) rfl rfl (by decide) rfl (fun ls hl => ?_)
            refine lv_goto (tgt := 9) hx hb dX6_averageAt_52 (by decide) ?_
            exact ih (x5_9 + 1) (x4_9 + r3) h ls (lv_sub hl [0, 1, 3, 4, 5, 6] rfl)
          · replace h := h.2 c4
            refine lv_iconst (v := (-1)) hx hb dX6_averageAt_40 (by decide) ?_
            exact W.iret (v := (-1)) hx hb hr (fun t ht hW => ⟨(-1), rfl, h, ht⟩) (fun _ h9 => by cases h9) dX6_averageAt_41
        · replace h := h.2 c2
          refine lv_iconst (v := (-1)) hx hb dX6_averageAt_20 (by decide) ?_
          refine lv_goto (tgt := 32) hx hb dX6_averageAt_21 (by decide) ?_
          refine lv_istore (lv' := [(6, .int (-1)), (5, .int x5_9), (4, .int x4_9), (0, .ref (q 0)), (1, .int p1), (2, .int p2), (3, .int p3)]) hx hb dX6_averageAt_32 hl (by decide) rfl (fun ls hl => ?_)
          refine lv_iload hx hb dX6_averageAt_34 (lv_at hl 0 rfl) ?_
          refine lv_iconst (v := (-1)) hx hb dX6_averageAt_36 (by decide) ?_
          refine lv_icmp_ne (tgt := 42) hx hb dX6_averageAt_37 (by decide) (fun c5 => ?_) (fun c5 => ?_)
          · replace h := h.1 c5
            refine lv_iload hx hb dX6_averageAt_42 (lv_at hl 2 rfl) ?_
            refine lv_iload hx hb dX6_averageAt_44 (lv_at hl 0 rfl) ?_
            refine lv_iadd hx hb dX6_averageAt_46 ?_
            refine lv_istore (lv' := [(4, .int (x4_9 + (-1))), (6, .int (-1)), (5, .int x5_9), (0, .ref (q 0)), (1, .int p1), (2, .int p2), (3, .int p3)]) hx hb dX6_averageAt_47 hl (by decide) rfl (fun ls hl => ?_)
            refine lv_iinc (v := (x5_9 + 1)) (lv' := [(5, .int (x5_9 + 1)), (4, .int (x4_9 + (-1))), (6, .int (-1)), (0, .ref (q 0)), (1, .int p1), (2, .int p2), (3, .int p3)]) hx hb dX6_averageAt_49 hl (k := 2) rfl rfl (by decide) rfl (fun ls hl => ?_)
            refine lv_goto (tgt := 9) hx hb dX6_averageAt_52 (by decide) ?_
            exact ih (x5_9 + 1) (x4_9 + (-1)) h ls (lv_sub hl [0, 1, 3, 4, 5, 6] rfl)
          · replace h := h.2 c5
            refine lv_iconst (v := (-1)) hx hb dX6_averageAt_40 (by decide) ?_
            exact W.iret (v := (-1)) hx hb hr (fun t ht hW => ⟨(-1), rfl, h, ht⟩) (fun _ h9 => by cases h9) dX6_averageAt_41
  obtain ⟨n, h⟩ := h
  refine hL9 _ (fun x5_9 x4_9 h ls hl => ?_) n (p2 - 6) 0 h ls hl
  refine lv_iload hx hb dX6_averageAt_55 (lv_at hl 1 rfl) ?_
  refine lv_bipush (v := 6) hx hb dX6_averageAt_57 (by decide) ?_
  refine lv_idiv hx hb dX6_averageAt_59 (by decide) ?_
  exact W.iret (v := (x4_9 / 6)) hx hb hr (fun t ht hW => ⟨(x4_9 / 6), rfl, h, ht⟩) (fun _ h9 => by cases h9) dX6_averageAt_60

/-! X6_average -/
set_option maxHeartbeats 4000000 in
set_option maxRecDepth 100000 in
theorem cX6_average_ok (l : Launch) (D : va_G) (cI cII : ClassId) (q : Nat → Nat) (w : MS) (p1 : Int32) (p2 : Int32) (post : Int32 → Prop) (h : wpX6_average w p1 p2 post) : Met l yX6_average wsX6_average ({ frames := 3, cells := 0, slots := 0, locals := 77 } : Room) (zPc [.ref (q 0), .int p1, .int p2] D cI cII (wM cI q w)) (vp_Si post) 0 0 (fun _ => False) := by
  refine Met.ofW (cc := cX6_average) (maxL := 3) (ret := (some .int)) (by decide) rfl ?_
  intro p e s m args below meth c s₁ B hml hv
  obtain ⟨rfl, hP, hK⟩ := hv
  have hx := B.exec
  have hb := B.bytes
  have hr := B.returns
  have hts := atoms_spec (ws := wsX6_average) B.pre
  have hown : s.vm.findClass RX6 = some m.cls := findClass_of_methodNamed B.named
  have hlocks := B.notSynchronized
  have hl := lv_entry ([.ref (q 0), .int p1, .int p2]) (n := 3) (Nat.le_of_ble_eq_true rfl)
  rw [lg_entry_eq]
  generalize (lg_sl ([.ref (q 0), .int p1, .int p2]) ++ List.replicate (3 - (lg_sl ([.ref (q 0), .int p1, .int p2])).length) Slot.unset).toArray = ls at hl ⊢
  have hl : lv_has ls 3 [(0, .ref (q 0)), (1, .int p1), (2, .int p2)] := hl
  unfold wpX6_average at h
  refine lv_iload_n hx hb dX6_average_0 rfl (lv_at hl 1 rfl) ?_
  refine vp_callSi (W.runS (As := [.int p1]) (rest := []) ⟨hx, hb, hml, hown, hts⟩ (cX6_isGrain_ok l p1 _ h) (va_cwS 1 hts gX6_average_X6_isGrain rfl rfl rfl (by decide +kernel) ⟨Nat.le_of_ble_eq_true rfl, Nat.le_of_ble_eq_true rfl⟩) z_preS rfl rfl hl.1 rfl (lv_room (Nat.le_of_ble_eq_true rfl)) dX6_average_1 ⟨Nat.le_of_ble_eq_true rfl, Nat.le_of_ble_eq_true rfl⟩) (fun r1 h => ?_)
  refine lv_if_eq (tgt := 28) hx hb dX6_average_4 (by decide) (fun c2 => ?_) (fun c2 => ?_)
  · replace h := h.1 c2
    refine lv_bipush (v := (-2)) hx hb dX6_average_28 (by decide) ?_
    exact W.iret (v := (-2)) hx hb hr (fun t ht hW => ⟨(-2), rfl, h, ht⟩) (fun _ h9 => by cases h9) dX6_average_30
  · replace h := h.2 c2
    refine lv_iload_n hx hb dX6_average_7 rfl (lv_at hl 2 rfl) ?_
    refine lv_iconst (v := 0) hx hb dX6_average_8 (by decide) ?_
    refine lv_sipush (v := 220) hx hb dX6_average_9 (by decide) ?_
    refine vp_callSi (W.runS (As := [.int p2, .int 0, .int 220]) (rest := []) ⟨hx, hb, hml, hown, hts⟩ (cX6_in_ok l p2 0 220 _ h) (va_cwS 3 hts gX6_average_X6_in rfl rfl rfl (by decide +kernel) ⟨Nat.le_of_ble_eq_true rfl, Nat.le_of_ble_eq_true rfl⟩) z_preS rfl rfl hl.1 rfl (lv_room (Nat.le_of_ble_eq_true rfl)) dX6_average_12 ⟨Nat.le_of_ble_eq_true rfl, Nat.le_of_ble_eq_true rfl⟩) (fun r3 h => ?_)
    refine lv_if_eq (tgt := 28) hx hb dX6_average_15 (by decide) (fun c4 => ?_) (fun c4 => ?_)
    · replace h := h.1 c4
      refine lv_bipush (v := (-2)) hx hb dX6_average_28 (by decide) ?_
      exact W.iret (v := (-2)) hx hb hr (fun t ht hW => ⟨(-2), rfl, h, ht⟩) (fun _ h9 => by cases h9) dX6_average_30
    · replace h := h.2 c4
      refine lv_aload_n hx hb dX6_average_18 rfl (lv_at hl 0 rfl) ?_
      refine lv_iload_n hx hb dX6_average_19 rfl (lv_at hl 1 rfl) ?_
      refine lv_iload_n hx hb dX6_average_20 rfl (lv_at hl 2 rfl) ?_
      refine lv_iload_n hx hb dX6_average_21 rfl (lv_at hl 2 rfl) ?_
      refine vp_callSi (W.runV (C := RX6) (As := [.int p1, .int p2, .int p2]) (rest := []) ⟨hx, hb, hml, hown, hts⟩ (cX6_averageAt_ok l D cI cII q w p1 p2 p2 _ h) (cwV 3 hts gX6_average_X6_averageAt rfl rfl rfl (by decide +kernel) ⟨Nat.le_of_ble_eq_true rfl, Nat.le_of_ble_eq_true rfl⟩) (z_preV hK hP rfl rfl) rfl rfl hl.1 rfl (lv_room (Nat.le_of_ble_eq_true rfl)) dX6_average_22 ⟨Nat.le_of_ble_eq_true rfl, Nat.le_of_ble_eq_true rfl⟩) (fun r5 h => ?_)
      refine lv_goto (tgt := 30) hx hb dX6_average_25 (by decide) ?_
      exact W.iret (v := r5) hx hb hr (fun t ht hW => ⟨r5, rfl, h, ht⟩) (fun _ h9 => by cases h9) dX6_average_30

/-! X6_towns -/
set_option maxRecDepth 20000 in
theorem wdX6_towns_0 : Cond.fieldLink RX6 109 "CornLawsModel" "returns" "I" ∈ wsX6_towns := by decide +kernel
set_option maxRecDepth 20000 in
theorem wdX6_towns_1 : Cond.fieldLink RX6 16 "CornLawsModel" "forWeek" "[I" ∈ wsX6_towns := by decide +kernel
set_option maxRecDepth 20000 in
theorem wdX6_towns_2 : Cond.fieldLink RX6 7 "CornLawsModel" "town" "[I" ∈ wsX6_towns := by decide +kernel
set_option maxRecDepth 20000 in
theorem inX6_towns_6 : ∀ w ∈ wsX60, w ∈ wsX6_towns := by decide +kernel
set_option maxHeartbeats 4000000 in
set_option maxRecDepth 100000 in
theorem cX6_towns_ok (l : Launch) (D : va_G) (cI cII : ClassId) (q : Nat → Nat) (w : MS) (p1 : Int32) (p2 : Int32) (post : Int32 → Prop) (h : wpX6_towns w p1 p2 post) : Met l yX6_towns wsX6_towns ({ frames := 1, cells := 0, slots := 0, locals := 22 } : Room) (zPc [.ref (q 0), .int p1, .int p2] D cI cII (wM cI q w)) (vp_Si post) 0 0 (fun _ => False) := by
  refine Met.ofW (cc := cX6_towns) (maxL := 6) (ret := (some .int)) (by decide) rfl ?_
  intro p e s m args below meth c s₁ B hml hv
  obtain ⟨rfl, hP, hK⟩ := hv
  have hx := B.exec
  have hb := B.bytes
  have hr := B.returns
  have hts := atoms_spec (ws := wsX6_towns) B.pre
  have hown : s.vm.findClass RX6 = some m.cls := findClass_of_methodNamed B.named
  have hlocks := B.notSynchronized
  have hl := lv_entry ([.ref (q 0), .int p1, .int p2]) (n := 6) (Nat.le_of_ble_eq_true rfl)
  rw [lg_entry_eq]
  generalize (lg_sl ([.ref (q 0), .int p1, .int p2]) ++ List.replicate (6 - (lg_sl ([.ref (q 0), .int p1, .int p2])).length) Slot.unset).toArray = ls at hl ⊢
  have hl : lv_has ls 6 [(0, .ref (q 0)), (1, .int p1), (2, .int p2)] := hl
  unfold wpX6_towns at h
  refine lv_iload_n hx hb dX6_towns_0 rfl (lv_at hl 1 rfl) ?_
  refine lv_iconst (v := 0) hx hb dX6_towns_1 (by decide) ?_
  refine lv_sipush (v := 200) hx hb dX6_towns_2 (by decide) ?_
  refine vp_callSi (W.runS (As := [.int p1, .int 0, .int 200]) (rest := []) ⟨hx, hb, hml, hown, hts⟩ (cX6_in_ok l p1 0 200 _ h) (va_cwS 3 hts gX6_towns_X6_in rfl rfl rfl (by decide +kernel) ⟨Nat.le_of_ble_eq_true rfl, Nat.le_of_ble_eq_true rfl⟩) z_preS rfl rfl hl.1 rfl (lv_room (Nat.le_of_ble_eq_true rfl)) dX6_towns_5 ⟨Nat.le_of_ble_eq_true rfl, Nat.le_of_ble_eq_true rfl⟩) (fun r1 h => ?_)
  refine lv_if_eq (tgt := 22) hx hb dX6_towns_8 (by decide) (fun c2 => ?_) (fun c2 => ?_)
  · replace h := h.1 c2
    refine lv_bipush (v := (-2)) hx hb dX6_towns_22 (by decide) ?_
    exact W.iret (v := (-2)) hx hb hr (fun t ht hW => ⟨(-2), rfl, h, ht⟩) (fun _ h9 => by cases h9) dX6_towns_24
  · replace h := h.2 c2
    refine lv_iload_n hx hb dX6_towns_11 rfl (lv_at hl 2 rfl) ?_
    refine lv_iconst (v := 0) hx hb dX6_towns_12 (by decide) ?_
    refine lv_sipush (v := 200) hx hb dX6_towns_13 (by decide) ?_
    refine vp_callSi (W.runS (As := [.int p2, .int 0, .int 200]) (rest := []) ⟨hx, hb, hml, hown, hts⟩ (cX6_in_ok l p2 0 200 _ h) (va_cwS 3 hts gX6_towns_X6_in rfl rfl rfl (by decide +kernel) ⟨Nat.le_of_ble_eq_true rfl, Nat.le_of_ble_eq_true rfl⟩) z_preS rfl rfl hl.1 rfl (lv_room (Nat.le_of_ble_eq_true rfl)) dX6_towns_16 ⟨Nat.le_of_ble_eq_true rfl, Nat.le_of_ble_eq_true rfl⟩) (fun r3 h => ?_)
    refine lv_if_ne (tgt := 25) hx hb dX6_towns_19 (by decide) (fun c4 => ?_) (fun c4 => ?_)
    · replace h := h.1 c4
      refine lv_iconst (v := 0) hx hb dX6_towns_25 (by decide) ?_
      refine lv_istore_n (lv' := [(3, .int 0), (0, .ref (q 0)), (1, .int p1), (2, .int p2)]) hx hb dX6_towns_26 rfl hl (by decide) rfl (fun ls hl => ?_)
      refine lv_iconst (v := 0) hx hb dX6_towns_27 (by decide) ?_
      refine lv_istore (lv' := [(4, .int 0), (3, .int 0), (0, .ref (q 0)), (1, .int p1), (2, .int p2)]) hx hb dX6_towns_28 hl (by decide) rfl (fun ls hl => ?_)
      have hL30 : ∀ (K30 : Int32 → Int32 → Prop) (hX : ∀ (x4_30 : Int32) (x3_30 : Int32), K30 x4_30 x3_30 → ∀ ls : Array Slot, lv_has ls 6 [(4, .int x4_30), (3, .int x3_30), (0, .ref (q 0)), (1, .int p1), (2, .int p2)] → W p l e (headSpec wsX6_towns ({ frames := 1, cells := 0, slots := 0, locals := 22 } : Room)).room s m ([.ref (q 0), .int p1, .int p2] : List Value).toArray below meth c s.heap [] 0 0 (MQ below (vp_Si post) ([.ref (q 0), .int p1, .int p2] : List Value).toArray s 0 0 (fun _ => False)) (F0 m 82 ls [])) (n : Nat) (x4_30 : Int32) (x3_30 : Int32), wpX6_towns_L30 w p1 p2 K30 n x4_30 x3_30 → ∀ ls : Array Slot, lv_has ls 6 [(4, .int x4_30), (3, .int x3_30), (0, .ref (q 0)), (1, .int p1), (2, .int p2)] → W p l e (headSpec wsX6_towns ({ frames := 1, cells := 0, slots := 0, locals := 22 } : Room)).room s m ([.ref (q 0), .int p1, .int p2] : List Value).toArray below meth c s.heap [] 0 0 (MQ below (vp_Si post) ([.ref (q 0), .int p1, .int p2] : List Value).toArray s 0 0 (fun _ => False)) (F0 m 30 ls []) := by
        intro K30 hX n
        induction n with
        | zero => intro x4_30 x3_30 h; exact False.elim h
        | succ n ih =>
          intro x4_30 x3_30 h ls hl
          rw [wpX6_towns_L30] at h
          refine lv_iload hx hb dX6_towns_30 (lv_at hl 0 rfl) ?_
          refine lv_aload_n hx hb dX6_towns_32 rfl (lv_at hl 2 rfl) ?_
          refine va_get (D := D) (ci := 6) (v := .int (w.2.1 1)) (C := RX6) (T := TX6) (N := 34) hx hb hts inX6_towns_6 hown hK hP 0 rfl rfl 1 (by decide) (hts (.fieldLink RX6 109 "CornLawsModel" "returns" "I") wdX6_towns_0) (fun _ h9 => h9) rfl dX6_towns_33 ?_
          refine lv_icmp_ge (tgt := 82) hx hb dX6_towns_36 (by decide) (fun c5 => ?_) (fun c5 => ?_)
          · replace h := h.1 c5
            exact hX x4_30 x3_30 h ls (lv_sub hl [0, 1, 2, 3, 4] rfl)
          · replace h := h.2 c5
            refine lv_iload_n hx hb dX6_towns_39 rfl (lv_at hl 1 rfl) ?_
            refine lv_aload_n hx hb dX6_towns_40 rfl (lv_at hl 2 rfl) ?_
            refine va_get (D := D) (ci := 6) (v := .ref (q 3)) (C := RX6) (T := TX6) (N := 34) hx hb hts inX6_towns_6 hown hK hP 0 rfl rfl 4 (by decide) (hts (.fieldLink RX6 16 "CornLawsModel" "forWeek" "[I") wdX6_towns_1) (fun _ h9 => h9) rfl dX6_towns_41 ?_
            refine lv_iload hx hb dX6_towns_44 (lv_at hl 0 rfl) ?_
            obtain ⟨hi6, h⟩ := h
            refine va_iald (f := w.1 2) hx hb hK hP 3 0 rfl rfl hi6 dX6_towns_46 ?_
            refine lv_iload_n hx hb dX6_towns_47 rfl (lv_at hl 3 rfl) ?_
            refine lv_icmp_ne (tgt := 73) hx hb dX6_towns_48 (by decide) (fun c7 => ?_) (fun c7 => ?_)
            · replace h := h.1 c7
              refine lv_iconst (v := 0) hx hb dX6_towns_73 (by decide) ?_
              refine lv_ior hx hb dX6_towns_74 ?_
              refine lv_istore_n (lv' := [(3, .int (x3_30 ||| 0)), (4, .int x4_30), (0, .ref (q 0)), (1, .int p1), (2, .int p2)]) hx hb dX6_towns_75 rfl hl (by decide) rfl (fun ls hl => ?_)
              refine lv_iinc (v := (x4_30 + 1)) (lv' := [(4, .int (x4_30 + 1)), (3, .int (x3_30 ||| 0)), (0, .ref (q 0)), (1, .int p1), (2, .int p2)]) hx hb dX6_towns_76 hl (k := 1) rfl rfl (by decide) rfl (fun ls hl => ?_)
              refine lv_goto (tgt := 30) hx hb dX6_towns_79 (by decide) ?_
              exact ih (x4_30 + 1) (x3_30 ||| 0) h ls (lv_sub hl [0, 1, 2, 3, 4] rfl)
            · replace h := h.2 c7
              refine lv_aload_n hx hb dX6_towns_51 rfl (lv_at hl 2 rfl) ?_
              refine lv_iload hx hb dX6_towns_52 (lv_at hl 0 rfl) ?_
              refine lv_iload_n hx hb dX6_towns_54 rfl (lv_at hl 4 rfl) ?_
              refine vp_callSi (W.runV (C := RX6) (As := [.int x4_30, .int p2]) (rest := [.int x3_30]) ⟨hx, hb, hml, hown, hts⟩ (cX6_isKnown_ok l D cI cII q w x4_30 p2 _ h) (cwV 2 hts gX6_towns_X6_isKnown rfl rfl rfl (by decide +kernel) ⟨Nat.le_of_ble_eq_true rfl, Nat.le_of_ble_eq_true rfl⟩) (z_preV hK hP rfl rfl) rfl rfl hl.1 rfl (lv_room (Nat.le_of_ble_eq_true rfl)) dX6_towns_55 ⟨Nat.le_of_ble_eq_true rfl, Nat.le_of_ble_eq_true rfl⟩) (fun r8 h => ?_)
              refine lv_if_eq (tgt := 73) hx hb dX6_towns_58 (by decide) (fun c9 => ?_) (fun c9 => ?_)
              · replace h := h.1 c9
                refine lv_iconst (v := 0) hx hb dX6_towns_73 (by decide) ?_
                refine lv_ior hx hb dX6_towns_74 ?_
                refine lv_istore_n (lv' := [(3, .int (x3_30 ||| 0)), (4, .int x4_30), (0, .ref (q 0)), (1, .int p1), (2, .int p2)]) hx hb dX6_towns_75 rfl hl (by decide) rfl (fun ls hl => ?_)
                refine lv_iinc (v := (x4_30 + 1)) (lv' := [(4, .int (x4_30 + 1)), (3, .int (x3_30 ||| 0)), (0, .ref (q 0)), (1, .int p1), (2, .int p2)]) hx hb dX6_towns_76 hl (k := 1) rfl rfl (by decide) rfl (fun ls hl => ?_)
                refine lv_goto (tgt := 30) hx hb dX6_towns_79 (by decide) ?_
                exact ih (x4_30 + 1) (x3_30 ||| 0) h ls (lv_sub hl [0, 1, 2, 3, 4] rfl)
              · replace h := h.2 c9
                refine lv_iconst (v := 1) hx hb dX6_towns_61 (by decide) ?_
                refine lv_aload_n hx hb dX6_towns_62 rfl (lv_at hl 2 rfl) ?_
                refine va_get (D := D) (ci := 6) (v := .ref (q 1)) (C := RX6) (T := TX6) (N := 34) hx hb hts inX6_towns_6 hown hK hP 0 rfl rfl 2 (by decide) (hts (.fieldLink RX6 7 "CornLawsModel" "town" "[I") wdX6_towns_2) (fun _ h9 => h9) rfl dX6_towns_63 ?_
                refine lv_iload hx hb dX6_towns_66 (lv_at hl 0 rfl) ?_
                refine va_iald (f := w.1 0) hx hb hK hP 1 0 rfl rfl hi6 dX6_towns_68 ?_
                refine lv_ishl hx hb dX6_towns_69 ?_
                refine lv_goto (tgt := 74) hx hb dX6_towns_70 (by decide) ?_
                refine lv_ior hx hb dX6_towns_74 ?_
                refine lv_istore_n (lv' := [(3, .int (x3_30 ||| (1 <<< ((w.1 0 x4_30.toNatClampNeg) &&& 31)))), (4, .int x4_30), (0, .ref (q 0)), (1, .int p1), (2, .int p2)]) hx hb dX6_towns_75 rfl hl (by decide) rfl (fun ls hl => ?_)
                refine lv_iinc (v := (x4_30 + 1)) (lv' := [(4, .int (x4_30 + 1)), (3, .int (x3_30 ||| (1 <<< ((w.1 0 x4_30.toNatClampNeg) &&& 31)))), (0, .ref (q 0)), (1, .int p1), (2, .int p2)]) hx hb dX6_towns_76 hl (k := 1) rfl rfl (by decide) rfl (fun ls hl => ?_)
                refine lv_goto (tgt := 30) hx hb dX6_towns_79 (by decide) ?_
                exact ih (x4_30 + 1) (x3_30 ||| (1 <<< ((w.1 0 x4_30.toNatClampNeg) &&& 31))) h ls (lv_sub hl [0, 1, 2, 3, 4] rfl)
      obtain ⟨n, h⟩ := h
      refine hL30 _ (fun x4_30 x3_30 h ls hl => ?_) n 0 0 h ls hl
      refine lv_iconst (v := 0) hx hb dX6_towns_82 (by decide) ?_
      refine lv_istore (lv' := [(4, .int 0), (3, .int x3_30), (0, .ref (q 0)), (1, .int p1), (2, .int p2)]) hx hb dX6_towns_83 hl (by decide) rfl (fun ls hl => ?_)
      refine lv_iconst (v := 0) hx hb dX6_towns_85 (by decide) ?_
      refine lv_istore (lv' := [(5, .int 0), (4, .int 0), (3, .int x3_30), (0, .ref (q 0)), (1, .int p1), (2, .int p2)]) hx hb dX6_towns_86 hl (by decide) rfl (fun ls hl => ?_)
      have hL88 : ∀ (K88 : Int32 → Int32 → Prop) (hX : ∀ (x5_88 : Int32) (x4_88 : Int32), K88 x5_88 x4_88 → ∀ ls : Array Slot, lv_has ls 6 [(5, .int x5_88), (4, .int x4_88), (3, .int x3_30), (0, .ref (q 0)), (1, .int p1), (2, .int p2)] → W p l e (headSpec wsX6_towns ({ frames := 1, cells := 0, slots := 0, locals := 22 } : Room)).room s m ([.ref (q 0), .int p1, .int p2] : List Value).toArray below meth c s.heap [] 0 0 (MQ below (vp_Si post) ([.ref (q 0), .int p1, .int p2] : List Value).toArray s 0 0 (fun _ => False)) (F0 m 112 ls [])) (n : Nat) (x5_88 : Int32) (x4_88 : Int32), wpX6_towns_L88 x3_30 K88 n x5_88 x4_88 → ∀ ls : Array Slot, lv_has ls 6 [(5, .int x5_88), (4, .int x4_88), (3, .int x3_30), (0, .ref (q 0)), (1, .int p1), (2, .int p2)] → W p l e (headSpec wsX6_towns ({ frames := 1, cells := 0, slots := 0, locals := 22 } : Room)).room s m ([.ref (q 0), .int p1, .int p2] : List Value).toArray below meth c s.heap [] 0 0 (MQ below (vp_Si post) ([.ref (q 0), .int p1, .int p2] : List Value).toArray s 0 0 (fun _ => False)) (F0 m 88 ls []) := by
        intro K88 hX n
        induction n with
        | zero => intro x5_88 x4_88 h; exact False.elim h
        | succ n ih =>
          intro x5_88 x4_88 h ls hl
          rw [wpX6_towns_L88] at h
          refine lv_iload hx hb dX6_towns_88 (lv_at hl 0 rfl) ?_
          refine lv_bipush (v := 10) hx hb dX6_towns_90 (by decide) ?_
          refine lv_icmp_ge (tgt := 112) hx hb dX6_towns_92 (by decide) (fun c10 => ?_) (fun c10 => ?_)
          · replace h := h.1 c10
            exact hX x5_88 x4_88 h ls (lv_sub hl [0, 1, 2, 3, 4, 5] rfl)
          · replace h := h.2 c10
            refine lv_iload hx hb dX6_towns_95 (lv_at hl 1 rfl) ?_
            refine lv_iload_n hx hb dX6_towns_97 rfl (lv_at hl 2 rfl) ?_
            refine lv_iload hx hb dX6_towns_98 (lv_at hl 0 rfl) ?_
            refine lv_ishr hx hb dX6_towns_100 ?_
            refine lv_iconst (v := 1) hx hb dX6_towns_101 (by decide) ?_
            refine lv_iand hx hb dX6_towns_102 ?_
            refine lv_iadd hx hb dX6_towns_103 ?_
            refine lv_istore (lv' := [(4, .int (x4_88 + ((x3_30 >>> (x5_88 &&& 31)) &&& 1))), (5, .int x5_88), (3, .int x3_30), (0, .ref (q 0)), (1, .int p1), (2, .int p2)]) hx hb dX6_towns_104 hl (by decide) rfl (fun ls hl => ?_)
            refine lv_iinc (v := (x5_88 + 1)) (lv' := [(5, .int (x5_88 + 1)), (4, .int (x4_88 + ((x3_30 >>> (x5_88 &&& 31)) &&& 1))), (3, .int x3_30), (0, .ref (q 0)), (1, .int p1), (2, .int p2)]) hx hb dX6_towns_106 hl (k := 1) rfl rfl (by decide) rfl (fun ls hl => ?_)
            refine lv_goto (tgt := 88) hx hb dX6_towns_109 (by decide) ?_
            exact ih (x5_88 + 1) (x4_88 + ((x3_30 >>> (x5_88 &&& 31)) &&& 1)) h ls (lv_sub hl [0, 1, 2, 3, 4, 5] rfl)
      obtain ⟨n, h⟩ := h
      refine hL88 _ (fun x5_88 x4_88 h ls hl => ?_) n 0 0 h ls hl
      refine lv_iload hx hb dX6_towns_112 (lv_at hl 1 rfl) ?_
      exact W.iret (v := x4_88) hx hb hr (fun t ht hW => ⟨x4_88, rfl, h, ht⟩) (fun _ h9 => by cases h9) dX6_towns_114
    · replace h := h.2 c4
      refine lv_bipush (v := (-2)) hx hb dX6_towns_22 (by decide) ?_
      exact W.iret (v := (-2)) hx hb hr (fun t ht hW => ⟨(-2), rfl, h, ht⟩) (fun _ h9 => by cases h9) dX6_towns_24
