/-! X1_hangs -/
set_option maxRecDepth 20000 in
theorem wdX1_hangs_0 : Cond.fieldLink RX1 18 "CornLaws$Hangings" "low" "[I" ∈ wsX1_hangs := by decide +kernel
set_option maxRecDepth 20000 in
theorem inX1_hangs_1 : ∀ w ∈ wsX10, w ∈ wsX1_hangs := by decide +kernel
set_option maxHeartbeats 4000000 in
set_option maxRecDepth 100000 in
theorem cX1_hangs_ok (l : Launch) (D : va_G) (cI cII : ClassId) (q : Nat → Nat) (a : RS) (p1 : Int32) (post : Int32 → Prop) (h : wpX1_hangs a p1 post) : Met l yX1_hangs wsX1_hangs ({ frames := 0, cells := 0, slots := 0, locals := 0 } : Room) (zPc [.ref (q 0), .int p1] D cI cII (wH cI q a)) (vp_Si post) 0 0 (fun _ => False) := by
  refine Met.ofW (cc := cX1_hangs) (maxL := 2) (ret := (some .boolean)) (by decide) rfl ?_
  intro p e s m args below meth c s₁ B hml hv
  obtain ⟨rfl, hP, hK⟩ := hv
  have hx := B.exec
  have hb := B.bytes
  have hr := B.returns
  have hts := atoms_spec (ws := wsX1_hangs) B.pre
  have hown : s.vm.findClass RX1 = some m.cls := findClass_of_methodNamed B.named
  have hlocks := B.notSynchronized
  have hl := lv_entry ([.ref (q 0), .int p1]) (n := 2) (Nat.le_of_ble_eq_true rfl)
  rw [lg_entry_eq]
  generalize (lg_sl ([.ref (q 0), .int p1]) ++ List.replicate (2 - (lg_sl ([.ref (q 0), .int p1])).length) Slot.unset).toArray = ls at hl ⊢
  have hl : lv_has ls 2 [(0, .ref (q 0)), (1, .int p1)] := hl
  unfold wpX1_hangs at h
  refine lv_aload_n hx hb dX1_hangs_0 rfl (lv_at hl 0 rfl) ?_
  refine va_get (D := D) (ci := 1) (v := .ref (q 3)) (C := RX1) (T := TX1) (N := 3) hx hb hts inX1_hangs_1 hown hK hP 0 rfl rfl 2 (by decide) (hts (.fieldLink RX1 18 "CornLaws$Hangings" "low" "[I") wdX1_hangs_0) (fun _ h9 => h9) rfl dX1_hangs_1 ?_
  refine lv_iload_n hx hb dX1_hangs_4 rfl (lv_at hl 1 rfl) ?_
  obtain ⟨hi1, h⟩ := h
  refine va_iald (f := a 2) hx hb hK hP 3 0 rfl rfl hi1 dX1_hangs_5 ?_
  refine lv_if_le (tgt := 13) hx hb dX1_hangs_6 (by decide) (fun c2 => ?_) (fun c2 => ?_)
  · replace h := h.1 c2
    refine lv_iconst (v := 0) hx hb dX1_hangs_13 (by decide) ?_
    exact W.zret (v := 0) (ty := .boolean) hx hb hr (by decide) (fun t ht hW => ⟨0, rfl, h, ht⟩) (fun _ h9 => by cases h9) dX1_hangs_14
  · replace h := h.2 c2
    refine lv_iconst (v := 1) hx hb dX1_hangs_9 (by decide) ?_
    refine lv_goto (tgt := 14) hx hb dX1_hangs_10 (by decide) ?_
    exact W.zret (v := 1) (ty := .boolean) hx hb hr (by decide) (fun t ht hW => ⟨1, rfl, h, ht⟩) (fun _ h9 => by cases h9) dX1_hangs_14

/-! X1_bearsOne -/
set_option maxRecDepth 20000 in
theorem wdX1_bearsOne_0 : Cond.fieldLink RX1 9 "CornLaws$Hangings" "on" "[I" ∈ wsX1_bearsOne := by decide +kernel
set_option maxRecDepth 20000 in
theorem inX1_bearsOne_1 : ∀ w ∈ wsX10, w ∈ wsX1_bearsOne := by decide +kernel
set_option maxHeartbeats 4000000 in
set_option maxRecDepth 100000 in
theorem cX1_bearsOne_ok (l : Launch) (D : va_G) (cI cII : ClassId) (q : Nat → Nat) (a : RS) (p1 : Int32) (post : Int32 → Prop) (h : wpX1_bearsOne a p1 post) : Met l yX1_bearsOne wsX1_bearsOne ({ frames := 1, cells := 0, slots := 0, locals := 21 } : Room) (zPc [.ref (q 0), .int p1] D cI cII (wH cI q a)) (vp_Si post) 0 0 (fun _ => False) := by
  refine Met.ofW (cc := cX1_bearsOne) (maxL := 3) (ret := (some .boolean)) (by decide) rfl ?_
  intro p e s m args below meth c s₁ B hml hv
  obtain ⟨rfl, hP, hK⟩ := hv
  have hx := B.exec
  have hb := B.bytes
  have hr := B.returns
  have hts := atoms_spec (ws := wsX1_bearsOne) B.pre
  have hown : s.vm.findClass RX1 = some m.cls := findClass_of_methodNamed B.named
  have hlocks := B.notSynchronized
  have hl := lv_entry ([.ref (q 0), .int p1]) (n := 3) (Nat.le_of_ble_eq_true rfl)
  rw [lg_entry_eq]
  generalize (lg_sl ([.ref (q 0), .int p1]) ++ List.replicate (3 - (lg_sl ([.ref (q 0), .int p1])).length) Slot.unset).toArray = ls at hl ⊢
  have hl : lv_has ls 3 [(0, .ref (q 0)), (1, .int p1)] := hl
  unfold wpX1_bearsOne at h
  refine lv_iconst (v := 0) hx hb dX1_bearsOne_0 (by decide) ?_
  refine lv_istore_n (lv' := [(2, .int 0), (0, .ref (q 0)), (1, .int p1)]) hx hb dX1_bearsOne_1 rfl hl (by decide) rfl (fun ls hl => ?_)
  have hL2 : ∀ (K2 : Int32 → Prop) (hX : ∀ (x2_2 : Int32), K2 x2_2 → ∀ ls : Array Slot, lv_has ls 3 [(2, .int x2_2), (0, .ref (q 0)), (1, .int p1)] → W p l e (headSpec wsX1_bearsOne ({ frames := 1, cells := 0, slots := 0, locals := 21 } : Room)).room s m ([.ref (q 0), .int p1] : List Value).toArray below meth c s.heap [] 0 0 (MQ below (vp_Si post) ([.ref (q 0), .int p1] : List Value).toArray s 0 0 (fun _ => False)) (F0 m 33 ls [])) (n : Nat) (x2_2 : Int32), wpX1_bearsOne_L2 a p1 post K2 n x2_2 → ∀ ls : Array Slot, lv_has ls 3 [(2, .int x2_2), (0, .ref (q 0)), (1, .int p1)] → W p l e (headSpec wsX1_bearsOne ({ frames := 1, cells := 0, slots := 0, locals := 21 } : Room)).room s m ([.ref (q 0), .int p1] : List Value).toArray below meth c s.heap [] 0 0 (MQ below (vp_Si post) ([.ref (q 0), .int p1] : List Value).toArray s 0 0 (fun _ => False)) (F0 m 2 ls []) := by
    intro K2 hX n
    induction n with
    | zero => intro x2_2 h; exact False.elim h
    | succ n ih =>
      intro x2_2 h ls hl
      rw [wpX1_bearsOne_L2] at h
      refine lv_iload_n hx hb dX1_bearsOne_2 rfl (lv_at hl 0 rfl) ?_
      refine lv_iconst (v := 3) hx hb dX1_bearsOne_3 (by decide) ?_
      refine lv_icmp_ge (tgt := 33) hx hb dX1_bearsOne_4 (by decide) (fun c1 => ?_) (fun c1 => ?_)
      · replace h := h.1 c1
        exact hX x2_2 h ls (lv_sub hl [0, 1, 2] rfl)
      · replace h := h.2 c1
        refine lv_aload_n hx hb dX1_bearsOne_7 rfl (lv_at hl 1 rfl) ?_
        refine lv_iload_n hx hb dX1_bearsOne_8 rfl (lv_at hl 0 rfl) ?_
        refine vp_callSi (W.runV (C := RX1) (As := [.int x2_2]) (rest := []) ⟨hx, hb, hml, hown, hts⟩ (cX1_hangs_ok l D cI cII q a x2_2 _ h) (cwV 1 hts gX1_bearsOne_X1_hangs rfl rfl rfl (by decide +kernel) ⟨Nat.le_of_ble_eq_true rfl, Nat.le_of_ble_eq_true rfl⟩) (z_preV hK hP rfl rfl) rfl rfl hl.1 rfl (lv_room (Nat.le_of_ble_eq_true rfl)) dX1_bearsOne_9 ⟨Nat.le_of_ble_eq_true rfl, Nat.le_of_ble_eq_true rfl⟩) (fun r2 h => ?_)
        refine lv_if_eq (tgt := 27) hx hb dX1_bearsOne_12 (by decide) (fun c3 => ?_) (fun c3 => ?_)
        · replace h := h.1 c3
          refine lv_iinc (v := (x2_2 + 1)) (lv' := [(2, .int (x2_2 + 1)), (0, .ref (q 0)), (1, .int p1)]) hx hb dX1_bearsOne_27 hl (k := 0) rfl rfl (by decide) rfl (fun ls hl => ?_)
          refine lv_goto (tgt := 2) hx hb dX1_bearsOne_30 (by decide) ?_
          exact ih (x2_2 + 1) h ls (lv_sub hl [0, 1, 2] rfl)
        · replace h := h.2 c3
          refine lv_aload_n hx hb dX1_bearsOne_15 rfl (lv_at hl 1 rfl) ?_
          refine va_get (D := D) (ci := 1) (v := .ref (q 1)) (C := RX1) (T := TX1) (N := 3) hx hb hts inX1_bearsOne_1 hown hK hP 0 rfl rfl 0 (by decide) (hts (.fieldLink RX1 9 "CornLaws$Hangings" "on" "[I") wdX1_bearsOne_0) (fun _ h9 => h9) rfl dX1_bearsOne_16 ?_
          refine lv_iload_n hx hb dX1_bearsOne_19 rfl (lv_at hl 0 rfl) ?_
          obtain ⟨hi4, h⟩ := h
          refine va_iald (f := a 0) hx hb hK hP 1 0 rfl rfl hi4 dX1_bearsOne_20 ?_
          refine lv_iload_n hx hb dX1_bearsOne_21 rfl (lv_at hl 2 rfl) ?_
          refine lv_icmp_ne (tgt := 27) hx hb dX1_bearsOne_22 (by decide) (fun c5 => ?_) (fun c5 => ?_)
          · replace h := h.1 c5
            refine lv_iinc (v := (x2_2 + 1)) (lv' := [(2, .int (x2_2 + 1)), (0, .ref (q 0)), (1, .int p1)]) hx hb dX1_bearsOne_27 hl (k := 0) rfl rfl (by decide) rfl (fun ls hl => ?_)
            refine lv_goto (tgt := 2) hx hb dX1_bearsOne_30 (by decide) ?_
            exact ih (x2_2 + 1) h ls (lv_sub hl [0, 1, 2] rfl)
          · replace h := h.2 c5
            refine lv_iconst (v := 1) hx hb dX1_bearsOne_25 (by decide) ?_
            exact W.zret (v := 1) (ty := .boolean) hx hb hr (by decide) (fun t ht hW => ⟨1, rfl, h, ht⟩) (fun _ h9 => by cases h9) dX1_bearsOne_26
  obtain ⟨n, h⟩ := h
  refine hL2 _ (fun x2_2 h ls hl => ?_) n 0 h ls hl
  refine lv_iconst (v := 0) hx hb dX1_bearsOne_33 (by decide) ?_
  exact W.zret (v := 0) (ty := .boolean) hx hb hr (by decide) (fun t ht hW => ⟨0, rfl, h, ht⟩) (fun _ h9 => by cases h9) dX1_bearsOne_34

/-! X1_put -/
set_option maxRecDepth 20000 in
theorem wdX1_put_0 : Cond.fieldLink RX1 9 "CornLaws$Hangings" "on" "[I" ∈ wsX1_put := by decide +kernel
set_option maxRecDepth 20000 in
theorem wdX1_put_1 : Cond.fieldLink RX1 15 "CornLaws$Hangings" "up" "[I" ∈ wsX1_put := by decide +kernel
set_option maxRecDepth 20000 in
theorem wdX1_put_2 : Cond.fieldLink RX1 18 "CornLaws$Hangings" "low" "[I" ∈ wsX1_put := by decide +kernel
set_option maxRecDepth 20000 in
theorem inX1_put_1 : ∀ w ∈ wsX10, w ∈ wsX1_put := by decide +kernel
set_option maxHeartbeats 4000000 in
set_option maxRecDepth 100000 in
theorem cX1_put_ok (l : Launch) (D : va_G) (cI cII : ClassId) (q : Nat → Nat) (a : RS) (p1 : Int32) (p2 : Int32) (p3 : Int32) (p4 : Int32) (post : RS → Prop) (h : wpX1_put a p1 p2 p3 p4 post) : Met l yX1_put wsX1_put ({ frames := 0, cells := 0, slots := 0, locals := 0 } : Room) (zPm [.ref (q 0), .int p1, .int p2, .int p3, .int p4] D cI cII (wH cI q a)) (va_Qv post (fun (z : RS) (t : State) => va_P D vwCl (wH cI q z) t.heap) (z_in (wH cI q a))) 0 0 (z_in (wH cI q a)) := by
  refine Met.ofW (cc := cX1_put) (maxL := 5) (ret := none) (by decide) rfl ?_
  intro p e s m args below meth c s₁ B hml hv
  obtain ⟨rfl, hP, hK, hD0⟩ := hv
  have hx := B.exec
  have hb := B.bytes
  have hr := B.returns
  have hts := atoms_spec (ws := wsX1_put) B.pre
  have hown : s.vm.findClass RX1 = some m.cls := findClass_of_methodNamed B.named
  have hlocks := B.notSynchronized
  have hD := z_Dself hD0
  generalize hAe : z_in (wH cI q a) = A at hD ⊢
  have hS : va_S A s.heap s.heap [] := va_S.rf
  have hl := lv_entry ([.ref (q 0), .int p1, .int p2, .int p3, .int p4]) (n := 5) (Nat.le_of_ble_eq_true rfl)
  rw [lg_entry_eq]
  generalize (lg_sl ([.ref (q 0), .int p1, .int p2, .int p3, .int p4]) ++ List.replicate (5 - (lg_sl ([.ref (q 0), .int p1, .int p2, .int p3, .int p4])).length) Slot.unset).toArray = ls at hl ⊢
  have hl : lv_has ls 5 [(0, .ref (q 0)), (1, .int p1), (2, .int p2), (3, .int p3), (4, .int p4)] := hl
  unfold wpX1_put at h
  refine lv_aload_n hx hb dX1_put_0 rfl (lv_at hl 0 rfl) ?_
  refine va_get (D := D) (ci := 1) (v := .ref (q 1)) (C := RX1) (T := TX1) (N := 3) hx hb hts inX1_put_1 hown hK hP 0 rfl rfl 0 (by decide) (hts (.fieldLink RX1 9 "CornLaws$Hangings" "on" "[I") wdX1_put_0) (fun _ h9 => h9) rfl dX1_put_1 ?_
  refine lv_iload_n hx hb dX1_put_4 rfl (lv_at hl 1 rfl) ?_
  refine lv_iload_n hx hb dX1_put_5 rfl (lv_at hl 2 rfl) ?_
  obtain ⟨hi1, h⟩ := h
  refine va_iast (f := a 0) hx hb hK hP hD hS 1 0 rfl rfl hi1 dX1_put_6 (fun H locs hP hD hS => ?_)
  have hP : va_P D vwCl (wH cI q (va_up a 0 (upd (a 0) (p1.toNatClampNeg) (p2)))) H := hP
  have hD : va_D A (wH cI q (va_up a 0 (upd (a 0) (p1.toNatClampNeg) (p2)))) := hD
  refine lv_aload_n hx hb dX1_put_7 rfl (lv_at hl 0 rfl) ?_
  refine va_get (D := D) (ci := 1) (v := .ref (q 2)) (C := RX1) (T := TX1) (N := 3) hx hb hts inX1_put_1 hown hK hP 0 rfl rfl 1 (by decide) (hts (.fieldLink RX1 15 "CornLaws$Hangings" "up" "[I") wdX1_put_1) (fun _ h9 => h9) rfl dX1_put_8 ?_
  refine lv_iload_n hx hb dX1_put_11 rfl (lv_at hl 1 rfl) ?_
  refine lv_iload_n hx hb dX1_put_12 rfl (lv_at hl 3 rfl) ?_
  refine va_iast (f := a 1) hx hb hK hP hD hS 2 0 rfl rfl hi1 dX1_put_13 (fun H locs hP hD hS => ?_)
  have hP : va_P D vwCl (wH cI q (va_up (va_up a 0 (upd (a 0) (p1.toNatClampNeg) (p2))) 1 (upd (a 1) (p1.toNatClampNeg) (p3)))) H := hP
  have hD : va_D A (wH cI q (va_up (va_up a 0 (upd (a 0) (p1.toNatClampNeg) (p2))) 1 (upd (a 1) (p1.toNatClampNeg) (p3)))) := hD
  refine lv_aload_n hx hb dX1_put_14 rfl (lv_at hl 0 rfl) ?_
  refine va_get (D := D) (ci := 1) (v := .ref (q 3)) (C := RX1) (T := TX1) (N := 3) hx hb hts inX1_put_1 hown hK hP 0 rfl rfl 2 (by decide) (hts (.fieldLink RX1 18 "CornLaws$Hangings" "low" "[I") wdX1_put_2) (fun _ h9 => h9) rfl dX1_put_15 ?_
  refine lv_iload_n hx hb dX1_put_18 rfl (lv_at hl 1 rfl) ?_
  refine lv_iload hx hb dX1_put_19 (lv_at hl 4 rfl) ?_
  refine va_iast (f := a 2) hx hb hK hP hD hS 3 0 rfl rfl hi1 dX1_put_21 (fun H locs hP hD hS => ?_)
  have hP : va_P D vwCl (wH cI q (va_up (va_up (va_up a 0 (upd (a 0) (p1.toNatClampNeg) (p2))) 1 (upd (a 1) (p1.toNatClampNeg) (p3))) 2 (upd (a 2) (p1.toNatClampNeg) (p4)))) H := hP
  have hD : va_D A (wH cI q (va_up (va_up (va_up a 0 (upd (a 0) (p1.toNatClampNeg) (p2))) 1 (upd (a 1) (p1.toNatClampNeg) (p3))) 2 (upd (a 2) (p1.toNatClampNeg) (p4)))) := hD
  exact W.vret hx hb hr (fun t ht hW => ⟨⟨(va_up (va_up (va_up a 0 (upd (a 0) (p1.toNatClampNeg) (p2))) 1 (upd (a 1) (p1.toNatClampNeg) (p3))) 2 (upd (a 2) (p1.toNatClampNeg) (p4))), rfl, h, by show va_P D vwCl _ t.heap; rw [ht]; exact hP⟩, hS.F ht⟩) hS.2.2 dX1_put_22

/-! X1_take -/
set_option maxRecDepth 20000 in
theorem wdX1_take_0 : Cond.fieldLink RX1 18 "CornLaws$Hangings" "low" "[I" ∈ wsX1_take := by decide +kernel
set_option maxRecDepth 20000 in
theorem inX1_take_1 : ∀ w ∈ wsX10, w ∈ wsX1_take := by decide +kernel
set_option maxHeartbeats 4000000 in
set_option maxRecDepth 100000 in
theorem cX1_take_ok (l : Launch) (D : va_G) (cI cII : ClassId) (q : Nat → Nat) (a : RS) (p1 : Int32) (post : RS → Prop) (h : wpX1_take a p1 post) : Met l yX1_take wsX1_take ({ frames := 0, cells := 0, slots := 0, locals := 0 } : Room) (zPm [.ref (q 0), .int p1] D cI cII (wH cI q a)) (va_Qv post (fun (z : RS) (t : State) => va_P D vwCl (wH cI q z) t.heap) (z_in (wH cI q a))) 0 0 (z_in (wH cI q a)) := by
  refine Met.ofW (cc := cX1_take) (maxL := 2) (ret := none) (by decide) rfl ?_
  intro p e s m args below meth c s₁ B hml hv
  obtain ⟨rfl, hP, hK, hD0⟩ := hv
  have hx := B.exec
  have hb := B.bytes
  have hr := B.returns
  have hts := atoms_spec (ws := wsX1_take) B.pre
  have hown : s.vm.findClass RX1 = some m.cls := findClass_of_methodNamed B.named
  have hlocks := B.notSynchronized
  have hD := z_Dself hD0
  generalize hAe : z_in (wH cI q a) = A at hD ⊢
  have hS : va_S A s.heap s.heap [] := va_S.rf
  have hl := lv_entry ([.ref (q 0), .int p1]) (n := 2) (Nat.le_of_ble_eq_true rfl)
  rw [lg_entry_eq]
  generalize (lg_sl ([.ref (q 0), .int p1]) ++ List.replicate (2 - (lg_sl ([.ref (q 0), .int p1])).length) Slot.unset).toArray = ls at hl ⊢
  have hl : lv_has ls 2 [(0, .ref (q 0)), (1, .int p1)] := hl
  unfold wpX1_take at h
  refine lv_aload_n hx hb dX1_take_0 rfl (lv_at hl 0 rfl) ?_
  refine va_get (D := D) (ci := 1) (v := .ref (q 3)) (C := RX1) (T := TX1) (N := 3) hx hb hts inX1_take_1 hown hK hP 0 rfl rfl 2 (by decide) (hts (.fieldLink RX1 18 "CornLaws$Hangings" "low" "[I") wdX1_take_0) (fun _ h9 => h9) rfl dX1_take_1 ?_
  refine lv_iload_n hx hb dX1_take_4 rfl (lv_at hl 1 rfl) ?_
  refine lv_iconst (v := 0) hx hb dX1_take_5 (by decide) ?_
  obtain ⟨hi1, h⟩ := h
  refine va_iast (f := a 2) hx hb hK hP hD hS 3 0 rfl rfl hi1 dX1_take_6 (fun H locs hP hD hS => ?_)
  have hP : va_P D vwCl (wH cI q (va_up a 2 (upd (a 2) (p1.toNatClampNeg) (0)))) H := hP
  have hD : va_D A (wH cI q (va_up a 2 (upd (a 2) (p1.toNatClampNeg) (0)))) := hD
  exact W.vret hx hb hr (fun t ht hW => ⟨⟨(va_up a 2 (upd (a 2) (p1.toNatClampNeg) (0))), rfl, h, by show va_P D vwCl _ t.heap; rw [ht]; exact hP⟩, hS.F ht⟩) hS.2.2 dX1_take_7

/-! X1_rulingOver -/
set_option maxRecDepth 20000 in
theorem wdX1_rulingOver_0 : Cond.fieldLink RX1 9 "CornLaws$Hangings" "on" "[I" ∈ wsX1_rulingOver := by decide +kernel
set_option maxRecDepth 20000 in
theorem inX1_rulingOver_1 : ∀ w ∈ wsX10, w ∈ wsX1_rulingOver := by decide +kernel
set_option maxHeartbeats 4000000 in
set_option maxRecDepth 100000 in
theorem cX1_rulingOver_ok (l : Launch) (D : va_G) (cI cII : ClassId) (q : Nat → Nat) (a : RS) (p1 : Int32) (post : Int32 → Prop) (h : wpX1_rulingOver a p1 post) : Met l yX1_rulingOver wsX1_rulingOver ({ frames := 1, cells := 0, slots := 0, locals := 21 } : Room) (zPc [.ref (q 0), .int p1] D cI cII (wH cI q a)) (vp_Si post) 0 0 (fun _ => False) := by
  refine Met.ofW (cc := cX1_rulingOver) (maxL := 2) (ret := (some .int)) (by decide) rfl ?_
  intro p e s m args below meth c s₁ B hml hv
  obtain ⟨rfl, hP, hK⟩ := hv
  have hx := B.exec
  have hb := B.bytes
  have hr := B.returns
  have hts := atoms_spec (ws := wsX1_rulingOver) B.pre
  have hown : s.vm.findClass RX1 = some m.cls := findClass_of_methodNamed B.named
  have hlocks := B.notSynchronized
  have hl := lv_entry ([.ref (q 0), .int p1]) (n := 2) (Nat.le_of_ble_eq_true rfl)
  rw [lg_entry_eq]
  generalize (lg_sl ([.ref (q 0), .int p1]) ++ List.replicate (2 - (lg_sl ([.ref (q 0), .int p1])).length) Slot.unset).toArray = ls at hl ⊢
  have hl : lv_has ls 2 [(0, .ref (q 0)), (1, .int p1)] := hl
  unfold wpX1_rulingOver at h
  refine lv_aload_n hx hb dX1_rulingOver_0 rfl (lv_at hl 0 rfl) ?_
  refine lv_iload_n hx hb dX1_rulingOver_1 rfl (lv_at hl 1 rfl) ?_
  refine vp_callSi (W.runV (C := RX1) (As := [.int p1]) (rest := []) ⟨hx, hb, hml, hown, hts⟩ (cX1_hangs_ok l D cI cII q a p1 _ h) (cwV 1 hts gX1_rulingOver_X1_hangs rfl rfl rfl (by decide +kernel) ⟨Nat.le_of_ble_eq_true rfl, Nat.le_of_ble_eq_true rfl⟩) (z_preV hK hP rfl rfl) rfl rfl hl.1 rfl (lv_room (Nat.le_of_ble_eq_true rfl)) dX1_rulingOver_2 ⟨Nat.le_of_ble_eq_true rfl, Nat.le_of_ble_eq_true rfl⟩) (fun r1 h => ?_)
  refine lv_if_eq (tgt := 17) hx hb dX1_rulingOver_5 (by decide) (fun c2 => ?_) (fun c2 => ?_)
  · replace h := h.1 c2
    refine lv_iload_n hx hb dX1_rulingOver_17 rfl (lv_at hl 1 rfl) ?_
    exact W.iret (v := p1) hx hb hr (fun t ht hW => ⟨p1, rfl, h, ht⟩) (fun _ h9 => by cases h9) dX1_rulingOver_18
  · replace h := h.2 c2
    refine lv_aload_n hx hb dX1_rulingOver_8 rfl (lv_at hl 0 rfl) ?_
    refine va_get (D := D) (ci := 1) (v := .ref (q 1)) (C := RX1) (T := TX1) (N := 3) hx hb hts inX1_rulingOver_1 hown hK hP 0 rfl rfl 0 (by decide) (hts (.fieldLink RX1 9 "CornLaws$Hangings" "on" "[I") wdX1_rulingOver_0) (fun _ h9 => h9) rfl dX1_rulingOver_9 ?_
    refine lv_iload_n hx hb dX1_rulingOver_12 rfl (lv_at hl 1 rfl) ?_
    obtain ⟨hi3, h⟩ := h
    refine va_iald (f := a 0) hx hb hK hP 1 0 rfl rfl hi3 dX1_rulingOver_13 ?_
    refine lv_goto (tgt := 18) hx hb dX1_rulingOver_14 (by decide) ?_
    exact W.iret (v := (a 0 p1.toNatClampNeg)) hx hb hr (fun t ht hW => ⟨(a 0 p1.toNatClampNeg), rfl, h, ht⟩) (fun _ h9 => by cases h9) dX1_rulingOver_18

/-! X1_inProportion -/
set_option maxRecDepth 20000 in
theorem wdX1_inProportion_0 : Cond.fieldLink RX1 15 "CornLaws$Hangings" "up" "[I" ∈ wsX1_inProportion := by decide +kernel
set_option maxRecDepth 20000 in
theorem wdX1_inProportion_1 : Cond.fieldLink RX1 18 "CornLaws$Hangings" "low" "[I" ∈ wsX1_inProportion := by decide +kernel
set_option maxRecDepth 20000 in
theorem inX1_inProportion_1 : ∀ w ∈ wsX10, w ∈ wsX1_inProportion := by decide +kernel
set_option maxHeartbeats 4000000 in
set_option maxRecDepth 100000 in
theorem cX1_inProportion_ok (l : Launch) (D : va_G) (cI cII : ClassId) (q : Nat → Nat) (a : RS) (p1 : Int32) (p2 : Int32) (post : Int32 → Prop) (h : wpX1_inProportion a p1 p2 post) : Met l yX1_inProportion wsX1_inProportion ({ frames := 1, cells := 0, slots := 0, locals := 21 } : Room) (zPc [.ref (q 0), .int p1, .int p2] D cI cII (wH cI q a)) (vp_Si post) 0 0 (fun _ => False) := by
  refine Met.ofW (cc := cX1_inProportion) (maxL := 3) (ret := (some .int)) (by decide) rfl ?_
  intro p e s m args below meth c s₁ B hml hv
  obtain ⟨rfl, hP, hK⟩ := hv
  have hx := B.exec
  have hb := B.bytes
  have hr := B.returns
  have hts := atoms_spec (ws := wsX1_inProportion) B.pre
  have hown : s.vm.findClass RX1 = some m.cls := findClass_of_methodNamed B.named
  have hlocks := B.notSynchronized
  have hl := lv_entry ([.ref (q 0), .int p1, .int p2]) (n := 3) (Nat.le_of_ble_eq_true rfl)
  rw [lg_entry_eq]
  generalize (lg_sl ([.ref (q 0), .int p1, .int p2]) ++ List.replicate (3 - (lg_sl ([.ref (q 0), .int p1, .int p2])).length) Slot.unset).toArray = ls at hl ⊢
  have hl : lv_has ls 3 [(0, .ref (q 0)), (1, .int p1), (2, .int p2)] := hl
  unfold wpX1_inProportion at h
  refine lv_aload_n hx hb dX1_inProportion_0 rfl (lv_at hl 0 rfl) ?_
  refine lv_iload_n hx hb dX1_inProportion_1 rfl (lv_at hl 1 rfl) ?_
  refine vp_callSi (W.runV (C := RX1) (As := [.int p1]) (rest := []) ⟨hx, hb, hml, hown, hts⟩ (cX1_hangs_ok l D cI cII q a p1 _ h) (cwV 1 hts gX1_inProportion_X1_hangs rfl rfl rfl (by decide +kernel) ⟨Nat.le_of_ble_eq_true rfl, Nat.le_of_ble_eq_true rfl⟩) (z_preV hK hP rfl rfl) rfl rfl hl.1 rfl (lv_room (Nat.le_of_ble_eq_true rfl)) dX1_inProportion_2 ⟨Nat.le_of_ble_eq_true rfl, Nat.le_of_ble_eq_true rfl⟩) (fun r1 h => ?_)
  refine lv_if_eq (tgt := 26) hx hb dX1_inProportion_5 (by decide) (fun c2 => ?_) (fun c2 => ?_)
  · replace h := h.1 c2
    refine lv_iload_n hx hb dX1_inProportion_26 rfl (lv_at hl 2 rfl) ?_
    exact W.iret (v := p2) hx hb hr (fun t ht hW => ⟨p2, rfl, h, ht⟩) (fun _ h9 => by cases h9) dX1_inProportion_27
  · replace h := h.2 c2
    refine lv_iload_n hx hb dX1_inProportion_8 rfl (lv_at hl 2 rfl) ?_
    refine lv_aload_n hx hb dX1_inProportion_9 rfl (lv_at hl 0 rfl) ?_
    refine va_get (D := D) (ci := 1) (v := .ref (q 2)) (C := RX1) (T := TX1) (N := 3) hx hb hts inX1_inProportion_1 hown hK hP 0 rfl rfl 1 (by decide) (hts (.fieldLink RX1 15 "CornLaws$Hangings" "up" "[I") wdX1_inProportion_0) (fun _ h9 => h9) rfl dX1_inProportion_10 ?_
    refine lv_iload_n hx hb dX1_inProportion_13 rfl (lv_at hl 1 rfl) ?_
    obtain ⟨hi3, h⟩ := h
    refine va_iald (f := a 1) hx hb hK hP 2 0 rfl rfl hi3 dX1_inProportion_14 ?_
    refine lv_imul hx hb dX1_inProportion_15 ?_
    refine lv_aload_n hx hb dX1_inProportion_16 rfl (lv_at hl 0 rfl) ?_
    refine va_get (D := D) (ci := 1) (v := .ref (q 3)) (C := RX1) (T := TX1) (N := 3) hx hb hts inX1_inProportion_1 hown hK hP 0 rfl rfl 2 (by decide) (hts (.fieldLink RX1 18 "CornLaws$Hangings" "low" "[I") wdX1_inProportion_1) (fun _ h9 => h9) rfl dX1_inProportion_17 ?_
    refine lv_iload_n hx hb dX1_inProportion_20 rfl (lv_at hl 1 rfl) ?_
    refine va_iald (f := a 2) hx hb hK hP 3 0 rfl rfl hi3 dX1_inProportion_21 ?_
    obtain ⟨hdiv, h⟩ := h
    refine lv_idiv hx hb dX1_inProportion_22 hdiv ?_
    refine lv_goto (tgt := 27) hx hb dX1_inProportion_23 (by decide) ?_
    exact W.iret (v := ((p2 * (a 1 p1.toNatClampNeg)) / (a 2 p1.toNatClampNeg))) hx hb hr (fun t ht hW => ⟨((p2 * (a 1 p1.toNatClampNeg)) / (a 2 p1.toNatClampNeg)), rfl, h, ht⟩) (fun _ h9 => by cases h9) dX1_inProportion_27

/-! X0_has -/
set_option maxRecDepth 20000 in
theorem wdX0_has_0 : Cond.fieldLink RX0 30 "CornLaws$Cargoes" "size" "I" ∈ wsX0_has := by decide +kernel
set_option maxRecDepth 20000 in
theorem inX0_has_0 : ∀ w ∈ wsX00, w ∈ wsX0_has := by decide +kernel
set_option maxHeartbeats 4000000 in
set_option maxRecDepth 100000 in
theorem cX0_has_ok (l : Launch) (D : va_G) (cI cII : ClassId) (q : Nat → Nat) (a : RS) (p1 : Int32) (post : Int32 → Prop) (h : wpX0_has a p1 post) : Met l yX0_has wsX0_has ({ frames := 0, cells := 0, slots := 0, locals := 0 } : Room) (zPc [.ref (q 0), .int p1] D cI cII (wC cI q a)) (vp_Si post) 0 0 (fun _ => False) := by
  refine Met.ofW (cc := cX0_has) (maxL := 2) (ret := (some .boolean)) (by decide) rfl ?_
  intro p e s m args below meth c s₁ B hml hv
  obtain ⟨rfl, hP, hK⟩ := hv
  have hx := B.exec
  have hb := B.bytes
  have hr := B.returns
  have hts := atoms_spec (ws := wsX0_has) B.pre
  have hown : s.vm.findClass RX0 = some m.cls := findClass_of_methodNamed B.named
  have hlocks := B.notSynchronized
  have hl := lv_entry ([.ref (q 0), .int p1]) (n := 2) (Nat.le_of_ble_eq_true rfl)
  rw [lg_entry_eq]
  generalize (lg_sl ([.ref (q 0), .int p1]) ++ List.replicate (2 - (lg_sl ([.ref (q 0), .int p1])).length) Slot.unset).toArray = ls at hl ⊢
  have hl : lv_has ls 2 [(0, .ref (q 0)), (1, .int p1)] := hl
  unfold wpX0_has at h
  refine lv_iload_n hx hb dX0_has_0 rfl (lv_at hl 1 rfl) ?_
  refine lv_if_lt (tgt := 16) hx hb dX0_has_1 (by decide) (fun c1 => ?_) (fun c1 => ?_)
  · replace h := h.1 c1
    refine lv_iconst (v := 0) hx hb dX0_has_16 (by decide) ?_
    exact W.zret (v := 0) (ty := .boolean) hx hb hr (by decide) (fun t ht hW => ⟨0, rfl, h, ht⟩) (fun _ h9 => by cases h9) dX0_has_17
  · replace h := h.2 c1
    refine lv_iload_n hx hb dX0_has_4 rfl (lv_at hl 1 rfl) ?_
    refine lv_aload_n hx hb dX0_has_5 rfl (lv_at hl 0 rfl) ?_
    refine va_get (D := D) (ci := 0) (v := .int (a 9 0)) (C := RX0) (T := TX0) (N := 7) hx hb hts inX0_has_0 hown hK hP 0 rfl rfl 6 (by decide) (hts (.fieldLink RX0 30 "CornLaws$Cargoes" "size" "I") wdX0_has_0) (fun _ h9 => h9) rfl dX0_has_6 ?_
    refine lv_icmp_ge (tgt := 16) hx hb dX0_has_9 (by decide) (fun c2 => ?_) (fun c2 => ?_)
    · replace h := h.1 c2
      refine lv_iconst (v := 0) hx hb dX0_has_16 (by decide) ?_
      exact W.zret (v := 0) (ty := .boolean) hx hb hr (by decide) (fun t ht hW => ⟨0, rfl, h, ht⟩) (fun _ h9 => by cases h9) dX0_has_17
    · replace h := h.2 c2
      refine lv_iconst (v := 1) hx hb dX0_has_12 (by decide) ?_
      refine lv_goto (tgt := 17) hx hb dX0_has_13 (by decide) ?_
      exact W.zret (v := 1) (ty := .boolean) hx hb hr (by decide) (fun t ht hW => ⟨1, rfl, h, ht⟩) (fun _ h9 => by cases h9) dX0_has_17

/-! X0_add -/
set_option maxRecDepth 20000 in
theorem wdX0_add_0 : Cond.fieldLink RX0 30 "CornLaws$Cargoes" "size" "I" ∈ wsX0_add := by decide +kernel
set_option maxRecDepth 20000 in
theorem wdX0_add_1 : Cond.fieldLink RX0 9 "CornLaws$Cargoes" "grain" "[I" ∈ wsX0_add := by decide +kernel
set_option maxRecDepth 20000 in
theorem wdX0_add_2 : Cond.fieldLink RX0 15 "CornLaws$Cargoes" "inBond" "[I" ∈ wsX0_add := by decide +kernel
set_option maxRecDepth 20000 in
theorem wdX0_add_3 : Cond.fieldLink RX0 27 "CornLaws$Cargoes" "came" "[I" ∈ wsX0_add := by decide +kernel
set_option maxRecDepth 20000 in
theorem inX0_add_0 : ∀ w ∈ wsX00, w ∈ wsX0_add := by decide +kernel
set_option maxHeartbeats 4000000 in
set_option maxRecDepth 100000 in
theorem cX0_add_ok (l : Launch) (D : va_G) (cI cII : ClassId) (q : Nat → Nat) (a : RS) (p1 : Int32) (p2 : Int32) (p3 : Int32) (post : Int32 → RS → Prop) (h : wpX0_add a p1 p2 p3 post) : Met l yX0_add wsX0_add ({ frames := 0, cells := 0, slots := 0, locals := 0 } : Room) (zPm [.ref (q 0), .int p1, .int p2, .int p3] D cI cII (wC cI q a)) (va_Qi post (fun (z : RS) (t : State) => va_P D vwCl (wC cI q z) t.heap) (z_in (wC cI q a))) 0 0 (z_in (wC cI q a)) := by
  refine Met.ofW (cc := cX0_add) (maxL := 5) (ret := (some .int)) (by decide) rfl ?_
  intro p e s m args below meth c s₁ B hml hv
  obtain ⟨rfl, hP, hK, hD0⟩ := hv
  have hx := B.exec
  have hb := B.bytes
  have hr := B.returns
  have hts := atoms_spec (ws := wsX0_add) B.pre
  have hown : s.vm.findClass RX0 = some m.cls := findClass_of_methodNamed B.named
  have hlocks := B.notSynchronized
  have hD := z_Dself hD0
  generalize hAe : z_in (wC cI q a) = A at hD ⊢
  have hS : va_S A s.heap s.heap [] := va_S.rf
  have hl := lv_entry ([.ref (q 0), .int p1, .int p2, .int p3]) (n := 5) (Nat.le_of_ble_eq_true rfl)
  rw [lg_entry_eq]
  generalize (lg_sl ([.ref (q 0), .int p1, .int p2, .int p3]) ++ List.replicate (5 - (lg_sl ([.ref (q 0), .int p1, .int p2, .int p3])).length) Slot.unset).toArray = ls at hl ⊢
  have hl : lv_has ls 5 [(0, .ref (q 0)), (1, .int p1), (2, .int p2), (3, .int p3)] := hl
  unfold wpX0_add at h
  refine lv_aload_n hx hb dX0_add_0 rfl (lv_at hl 0 rfl) ?_
  refine va_get (D := D) (ci := 0) (v := .int (a 9 0)) (C := RX0) (T := TX0) (N := 7) hx hb hts inX0_add_0 hown hK hP 0 rfl rfl 6 (by decide) (hts (.fieldLink RX0 30 "CornLaws$Cargoes" "size" "I") wdX0_add_0) (fun _ h9 => h9) rfl dX0_add_1 ?_
  refine lv_istore (lv' := [(4, .int (a 9 0)), (0, .ref (q 0)), (1, .int p1), (2, .int p2), (3, .int p3)]) hx hb dX0_add_4 hl (by decide) rfl (fun ls hl => ?_)
  refine lv_aload_n hx hb dX0_add_6 rfl (lv_at hl 1 rfl) ?_
  refine va_get (D := D) (ci := 0) (v := .ref (q 1)) (C := RX0) (T := TX0) (N := 7) hx hb hts inX0_add_0 hown hK hP 0 rfl rfl 0 (by decide) (hts (.fieldLink RX0 9 "CornLaws$Cargoes" "grain" "[I") wdX0_add_1) (fun _ h9 => h9) rfl dX0_add_7 ?_
  refine lv_iload hx hb dX0_add_10 (lv_at hl 0 rfl) ?_
  refine lv_iload_n hx hb dX0_add_12 rfl (lv_at hl 2 rfl) ?_
  obtain ⟨hi1, h⟩ := h
  refine va_iast (f := a 0) hx hb hK hP hD hS 1 0 rfl rfl hi1 dX0_add_13 (fun H locs hP hD hS => ?_)
  have hP : va_P D vwCl (wC cI q (va_up a 0 (upd (a 0) ((a 9 0).toNatClampNeg) (p1)))) H := hP
  have hD : va_D A (wC cI q (va_up a 0 (upd (a 0) ((a 9 0).toNatClampNeg) (p1)))) := hD
  refine lv_aload_n hx hb dX0_add_14 rfl (lv_at hl 1 rfl) ?_
  refine va_get (D := D) (ci := 0) (v := .ref (q 2)) (C := RX0) (T := TX0) (N := 7) hx hb hts inX0_add_0 hown hK hP 0 rfl rfl 1 (by decide) (hts (.fieldLink RX0 15 "CornLaws$Cargoes" "inBond" "[I") wdX0_add_2) (fun _ h9 => h9) rfl dX0_add_15 ?_
  refine lv_iload hx hb dX0_add_18 (lv_at hl 0 rfl) ?_
  refine lv_iload_n hx hb dX0_add_20 rfl (lv_at hl 3 rfl) ?_
  refine va_iast (f := a 1) hx hb hK hP hD hS 2 0 rfl rfl hi1 dX0_add_21 (fun H locs hP hD hS => ?_)
  have hP : va_P D vwCl (wC cI q (va_up (va_up a 0 (upd (a 0) ((a 9 0).toNatClampNeg) (p1))) 1 (upd (a 1) ((a 9 0).toNatClampNeg) (p2)))) H := hP
  have hD : va_D A (wC cI q (va_up (va_up a 0 (upd (a 0) ((a 9 0).toNatClampNeg) (p1))) 1 (upd (a 1) ((a 9 0).toNatClampNeg) (p2)))) := hD
  refine lv_aload_n hx hb dX0_add_22 rfl (lv_at hl 1 rfl) ?_
  refine va_get (D := D) (ci := 0) (v := .ref (q 6)) (C := RX0) (T := TX0) (N := 7) hx hb hts inX0_add_0 hown hK hP 0 rfl rfl 5 (by decide) (hts (.fieldLink RX0 27 "CornLaws$Cargoes" "came" "[I") wdX0_add_3) (fun _ h9 => h9) rfl dX0_add_23 ?_
  refine lv_iload hx hb dX0_add_26 (lv_at hl 0 rfl) ?_
  refine lv_iload_n hx hb dX0_add_28 rfl (lv_at hl 4 rfl) ?_
  refine va_iast (f := a 5) hx hb hK hP hD hS 6 0 rfl rfl hi1 dX0_add_29 (fun H locs hP hD hS => ?_)
  have hP : va_P D vwCl (wC cI q (va_up (va_up (va_up a 0 (upd (a 0) ((a 9 0).toNatClampNeg) (p1))) 1 (upd (a 1) ((a 9 0).toNatClampNeg) (p2))) 5 (upd (a 5) ((a 9 0).toNatClampNeg) (p3)))) H := hP
  have hD : va_D A (wC cI q (va_up (va_up (va_up a 0 (upd (a 0) ((a 9 0).toNatClampNeg) (p1))) 1 (upd (a 1) ((a 9 0).toNatClampNeg) (p2))) 5 (upd (a 5) ((a 9 0).toNatClampNeg) (p3)))) := hD
  refine lv_aload_n hx hb dX0_add_30 rfl (lv_at hl 1 rfl) ?_
  refine lv_iload hx hb dX0_add_31 (lv_at hl 0 rfl) ?_
  refine lv_iconst (v := 1) hx hb dX0_add_33 (by decide) ?_
  refine lv_iadd hx hb dX0_add_34 ?_
  refine va_put (D := D) (ci := 0) (v := .int ((a 9 0) + 1)) (ty := .int) (C := RX0) (T := TX0) (N := 7) hx hb hts inX0_add_0 tyX0 tyX0_ok nmX0 hown hK hP hD hS 0 rfl rfl 6 (by decide) (hts (.fieldLink RX0 30 "CornLaws$Cargoes" "size" "I") wdX0_add_0) (fun _ h9 => h9) rfl (by decide +kernel) rfl rfl (Nat.le_of_ble_eq_true rfl) dX0_add_35 (fun H locs hP hD hS => ?_)
  have hP : va_P D vwCl (wC cI q (va_up (va_up (va_up (va_up a 0 (upd (a 0) ((a 9 0).toNatClampNeg) (p1))) 1 (upd (a 1) ((a 9 0).toNatClampNeg) (p2))) 5 (upd (a 5) ((a 9 0).toNatClampNeg) (p3))) 9 (upd (a 9) 0 (((a 9 0) + 1))))) H := hP
  have hD : va_D A (wC cI q (va_up (va_up (va_up (va_up a 0 (upd (a 0) ((a 9 0).toNatClampNeg) (p1))) 1 (upd (a 1) ((a 9 0).toNatClampNeg) (p2))) 5 (upd (a 5) ((a 9 0).toNatClampNeg) (p3))) 9 (upd (a 9) 0 (((a 9 0) + 1))))) := hD
  refine lv_iload hx hb dX0_add_38 (lv_at hl 0 rfl) ?_
  exact W.iret (v := (a 9 0)) hx hb hr (fun t ht hW => ⟨⟨(a 9 0), (va_up (va_up (va_up (va_up a 0 (upd (a 0) ((a 9 0).toNatClampNeg) (p1))) 1 (upd (a 1) ((a 9 0).toNatClampNeg) (p2))) 5 (upd (a 5) ((a 9 0).toNatClampNeg) (p3))) 9 (upd (a 9) 0 (((a 9 0) + 1)))), rfl, h, by show va_P D vwCl _ t.heap; rw [ht]; exact hP⟩, hS.F ht⟩) hS.2.2 dX0_add_40

/-! X0_lossOf -/
set_option maxHeartbeats 4000000 in
set_option maxRecDepth 100000 in
theorem cX0_lossOf_ok (l : Launch) (p1 : Int32) (p2 : Int32) (post : Int32 → Prop) (h : wpX0_lossOf p1 p2 post) : Met l yX0_lossOf wsX0_lossOf ({ frames := 0, cells := 0, slots := 0, locals := 0 } : Room) (zPs [.int p1, .int p2]) (vp_Si post) 0 0 (fun _ => False) := by
  refine Met.ofW (cc := cX0_lossOf) (maxL := 2) (ret := (some .int)) (by decide) rfl ?_
  intro p e s m args below meth c s₁ B hml hv
  obtain ⟨rfl, -⟩ := hv
  have hx := B.exec
  have hb := B.bytes
  have hr := B.returns
  have hts := atoms_spec (ws := wsX0_lossOf) B.pre
  have hown : s.vm.findClass RX0 = some m.cls := findClass_of_methodNamed B.named
  have hlocks := B.notSynchronized
  have hl := lv_entry ([.int p1, .int p2]) (n := 2) (Nat.le_of_ble_eq_true rfl)
  rw [lg_entry_eq]
  generalize (lg_sl ([.int p1, .int p2]) ++ List.replicate (2 - (lg_sl ([.int p1, .int p2])).length) Slot.unset).toArray = ls at hl ⊢
  have hl : lv_has ls 2 [(0, .int p1), (1, .int p2)] := hl
  unfold wpX0_lossOf at h
  refine lv_iload_n hx hb dX0_lossOf_0 rfl (lv_at hl 0 rfl) ?_
  refine lv_iload_n hx hb dX0_lossOf_1 rfl (lv_at hl 1 rfl) ?_
  refine lv_imul hx hb dX0_lossOf_2 ?_
  refine lv_sipush (v := 1000) hx hb dX0_lossOf_3 (by decide) ?_
  refine lv_idiv hx hb dX0_lossOf_6 (by decide) ?_
  exact W.iret (v := ((p1 * p2) / 1000)) hx hb hr (fun t ht hW => ⟨((p1 * p2) / 1000), rfl, h, ht⟩) (fun _ h9 => by cases h9) dX0_lossOf_7

/-! X0_spoilAll -/
set_option maxRecDepth 20000 in
theorem wdX0_spoilAll_0 : Cond.fieldLink RX0 30 "CornLaws$Cargoes" "size" "I" ∈ wsX0_spoilAll := by decide +kernel
set_option maxRecDepth 20000 in
theorem wdX0_spoilAll_1 : Cond.fieldLink RX0 15 "CornLaws$Cargoes" "inBond" "[I" ∈ wsX0_spoilAll := by decide +kernel
set_option maxRecDepth 20000 in
theorem wdX0_spoilAll_2 : Cond.fieldLink RX0 24 "CornLaws$Cargoes" "spoilt" "[I" ∈ wsX0_spoilAll := by decide +kernel
set_option maxRecDepth 20000 in
theorem inX0_spoilAll_0 : ∀ w ∈ wsX00, w ∈ wsX0_spoilAll := by decide +kernel
set_option maxHeartbeats 4000000 in
set_option maxRecDepth 100000 in
theorem cX0_spoilAll_ok (l : Launch) (D : va_G) (cI cII : ClassId) (q : Nat → Nat) (a : RS) (p1 : Int32) (post : RS → Prop) (h : wpX0_spoilAll a p1 post) : Met l yX0_spoilAll wsX0_spoilAll ({ frames := 1, cells := 0, slots := 0, locals := 21 } : Room) (zPm [.ref (q 0), .int p1] D cI cII (wC cI q a)) (va_Qv post (fun (z : RS) (t : State) => va_P D vwCl (wC cI q z) t.heap) (z_in (wC cI q a))) 0 0 (z_in (wC cI q a)) := by
  refine Met.ofW (cc := cX0_spoilAll) (maxL := 4) (ret := none) (by decide) rfl ?_
  intro p e s m args below meth c s₁ B hml hv
  obtain ⟨rfl, hP, hK, hD0⟩ := hv
  have hx := B.exec
  have hb := B.bytes
  have hr := B.returns
  have hts := atoms_spec (ws := wsX0_spoilAll) B.pre
  have hown : s.vm.findClass RX0 = some m.cls := findClass_of_methodNamed B.named
  have hlocks := B.notSynchronized
  have hD := z_Dself hD0
  generalize hAe : z_in (wC cI q a) = A at hD ⊢
  have hS : va_S A s.heap s.heap [] := va_S.rf
  have hl := lv_entry ([.ref (q 0), .int p1]) (n := 4) (Nat.le_of_ble_eq_true rfl)
  rw [lg_entry_eq]
  generalize (lg_sl ([.ref (q 0), .int p1]) ++ List.replicate (4 - (lg_sl ([.ref (q 0), .int p1])).length) Slot.unset).toArray = ls at hl ⊢
  have hl : lv_has ls 4 [(0, .ref (q 0)), (1, .int p1)] := hl
  unfold wpX0_spoilAll at h
  refine lv_iconst (v := 0) hx hb dX0_spoilAll_0 (by decide) ?_
  refine lv_istore_n (lv' := [(2, .int 0), (0, .ref (q 0)), (1, .int p1)]) hx hb dX0_spoilAll_1 rfl hl (by decide) rfl (fun ls hl => ?_)
  have hL2 : ∀ (K2 : Int32 → RS → Prop) (hX : ∀ (x2_2 : Int32) (a_2 : RS) (H : Heap) (locs : List Loc), K2 x2_2 a_2 → va_P D vwCl (wC cI q a_2) H → va_D A (wC cI q a_2) → va_S A s.heap H locs → ∀ ls : Array Slot, lv_has ls 4 [(2, .int x2_2), (0, .ref (q 0)), (1, .int p1)] → W p l e (headSpec wsX0_spoilAll ({ frames := 1, cells := 0, slots := 0, locals := 21 } : Room)).room s m ([.ref (q 0), .int p1] : List Value).toArray below meth c H locs 0 0 (MQ below (va_Qv post (fun (z : RS) (t : State) => va_P D vwCl (wC cI q z) t.heap) A) ([.ref (q 0), .int p1] : List Value).toArray s 0 0 A) (F0 m 47 ls [])) (n : Nat) (x2_2 : Int32) (a_2 : RS) (H : Heap) (locs : List Loc), wpX0_spoilAll_L2 p1 K2 n x2_2 a_2 → va_P D vwCl (wC cI q a_2) H → va_D A (wC cI q a_2) → va_S A s.heap H locs → ∀ ls : Array Slot, lv_has ls 4 [(2, .int x2_2), (0, .ref (q 0)), (1, .int p1)] → W p l e (headSpec wsX0_spoilAll ({ frames := 1, cells := 0, slots := 0, locals := 21 } : Room)).room s m ([.ref (q 0), .int p1] : List Value).toArray below meth c H locs 0 0 (MQ below (va_Qv post (fun (z : RS) (t : State) => va_P D vwCl (wC cI q z) t.heap) A) ([.ref (q 0), .int p1] : List Value).toArray s 0 0 A) (F0 m 2 ls []) := by
    intro K2 hX n
    induction n with
    | zero => intro x2_2 a_2 H locs h; exact False.elim h
    | succ n ih =>
      intro x2_2 a_2 H locs h hP hD hS ls hl
      rw [wpX0_spoilAll_L2] at h
      refine lv_iload_n hx hb dX0_spoilAll_2 rfl (lv_at hl 0 rfl) ?_
      refine lv_aload_n hx hb dX0_spoilAll_3 rfl (lv_at hl 1 rfl) ?_
      refine va_get (D := D) (ci := 0) (v := .int (a_2 9 0)) (C := RX0) (T := TX0) (N := 7) hx hb hts inX0_spoilAll_0 hown hK hP 0 rfl rfl 6 (by decide) (hts (.fieldLink RX0 30 "CornLaws$Cargoes" "size" "I") wdX0_spoilAll_0) (fun _ h9 => h9) rfl dX0_spoilAll_4 ?_
      refine lv_icmp_ge (tgt := 47) hx hb dX0_spoilAll_7 (by decide) (fun c1 => ?_) (fun c1 => ?_)
      · replace h := h.1 c1
        exact hX x2_2 a_2 _ _ h hP hD hS ls (lv_sub hl [0, 1, 2] rfl)
      · replace h := h.2 c1
        refine lv_aload_n hx hb dX0_spoilAll_10 rfl (lv_at hl 1 rfl) ?_
        refine va_get (D := D) (ci := 0) (v := .ref (q 2)) (C := RX0) (T := TX0) (N := 7) hx hb hts inX0_spoilAll_0 hown hK hP 0 rfl rfl 1 (by decide) (hts (.fieldLink RX0 15 "CornLaws$Cargoes" "inBond" "[I") wdX0_spoilAll_1) (fun _ h9 => h9) rfl dX0_spoilAll_11 ?_
        refine lv_iload_n hx hb dX0_spoilAll_14 rfl (lv_at hl 0 rfl) ?_
        obtain ⟨hi2, h⟩ := h
        refine va_iald (f := a_2 1) hx hb hK hP 2 0 rfl rfl hi2 dX0_spoilAll_15 ?_
        refine lv_iload_n hx hb dX0_spoilAll_16 rfl (lv_at hl 2 rfl) ?_
        refine vp_callSi (W.runS (As := [.int (a_2 1 x2_2.toNatClampNeg), .int p1]) (rest := []) ⟨hx, hb, hml, hown, hts⟩ (cX0_lossOf_ok l (a_2 1 x2_2.toNatClampNeg) p1 _ h) (va_cwS 2 hts gX0_spoilAll_X0_lossOf rfl rfl rfl (by decide +kernel) ⟨Nat.le_of_ble_eq_true rfl, Nat.le_of_ble_eq_true rfl⟩) z_preS rfl rfl hl.1 rfl (lv_room (Nat.le_of_ble_eq_true rfl)) dX0_spoilAll_17 ⟨Nat.le_of_ble_eq_true rfl, Nat.le_of_ble_eq_true rfl⟩) (fun r3 h => ?_)
        refine lv_istore_n (lv' := [(3, .int r3), (2, .int x2_2), (0, .ref (q 0)), (1, .int p1)]) hx hb dX0_spoilAll_20 rfl hl (by decide) rfl (fun ls hl => ?_)
        refine lv_aload_n hx hb dX0_spoilAll_21 rfl (lv_at hl 2 rfl) ?_
        refine va_get (D := D) (ci := 0) (v := .ref (q 2)) (C := RX0) (T := TX0) (N := 7) hx hb hts inX0_spoilAll_0 hown hK hP 0 rfl rfl 1 (by decide) (hts (.fieldLink RX0 15 "CornLaws$Cargoes" "inBond" "[I") wdX0_spoilAll_1) (fun _ h9 => h9) rfl dX0_spoilAll_22 ?_
        refine lv_iload_n hx hb dX0_spoilAll_25 rfl (lv_at hl 1 rfl) ?_
        refine lv_dup2_11 hx hb dX0_spoilAll_26 rfl rfl ?_
        refine va_iald (f := a_2 1) hx hb hK hP 2 0 rfl rfl hi2 dX0_spoilAll_27 ?_
        refine lv_iload_n hx hb dX0_spoilAll_28 rfl (lv_at hl 0 rfl) ?_
        refine lv_isub hx hb dX0_spoilAll_29 ?_
        refine va_iast (f := a_2 1) hx hb hK hP hD hS 2 0 rfl rfl hi2 dX0_spoilAll_30 (fun H locs hP hD hS => ?_)
        have hP : va_P D vwCl (wC cI q (va_up a_2 1 (upd (a_2 1) (x2_2.toNatClampNeg) (((a_2 1 x2_2.toNatClampNeg) - r3))))) H := hP
        have hD : va_D A (wC cI q (va_up a_2 1 (upd (a_2 1) (x2_2.toNatClampNeg) (((a_2 1 x2_2.toNatClampNeg) - r3))))) := hD
        refine lv_aload_n hx hb dX0_spoilAll_31 rfl (lv_at hl 2 rfl) ?_
        refine va_get (D := D) (ci := 0) (v := .ref (q 5)) (C := RX0) (T := TX0) (N := 7) hx hb hts inX0_spoilAll_0 hown hK hP 0 rfl rfl 4 (by decide) (hts (.fieldLink RX0 24 "CornLaws$Cargoes" "spoilt" "[I") wdX0_spoilAll_2) (fun _ h9 => h9) rfl dX0_spoilAll_32 ?_
        refine lv_iload_n hx hb dX0_spoilAll_35 rfl (lv_at hl 1 rfl) ?_
        refine lv_dup2_11 hx hb dX0_spoilAll_36 rfl rfl ?_
        refine va_iald (f := a_2 4) hx hb hK hP 5 0 rfl rfl hi2 dX0_spoilAll_37 ?_
        refine lv_iload_n hx hb dX0_spoilAll_38 rfl (lv_at hl 0 rfl) ?_
        refine lv_iadd hx hb dX0_spoilAll_39 ?_
        refine va_iast (f := a_2 4) hx hb hK hP hD hS 5 0 rfl rfl hi2 dX0_spoilAll_40 (fun H locs hP hD hS => ?_)
        have hP : va_P D vwCl (wC cI q (va_up (va_up a_2 1 (upd (a_2 1) (x2_2.toNatClampNeg) (((a_2 1 x2_2.toNatClampNeg) - r3)))) 4 (upd (a_2 4) (x2_2.toNatClampNeg) (((a_2 4 x2_2.toNatClampNeg) + r3))))) H := hP
        have hD : va_D A (wC cI q (va_up (va_up a_2 1 (upd (a_2 1) (x2_2.toNatClampNeg) (((a_2 1 x2_2.toNatClampNeg) - r3)))) 4 (upd (a_2 4) (x2_2.toNatClampNeg) (((a_2 4 x2_2.toNatClampNeg) + r3))))) := hD
        refine lv_iinc (v := (x2_2 + 1)) (lv' := [(2, .int (x2_2 + 1)), (3, .int r3), (0, .ref (q 0)), (1, .int p1)]) hx hb dX0_spoilAll_41 hl (k := 1) rfl rfl (by decide) rfl (fun ls hl => ?_)
        refine lv_goto (tgt := 2) hx hb dX0_spoilAll_44 (by decide) ?_
        exact ih (x2_2 + 1) (va_up (va_up a_2 1 (upd (a_2 1) (x2_2.toNatClampNeg) (((a_2 1 x2_2.toNatClampNeg) - r3)))) 4 (upd (a_2 4) (x2_2.toNatClampNeg) (((a_2 4 x2_2.toNatClampNeg) + r3)))) _ _ h hP hD hS ls (lv_sub hl [0, 2, 3] rfl)
  obtain ⟨n, h⟩ := h
  refine hL2 _ (fun x2_2 a_2 H locs h hP hD hS ls hl => ?_) n 0 a s.heap [] h hP hD hS ls hl
  exact W.vret hx hb hr (fun t ht hW => ⟨⟨a_2, rfl, h, by show va_P D vwCl _ t.heap; rw [ht]; exact hP⟩, hS.F ht⟩) hS.2.2 dX0_spoilAll_47

/-! X0_leftAfter -/
set_option maxRecDepth 20000 in
theorem wdX0_leftAfter_0 : Cond.fieldLink RX0 15 "CornLaws$Cargoes" "inBond" "[I" ∈ wsX0_leftAfter := by decide +kernel
set_option maxRecDepth 20000 in
theorem inX0_leftAfter_0 : ∀ w ∈ wsX00, w ∈ wsX0_leftAfter := by decide +kernel
set_option maxHeartbeats 4000000 in
set_option maxRecDepth 100000 in
theorem cX0_leftAfter_ok (l : Launch) (D : va_G) (cI cII : ClassId) (q : Nat → Nat) (a : RS) (p1 : Int32) (p2 : Int32) (p3 : Int32) (post : Int32 → Prop) (h : wpX0_leftAfter a p1 p2 p3 post) : Met l yX0_leftAfter wsX0_leftAfter ({ frames := 1, cells := 0, slots := 0, locals := 21 } : Room) (zPc [.ref (q 0), .int p1, .int p2, .int p3] D cI cII (wC cI q a)) (vp_Si post) 0 0 (fun _ => False) := by
  refine Met.ofW (cc := cX0_leftAfter) (maxL := 6) (ret := (some .int)) (by decide) rfl ?_
  intro p e s m args below meth c s₁ B hml hv
  obtain ⟨rfl, hP, hK⟩ := hv
  have hx := B.exec
  have hb := B.bytes
  have hr := B.returns
  have hts := atoms_spec (ws := wsX0_leftAfter) B.pre
  have hown : s.vm.findClass RX0 = some m.cls := findClass_of_methodNamed B.named
  have hlocks := B.notSynchronized
  have hl := lv_entry ([.ref (q 0), .int p1, .int p2, .int p3]) (n := 6) (Nat.le_of_ble_eq_true rfl)
  rw [lg_entry_eq]
  generalize (lg_sl ([.ref (q 0), .int p1, .int p2, .int p3]) ++ List.replicate (6 - (lg_sl ([.ref (q 0), .int p1, .int p2, .int p3])).length) Slot.unset).toArray = ls at hl ⊢
  have hl : lv_has ls 6 [(0, .ref (q 0)), (1, .int p1), (2, .int p2), (3, .int p3)] := hl
  unfold wpX0_leftAfter at h
  refine lv_aload_n hx hb dX0_leftAfter_0 rfl (lv_at hl 0 rfl) ?_
  refine va_get (D := D) (ci := 0) (v := .ref (q 2)) (C := RX0) (T := TX0) (N := 7) hx hb hts inX0_leftAfter_0 hown hK hP 0 rfl rfl 1 (by decide) (hts (.fieldLink RX0 15 "CornLaws$Cargoes" "inBond" "[I") wdX0_leftAfter_0) (fun _ h9 => h9) rfl dX0_leftAfter_1 ?_
  refine lv_iload_n hx hb dX0_leftAfter_4 rfl (lv_at hl 1 rfl) ?_
  obtain ⟨hi1, h⟩ := h
  refine va_iald (f := a 1) hx hb hK hP 2 0 rfl rfl hi1 dX0_leftAfter_5 ?_
  refine lv_istore (lv' := [(4, .int (a 1 p1.toNatClampNeg)), (0, .ref (q 0)), (1, .int p1), (2, .int p2), (3, .int p3)]) hx hb dX0_leftAfter_6 hl (by decide) rfl (fun ls hl => ?_)
  refine lv_iconst (v := 0) hx hb dX0_leftAfter_8 (by decide) ?_
  refine lv_istore (lv' := [(5, .int 0), (4, .int (a 1 p1.toNatClampNeg)), (0, .ref (q 0)), (1, .int p1), (2, .int p2), (3, .int p3)]) hx hb dX0_leftAfter_9 hl (by decide) rfl (fun ls hl => ?_)
  have hL11 : ∀ (K11 : Int32 → Int32 → Prop) (hX : ∀ (x5_11 : Int32) (x4_11 : Int32), K11 x5_11 x4_11 → ∀ ls : Array Slot, lv_has ls 6 [(5, .int x5_11), (4, .int x4_11), (0, .ref (q 0)), (1, .int p1), (2, .int p2), (3, .int p3)] → W p l e (headSpec wsX0_leftAfter ({ frames := 1, cells := 0, slots := 0, locals := 21 } : Room)).room s m ([.ref (q 0), .int p1, .int p2, .int p3] : List Value).toArray below meth c s.heap [] 0 0 (MQ below (vp_Si post) ([.ref (q 0), .int p1, .int p2, .int p3] : List Value).toArray s 0 0 (fun _ => False)) (F0 m 34 ls [])) (n : Nat) (x5_11 : Int32) (x4_11 : Int32), wpX0_leftAfter_L11 p2 p3 K11 n x5_11 x4_11 → ∀ ls : Array Slot, lv_has ls 6 [(5, .int x5_11), (4, .int x4_11), (0, .ref (q 0)), (1, .int p1), (2, .int p2), (3, .int p3)] → W p l e (headSpec wsX0_leftAfter ({ frames := 1, cells := 0, slots := 0, locals := 21 } : Room)).room s m ([.ref (q 0), .int p1, .int p2, .int p3] : List Value).toArray below meth c s.heap [] 0 0 (MQ below (vp_Si post) ([.ref (q 0), .int p1, .int p2, .int p3] : List Value).toArray s 0 0 (fun _ => False)) (F0 m 11 ls []) := by
    intro K11 hX n
    induction n with
    | zero => intro x5_11 x4_11 h; exact False.elim h
    | succ n ih =>
      intro x5_11 x4_11 h ls hl
      rw [wpX0_leftAfter_L11] at h
      refine lv_iload hx hb dX0_leftAfter_11 (lv_at hl 0 rfl) ?_
      refine lv_iload_n hx hb dX0_leftAfter_13 rfl (lv_at hl 4 rfl) ?_
      refine lv_icmp_ge (tgt := 34) hx hb dX0_leftAfter_14 (by decide) (fun c2 => ?_) (fun c2 => ?_)
      · replace h := h.1 c2
        exact hX x5_11 x4_11 h ls (lv_sub hl [0, 1, 2, 3, 4, 5] rfl)
      · replace h := h.2 c2
        refine lv_iload hx hb dX0_leftAfter_17 (lv_at hl 1 rfl) ?_
        refine lv_iload hx hb dX0_leftAfter_19 (lv_at hl 1 rfl) ?_
        refine lv_iload_n hx hb dX0_leftAfter_21 rfl (lv_at hl 5 rfl) ?_
        refine vp_callSi (W.runS (As := [.int x4_11, .int p3]) (rest := [.int x4_11]) ⟨hx, hb, hml, hown, hts⟩ (cX0_lossOf_ok l x4_11 p3 _ h) (va_cwS 2 hts gX0_leftAfter_X0_lossOf rfl rfl rfl (by decide +kernel) ⟨Nat.le_of_ble_eq_true rfl, Nat.le_of_ble_eq_true rfl⟩) z_preS rfl rfl hl.1 rfl (lv_room (Nat.le_of_ble_eq_true rfl)) dX0_leftAfter_22 ⟨Nat.le_of_ble_eq_true rfl, Nat.le_of_ble_eq_true rfl⟩) (fun r3 h => ?_)
        refine lv_isub hx hb dX0_leftAfter_25 ?_
        refine lv_istore (lv' := [(4, .int (x4_11 - r3)), (5, .int x5_11), (0, .ref (q 0)), (1, .int p1), (2, .int p2), (3, .int p3)]) hx hb dX0_leftAfter_26 hl (by decide) rfl (fun ls hl => ?_)
        refine lv_iinc (v := (x5_11 + 1)) (lv' := [(5, .int (x5_11 + 1)), (4, .int (x4_11 - r3)), (0, .ref (q 0)), (1, .int p1), (2, .int p2), (3, .int p3)]) hx hb dX0_leftAfter_28 hl (k := 1) rfl rfl (by decide) rfl (fun ls hl => ?_)
        refine lv_goto (tgt := 11) hx hb dX0_leftAfter_31 (by decide) ?_
        exact ih (x5_11 + 1) (x4_11 - r3) h ls (lv_sub hl [0, 1, 2, 3, 4, 5] rfl)
  obtain ⟨n, h⟩ := h
  refine hL11 _ (fun x5_11 x4_11 h ls hl => ?_) n 0 (a 1 p1.toNatClampNeg) h ls hl
  refine lv_iload hx hb dX0_leftAfter_34 (lv_at hl 1 rfl) ?_
  exact W.iret (v := x4_11) hx hb hr (fun t ht hW => ⟨x4_11, rfl, h, ht⟩) (fun _ h9 => by cases h9) dX0_leftAfter_36

/-! X2_add -/
set_option maxRecDepth 20000 in
theorem wdX2_add_0 : Cond.fieldLink RX2 9 "CornLaws$Lettings" "grain" "[I" ∈ wsX2_add := by decide +kernel
set_option maxRecDepth 20000 in
theorem wdX2_add_1 : Cond.fieldLink RX2 21 "CornLaws$Lettings" "size" "I" ∈ wsX2_add := by decide +kernel
set_option maxRecDepth 20000 in
theorem wdX2_add_2 : Cond.fieldLink RX2 15 "CornLaws$Lettings" "quarters" "[I" ∈ wsX2_add := by decide +kernel
set_option maxRecDepth 20000 in
theorem wdX2_add_3 : Cond.fieldLink RX2 18 "CornLaws$Lettings" "week" "[I" ∈ wsX2_add := by decide +kernel
set_option maxRecDepth 20000 in
theorem inX2_add_2 : ∀ w ∈ wsX20, w ∈ wsX2_add := by decide +kernel
set_option maxHeartbeats 4000000 in
set_option maxRecDepth 100000 in
theorem cX2_add_ok (l : Launch) (D : va_G) (cI cII : ClassId) (q : Nat → Nat) (a : RS) (p1 : Int32) (p2 : Int32) (p3 : Int32) (post : RS → Prop) (h : wpX2_add a p1 p2 p3 post) : Met l yX2_add wsX2_add ({ frames := 0, cells := 0, slots := 0, locals := 0 } : Room) (zPm [.ref (q 0), .int p1, .int p2, .int p3] D cI cII (wL cI q a)) (va_Qv post (fun (z : RS) (t : State) => va_P D vwCl (wL cI q z) t.heap) (z_in (wL cI q a))) 0 0 (z_in (wL cI q a)) := by
  refine Met.ofW (cc := cX2_add) (maxL := 4) (ret := none) (by decide) rfl ?_
  intro p e s m args below meth c s₁ B hml hv
  obtain ⟨rfl, hP, hK, hD0⟩ := hv
  have hx := B.exec
  have hb := B.bytes
  have hr := B.returns
  have hts := atoms_spec (ws := wsX2_add) B.pre
  have hown : s.vm.findClass RX2 = some m.cls := findClass_of_methodNamed B.named
  have hlocks := B.notSynchronized
  have hD := z_Dself hD0
  generalize hAe : z_in (wL cI q a) = A at hD ⊢
  have hS : va_S A s.heap s.heap [] := va_S.rf
  have hl := lv_entry ([.ref (q 0), .int p1, .int p2, .int p3]) (n := 4) (Nat.le_of_ble_eq_true rfl)
  rw [lg_entry_eq]
  generalize (lg_sl ([.ref (q 0), .int p1, .int p2, .int p3]) ++ List.replicate (4 - (lg_sl ([.ref (q 0), .int p1, .int p2, .int p3])).length) Slot.unset).toArray = ls at hl ⊢
  have hl : lv_has ls 4 [(0, .ref (q 0)), (1, .int p1), (2, .int p2), (3, .int p3)] := hl
  unfold wpX2_add at h
  refine lv_aload_n hx hb dX2_add_0 rfl (lv_at hl 0 rfl) ?_
  refine va_get (D := D) (ci := 2) (v := .ref (q 1)) (C := RX2) (T := TX2) (N := 4) hx hb hts inX2_add_2 hown hK hP 0 rfl rfl 0 (by decide) (hts (.fieldLink RX2 9 "CornLaws$Lettings" "grain" "[I") wdX2_add_0) (fun _ h9 => h9) rfl dX2_add_1 ?_
  refine lv_aload_n hx hb dX2_add_4 rfl (lv_at hl 0 rfl) ?_
  refine va_get (D := D) (ci := 2) (v := .int (a 9 0)) (C := RX2) (T := TX2) (N := 4) hx hb hts inX2_add_2 hown hK hP 0 rfl rfl 3 (by decide) (hts (.fieldLink RX2 21 "CornLaws$Lettings" "size" "I") wdX2_add_1) (fun _ h9 => h9) rfl dX2_add_5 ?_
  refine lv_iload_n hx hb dX2_add_8 rfl (lv_at hl 1 rfl) ?_
  obtain ⟨hi1, h⟩ := h
  refine va_iast (f := a 0) hx hb hK hP hD hS 1 0 rfl rfl hi1 dX2_add_9 (fun H locs hP hD hS => ?_)
  have hP : va_P D vwCl (wL cI q (va_up a 0 (upd (a 0) ((a 9 0).toNatClampNeg) (p1)))) H := hP
  have hD : va_D A (wL cI q (va_up a 0 (upd (a 0) ((a 9 0).toNatClampNeg) (p1)))) := hD
  refine lv_aload_n hx hb dX2_add_10 rfl (lv_at hl 0 rfl) ?_
  refine va_get (D := D) (ci := 2) (v := .ref (q 2)) (C := RX2) (T := TX2) (N := 4) hx hb hts inX2_add_2 hown hK hP 0 rfl rfl 1 (by decide) (hts (.fieldLink RX2 15 "CornLaws$Lettings" "quarters" "[I") wdX2_add_2) (fun _ h9 => h9) rfl dX2_add_11 ?_
  refine lv_aload_n hx hb dX2_add_14 rfl (lv_at hl 0 rfl) ?_
  refine va_get (D := D) (ci := 2) (v := .int (a 9 0)) (C := RX2) (T := TX2) (N := 4) hx hb hts inX2_add_2 hown hK hP 0 rfl rfl 3 (by decide) (hts (.fieldLink RX2 21 "CornLaws$Lettings" "size" "I") wdX2_add_1) (fun _ h9 => h9) rfl dX2_add_15 ?_
  refine lv_iload_n hx hb dX2_add_18 rfl (lv_at hl 2 rfl) ?_
  refine va_iast (f := a 1) hx hb hK hP hD hS 2 0 rfl rfl hi1 dX2_add_19 (fun H locs hP hD hS => ?_)
  have hP : va_P D vwCl (wL cI q (va_up (va_up a 0 (upd (a 0) ((a 9 0).toNatClampNeg) (p1))) 1 (upd (a 1) ((a 9 0).toNatClampNeg) (p2)))) H := hP
  have hD : va_D A (wL cI q (va_up (va_up a 0 (upd (a 0) ((a 9 0).toNatClampNeg) (p1))) 1 (upd (a 1) ((a 9 0).toNatClampNeg) (p2)))) := hD
  refine lv_aload_n hx hb dX2_add_20 rfl (lv_at hl 0 rfl) ?_
  refine va_get (D := D) (ci := 2) (v := .ref (q 3)) (C := RX2) (T := TX2) (N := 4) hx hb hts inX2_add_2 hown hK hP 0 rfl rfl 2 (by decide) (hts (.fieldLink RX2 18 "CornLaws$Lettings" "week" "[I") wdX2_add_3) (fun _ h9 => h9) rfl dX2_add_21 ?_
  refine lv_aload_n hx hb dX2_add_24 rfl (lv_at hl 0 rfl) ?_
  refine va_get (D := D) (ci := 2) (v := .int (a 9 0)) (C := RX2) (T := TX2) (N := 4) hx hb hts inX2_add_2 hown hK hP 0 rfl rfl 3 (by decide) (hts (.fieldLink RX2 21 "CornLaws$Lettings" "size" "I") wdX2_add_1) (fun _ h9 => h9) rfl dX2_add_25 ?_
  refine lv_iload_n hx hb dX2_add_28 rfl (lv_at hl 3 rfl) ?_
  refine va_iast (f := a 2) hx hb hK hP hD hS 3 0 rfl rfl hi1 dX2_add_29 (fun H locs hP hD hS => ?_)
  have hP : va_P D vwCl (wL cI q (va_up (va_up (va_up a 0 (upd (a 0) ((a 9 0).toNatClampNeg) (p1))) 1 (upd (a 1) ((a 9 0).toNatClampNeg) (p2))) 2 (upd (a 2) ((a 9 0).toNatClampNeg) (p3)))) H := hP
  have hD : va_D A (wL cI q (va_up (va_up (va_up a 0 (upd (a 0) ((a 9 0).toNatClampNeg) (p1))) 1 (upd (a 1) ((a 9 0).toNatClampNeg) (p2))) 2 (upd (a 2) ((a 9 0).toNatClampNeg) (p3)))) := hD
  refine lv_aload_n hx hb dX2_add_30 rfl (lv_at hl 0 rfl) ?_
  refine lv_dup hx hb dX2_add_31 rfl ?_
  refine va_get (D := D) (ci := 2) (v := .int (a 9 0)) (C := RX2) (T := TX2) (N := 4) hx hb hts inX2_add_2 hown hK hP 0 rfl rfl 3 (by decide) (hts (.fieldLink RX2 21 "CornLaws$Lettings" "size" "I") wdX2_add_1) (fun _ h9 => h9) rfl dX2_add_32 ?_
  refine lv_iconst (v := 1) hx hb dX2_add_35 (by decide) ?_
  refine lv_iadd hx hb dX2_add_36 ?_
  refine va_put (D := D) (ci := 2) (v := .int ((a 9 0) + 1)) (ty := .int) (C := RX2) (T := TX2) (N := 4) hx hb hts inX2_add_2 tyX2 tyX2_ok nmX2 hown hK hP hD hS 0 rfl rfl 3 (by decide) (hts (.fieldLink RX2 21 "CornLaws$Lettings" "size" "I") wdX2_add_1) (fun _ h9 => h9) rfl (by decide +kernel) rfl rfl (Nat.le_of_ble_eq_true rfl) dX2_add_37 (fun H locs hP hD hS => ?_)
  have hP : va_P D vwCl (wL cI q (va_up (va_up (va_up (va_up a 0 (upd (a 0) ((a 9 0).toNatClampNeg) (p1))) 1 (upd (a 1) ((a 9 0).toNatClampNeg) (p2))) 2 (upd (a 2) ((a 9 0).toNatClampNeg) (p3))) 9 (upd (a 9) 0 (((a 9 0) + 1))))) H := hP
  have hD : va_D A (wL cI q (va_up (va_up (va_up (va_up a 0 (upd (a 0) ((a 9 0).toNatClampNeg) (p1))) 1 (upd (a 1) ((a 9 0).toNatClampNeg) (p2))) 2 (upd (a 2) ((a 9 0).toNatClampNeg) (p3))) 9 (upd (a 9) 0 (((a 9 0) + 1))))) := hD
  exact W.vret hx hb hr (fun t ht hW => ⟨⟨(va_up (va_up (va_up (va_up a 0 (upd (a 0) ((a 9 0).toNatClampNeg) (p1))) 1 (upd (a 1) ((a 9 0).toNatClampNeg) (p2))) 2 (upd (a 2) ((a 9 0).toNatClampNeg) (p3))) 9 (upd (a 9) 0 (((a 9 0) + 1)))), rfl, h, by show va_P D vwCl _ t.heap; rw [ht]; exact hP⟩, hS.F ht⟩) hS.2.2 dX2_add_40
