def zu0 : XS := (z0, z0, z0, z0, z0, (fun _ => 0), 0)
set_option maxRecDepth 20000 in
theorem wdX5_init_0 : Cond.methodLink RX5 3 objectInit ∈ wsX5_init := by decide +kernel
set_option maxRecDepth 20000 in
theorem wdX5_init_1 : Cond.instanceMethod objectInit ∈ wsX5_init := by decide +kernel
set_option maxRecDepth 20000 in
theorem wdX5_init_2 : Cond.classLink RX5 9 RX3 ∈ wsX5_init := by decide +kernel
set_option maxRecDepth 20000 in
theorem wdX5_init_3 : Cond.instantiable RX3 8 ∈ wsX5_init := by decide +kernel
set_option maxRecDepth 20000 in
theorem wdX5_init_4 : Cond.initialized RX3 ∈ wsX5_init := by decide +kernel
set_option maxRecDepth 20000 in
theorem wdX5_init_5 : Cond.instanceMethod yX3_init ∈ wsX5_init := by decide +kernel
set_option maxRecDepth 20000 in
theorem wdX5_init_6 : Cond.fieldLink RX5 12 "CornLaws" "returns" "LCornLaws$Returns;" ∈ wsX5_init := by decide +kernel
set_option maxRecDepth 20000 in
theorem wdX5_init_7 : Cond.classLink RX5 16 RX4 ∈ wsX5_init := by decide +kernel
set_option maxRecDepth 20000 in
theorem wdX5_init_8 : Cond.instantiable RX4 7 ∈ wsX5_init := by decide +kernel
set_option maxRecDepth 20000 in
theorem wdX5_init_9 : Cond.initialized RX4 ∈ wsX5_init := by decide +kernel
set_option maxRecDepth 20000 in
theorem wdX5_init_10 : Cond.instanceMethod yX4_init ∈ wsX5_init := by decide +kernel
set_option maxRecDepth 20000 in
theorem wdX5_init_11 : Cond.fieldLink RX5 19 "CornLaws" "scales" "LCornLaws$Scales;" ∈ wsX5_init := by decide +kernel
set_option maxRecDepth 20000 in
theorem wdX5_init_12 : Cond.classLink RX5 23 RX1 ∈ wsX5_init := by decide +kernel
set_option maxRecDepth 20000 in
theorem wdX5_init_13 : Cond.instantiable RX1 3 ∈ wsX5_init := by decide +kernel
set_option maxRecDepth 20000 in
theorem wdX5_init_14 : Cond.initialized RX1 ∈ wsX5_init := by decide +kernel
set_option maxRecDepth 20000 in
theorem wdX5_init_15 : Cond.instanceMethod yX1_init ∈ wsX5_init := by decide +kernel
set_option maxRecDepth 20000 in
theorem wdX5_init_16 : Cond.fieldLink RX5 26 "CornLaws" "hangings" "LCornLaws$Hangings;" ∈ wsX5_init := by decide +kernel
set_option maxRecDepth 20000 in
theorem wdX5_init_17 : Cond.classLink RX5 30 RX0 ∈ wsX5_init := by decide +kernel
set_option maxRecDepth 20000 in
theorem wdX5_init_18 : Cond.instantiable RX0 7 ∈ wsX5_init := by decide +kernel
set_option maxRecDepth 20000 in
theorem wdX5_init_19 : Cond.initialized RX0 ∈ wsX5_init := by decide +kernel
set_option maxRecDepth 20000 in
theorem wdX5_init_20 : Cond.instanceMethod yX0_init ∈ wsX5_init := by decide +kernel
set_option maxRecDepth 20000 in
theorem wdX5_init_21 : Cond.fieldLink RX5 33 "CornLaws" "cargoes" "LCornLaws$Cargoes;" ∈ wsX5_init := by decide +kernel
set_option maxRecDepth 20000 in
theorem wdX5_init_22 : Cond.classLink RX5 37 RX2 ∈ wsX5_init := by decide +kernel
set_option maxRecDepth 20000 in
theorem wdX5_init_23 : Cond.instantiable RX2 4 ∈ wsX5_init := by decide +kernel
set_option maxRecDepth 20000 in
theorem wdX5_init_24 : Cond.initialized RX2 ∈ wsX5_init := by decide +kernel
set_option maxRecDepth 20000 in
theorem wdX5_init_25 : Cond.instanceMethod yX2_init ∈ wsX5_init := by decide +kernel
set_option maxRecDepth 20000 in
theorem wdX5_init_26 : Cond.fieldLink RX5 40 "CornLaws" "lettings" "LCornLaws$Lettings;" ∈ wsX5_init := by decide +kernel
set_option maxRecDepth 20000 in
theorem inX5_init_5 : ∀ w ∈ wsX50, w ∈ wsX5_init := by decide +kernel
set_option maxRecDepth 20000 in
theorem inX5_init_0 : ∀ w ∈ wsX00, w ∈ wsX5_init := by decide +kernel
set_option maxRecDepth 20000 in
theorem inX5_init_1 : ∀ w ∈ wsX10, w ∈ wsX5_init := by decide +kernel
set_option maxRecDepth 20000 in
theorem inX5_init_2 : ∀ w ∈ wsX20, w ∈ wsX5_init := by decide +kernel
set_option maxRecDepth 20000 in
theorem inX5_init_3 : ∀ w ∈ wsX30, w ∈ wsX5_init := by decide +kernel
set_option maxRecDepth 20000 in
theorem inX5_init_4 : ∀ w ∈ wsX40, w ∈ wsX5_init := by decide +kernel
set_option maxHeartbeats 4000000 in
set_option maxRecDepth 100000 in
theorem cX5_init_ok (l : Launch) (D : va_G) (h0 sz : Nat) : Met l yX5_init wsX5_init ({ frames := 2, cells := 46, slots := 1054, locals := 32 } : Room) (va_Pc [.ref h0] (fun U => U.heap.size = sz ∧ va_P D vwCl [(h0, .inr (5, [.null, .null, .null, .null, .null, .int 0, .int 0, .long 0]))] U.heap ∧ va_K D vwCl [] U ∧ va_D (fun _ => True) [(h0, .inr (5, [.null, .null, .null, .null, .null, .int 0, .int 0, .long 0]))] ∧ va_AOA .int U ∧ va_Nw (.methodLinkNest RX5 11 yX3_init RX5) U ∧ va_Nw (.methodLinkNest RX5 18 yX4_init RX5) U ∧ va_Nw (.methodLinkNest RX5 25 yX1_init RX5) U ∧ va_Nw (.methodLinkNest RX5 32 yX0_init RX5) U ∧ va_Nw (.methodLinkNest RX5 39 yX2_init RX5) U)) (va_Qv (fun (_ : (Nat → Nat → Nat) × ClassId × ClassId) => True) (fun (z : (Nat → Nat → Nat) × ClassId × ClassId) (t : State) => z.1 0 0 = h0 ∧ va_P D vwCl (wX z.2.1 z.2.2 z.1 zu0) t.heap ∧ va_K D vwCl (tz z.2.1 z.2.2) t ∧ va_D (va_A [(h0, .inr (5, [.null, .null, .null, .null, .null, .int 0, .int 0, .long 0]))] sz) (wX z.2.1 z.2.2 z.1 zu0)) (va_A [(h0, .inr (5, [.null, .null, .null, .null, .null, .int 0, .int 0, .long 0]))] sz)) 46 1054 (va_A [(h0, .inr (5, [.null, .null, .null, .null, .null, .int 0, .int 0, .long 0]))] sz) := by
  refine Met.ofW (cc := cX5_init) (maxL := 1) (ret := none) (by decide) rfl ?_
  intro p e s m args below meth c s₁ B hml hv
  obtain ⟨rfl, hsz, hP, hK, hD0, hAO, hN0, hN1, hN2, hN3, hN4⟩ := hv
  have hx := B.exec
  have hb := B.bytes
  have hr := B.returns
  have hts := atoms_spec (ws := wsX5_init) B.pre
  have hown : s.vm.findClass RX5 = some m.cls := findClass_of_methodNamed B.named
  have hlocks := B.notSynchronized
  have hin : meth.name = "<init>" := (name_of_methodNamed B.named B.method).1
  subst hsz
  have hD := hD0.self (sz := s.heap.size)
  generalize hAe : va_A [(h0, .inr (5, [.null, .null, .null, .null, .null, .int 0, .int 0, .long 0]))] s.heap.size = A at hD ⊢
  have hA : ∀ q : Nat, s.heap.size ≤ q → A q := fun q h => by rw [← hAe]; exact Or.inr h
  have hS : va_S A s.heap s.heap [] := va_S.rf
  have hP : va_P D vwCl [(h0, .inr (5, [.null, .null, .null, .null, .null, .int 0, .int 0, .long 0]))] s.heap := hP
  have hl := lv_entry ([.ref h0]) (n := 1) (Nat.le_of_ble_eq_true rfl)
  rw [lg_entry_eq]
  generalize (lg_sl ([.ref h0]) ++ List.replicate (1 - (lg_sl ([.ref h0])).length) Slot.unset).toArray = ls at hl ⊢
  have hl : lv_has ls 1 [(0, .ref h0)] := hl
  refine lv_aload_n hx hb dX5_init_0 rfl (lv_at hl 0 rfl) ?_
  refine W.objInit hx hb hown (hts (.methodLink RX5 3 objectInit) wdX5_init_0) (hts (.instanceMethod objectInit) wdX5_init_1) (hts (.code objectInit ⟨#[0xb1]⟩ 1 none) (List.mem_of_getElem? (i := 3) rfl)) rfl (by rw [hml]; exact hl.1) rfl dX5_init_1 (Nat.le_of_ble_eq_true rfl) (Nat.le_of_ble_eq_true rfl) ?_
  refine W.eq (g2 := F0 m 4 ls []) rfl ?_
  refine lv_aload_n hx hb dX5_init_4 rfl (lv_at hl 0 rfl) ?_
  refine va_new (ci := 3) (fs := [.null, .null, .null, .null, .null, .null, .null, .int 0]) (C := RX3) (T := TX3) (N := 8) hx hb hts inX5_init_3 tyX3 tyX3_ok hown (hts (.classLink RX5 9 RX3) wdX5_init_2) (hts (.instantiable RX3 8) wdX5_init_3) (hts (.initialized RX3) wdX5_init_4) hK hP hD hS hA rfl (fun j hj => by rcases (show j = 0 ∨ j = 1 ∨ j = 2 ∨ j = 3 ∨ j = 4 ∨ j = 5 ∨ j = 6 ∨ j = 7 by omega) with rfl | rfl | rfl | rfl | rfl | rfl | rfl | rfl <;> rfl) (Nat.le_of_ble_eq_true rfl) (Nat.le_of_ble_eq_true rfl) dX5_init_5 (fun qa H hP hD hS => ?_)
  have hP : va_P D vwCl ([(h0, .inr (5, [.null, .null, .null, .null, .null, .int 0, .int 0, .long 0]))] ++ [(qa, .inr (3, [.null, .null, .null, .null, .null, .null, .null, .int 0]))]) H := hP
  have hD : va_D A ([(h0, .inr (5, [.null, .null, .null, .null, .null, .int 0, .int 0, .long 0]))] ++ [(qa, .inr (3, [.null, .null, .null, .null, .null, .null, .null, .int 0]))]) := hD
  refine lv_dup hx hb dX5_init_8 rfl ?_
  have hPc := hP.sub (ws' := [(qa, .inr (3, [.null, .null, .null, .null, .null, .null, .null, .int 0]))]) [1] rfl
  have hDc := hD.sub (ws' := [(qa, .inr (3, [.null, .null, .null, .null, .null, .null, .null, .int 0]))]) [1] (by decide) rfl
  have hKc := hK.sub (tys' := []) [] rfl
  have hFc := va_free (wc := [(qa, .inr (3, [.null, .null, .null, .null, .null, .null, .null, .int 0]))]) hD hS hA [1] rfl
  refine va_callv (va_runIN (As := []) (rest := [.ref qa, .ref h0]) ⟨hx, hb, hml, hown, hts⟩ (cX3_init_ok l D qa H.size) ⟨va_cnB 0 hts gX5_init_X3_init_n11 rfl rfl rfl hN0 (hts (.initialized RX3) wdX5_init_4) (by decide +kernel) ⟨Nat.le_of_ble_eq_true rfl, Nat.le_of_ble_eq_true rfl⟩, rfl, (hts (.instanceMethod yX3_init) wdX5_init_5)⟩ ⟨fun a U g mk q => by obtain ⟨q0, q1, qP, qK, qD⟩ := q; exact ⟨q0, q1, qP, va_K.moved (u := U) (U := U.calling g mk a) (Vm.Alike.refl U.vm) qK, qD⟩, fun U hU hW => ⟨rfl, by rw [hU], by rw [hU]; exact hPc, va_K.moved hW.alike hKc, hDc.weaken (fun _ _ _ _ => trivial)⟩⟩ rfl rfl hl.1 rfl (lv_room (Nat.le_of_ble_eq_true rfl)) dX5_init_9 ⟨Nat.le_of_ble_eq_true rfl, Nat.le_of_ble_eq_true rfl⟩) hS (fun q _ h => hFc q h) hFc (fun z t H1 locs ht hvm hw hB hz1 hk1 hS => ?_)
  obtain ⟨Q1, c1⟩ := z
  obtain ⟨hq0, hP1, hK1, hD1⟩ := hB
  have hq0 : Q1 0 = qa := hq0
  have hP1 : va_P D vwCl (wR c1 Q1 z0) t.heap := hP1
  have hD1 : va_D (va_A [(qa, .inr (3, [.null, .null, .null, .null, .null, .null, .null, .int 0]))] H.size) (wR c1 Q1 z0) := hD1
  have hK1 : va_K D vwCl ([(c1, .int)]) t := hK1
  rw [ht] at hP1
  have hK1 := va_K.moved hvm.symm hK1
  obtain ⟨hPj, hDj⟩ := va_join (wr := [(h0, .inr (5, [.null, .null, .null, .null, .null, .int 0, .int 0, .long 0]))]) (w1 := wR c1 Q1 z0) hP hD [1] [0] rfl rfl (by decide) (by decide) hk1 hFc hP1 hD1
  have hK := hK.app hK1
  generalize H1 = H at hPj hS ⊢
  subst hq0
  have hK : va_K D vwCl [(c1, .int)] s := hK
  have hP : va_P D vwCl ([(h0, .inr (5, [.null, .null, .null, .null, .null, .int 0, .int 0, .long 0]))] ++ (wR c1 Q1 z0)) H := hPj
  have hD : va_D A ([(h0, .inr (5, [.null, .null, .null, .null, .null, .int 0, .int 0, .long 0]))] ++ (wR c1 Q1 z0)) := hDj
  refine va_putF (D := D) (ci := 5) (v := .ref (Q1 0)) (ty := .object "CornLaws$Returns") (C := RX5) (T := TX5) (N := 8) hx hb hts inX5_init_5 tyX5 tyX5_ok nmX5 hown hK hP hD hS 0 rfl rfl 0 (by decide) (hts (.fieldLink RX5 12 "CornLaws" "returns" "LCornLaws$Returns;") wdX5_init_6) (fun _ h9 => h9) rfl hin rfl (by decide +kernel) rfl rfl (Nat.le_of_ble_eq_true rfl) dX5_init_12 (fun H locs hP hD hS => ?_)
  have hP : va_P D vwCl ([(h0, .inr (5, [.ref (Q1 0), .null, .null, .null, .null, .int 0, .int 0, .long 0]))] ++ (wR c1 Q1 z0)) H := hP
  have hD : va_D A ([(h0, .inr (5, [.ref (Q1 0), .null, .null, .null, .null, .int 0, .int 0, .long 0]))] ++ (wR c1 Q1 z0)) := hD
  refine lv_aload_n hx hb dX5_init_15 rfl (lv_at hl 0 rfl) ?_
  refine va_new (ci := 4) (fs := [.null, .null, .null, .null, .null, .null, .int 0]) (C := RX4) (T := TX4) (N := 7) hx hb hts inX5_init_4 tyX4 tyX4_ok hown (hts (.classLink RX5 16 RX4) wdX5_init_7) (hts (.instantiable RX4 7) wdX5_init_8) (hts (.initialized RX4) wdX5_init_9) hK hP hD hS hA rfl (fun j hj => by rcases (show j = 0 ∨ j = 1 ∨ j = 2 ∨ j = 3 ∨ j = 4 ∨ j = 5 ∨ j = 6 by omega) with rfl | rfl | rfl | rfl | rfl | rfl | rfl <;> rfl) (Nat.le_of_ble_eq_true rfl) (Nat.le_of_ble_eq_true rfl) dX5_init_16 (fun qa H hP hD hS => ?_)
  have hP : va_P D vwCl ([(h0, .inr (5, [.ref (Q1 0), .null, .null, .null, .null, .int 0, .int 0, .long 0]))] ++ (wR c1 Q1 z0) ++ [(qa, .inr (4, [.null, .null, .null, .null, .null, .null, .int 0]))]) H := hP
  have hD : va_D A ([(h0, .inr (5, [.ref (Q1 0), .null, .null, .null, .null, .int 0, .int 0, .long 0]))] ++ (wR c1 Q1 z0) ++ [(qa, .inr (4, [.null, .null, .null, .null, .null, .null, .int 0]))]) := hD
  refine lv_dup hx hb dX5_init_19 rfl ?_
  have hPc := hP.sub (ws' := [(qa, .inr (4, [.null, .null, .null, .null, .null, .null, .int 0]))]) [9] rfl
  have hDc := hD.sub (ws' := [(qa, .inr (4, [.null, .null, .null, .null, .null, .null, .int 0]))]) [9] (by decide) rfl
  have hKc := hK.sub (tys' := []) [] rfl
  have hFc := va_free (wc := [(qa, .inr (4, [.null, .null, .null, .null, .null, .null, .int 0]))]) hD hS hA [9] rfl
  refine va_callv (va_runIN (As := []) (rest := [.ref qa, .ref h0]) ⟨hx, hb, hml, hown, hts⟩ (cX4_init_ok l D qa H.size) ⟨va_cnB 0 hts gX5_init_X4_init_n18 rfl rfl rfl hN1 (hts (.initialized RX4) wdX5_init_9) (by decide +kernel) ⟨Nat.le_of_ble_eq_true rfl, Nat.le_of_ble_eq_true rfl⟩, rfl, (hts (.instanceMethod yX4_init) wdX5_init_10)⟩ ⟨fun a U g mk q => by obtain ⟨q0, q1, qP, qK, qD, qA⟩ := q; exact ⟨q0, q1, qP, va_K.moved (u := U) (U := U.calling g mk a) (Vm.Alike.refl U.vm) qK, qD, va_AOA.moved (u := U) (U := U.calling g mk a) (Vm.Alike.refl U.vm) qA⟩, fun U hU hW => ⟨rfl, by rw [hU], by rw [hU]; exact hPc, va_K.moved hW.alike hKc, hDc.weaken (fun _ _ _ _ => trivial), va_AOA.moved hW.alike hAO⟩⟩ rfl rfl hl.1 rfl (lv_room (Nat.le_of_ble_eq_true rfl)) dX5_init_20 ⟨Nat.le_of_ble_eq_true rfl, Nat.le_of_ble_eq_true rfl⟩) hS (fun q _ h => hFc q h) hFc (fun z t H1 locs ht hvm hw hB hz1 hk1 hS => ?_)
  obtain ⟨Q2, c, c2⟩ := z
  obtain ⟨hq0, hP1, hK1, hD1⟩ := hB
  have hq0 : Q2 0 = qa := hq0
  have hP1 : va_P D vwCl (wS c c2 Q2 z0) t.heap := hP1
  have hD1 : va_D (va_A [(qa, .inr (4, [.null, .null, .null, .null, .null, .null, .int 0]))] H.size) (wS c c2 Q2 z0) := hD1
  have hK1 : va_K D vwCl (tz c c2) t := hK1
  rw [ht] at hP1
  have hK1 := va_K.moved hvm.symm hK1
  obtain ⟨hPj, hDj⟩ := va_join (wr := [(h0, .inr (5, [.ref (Q1 0), .null, .null, .null, .null, .int 0, .int 0, .long 0]))] ++ (wR c1 Q1 z0)) (w1 := wS c c2 Q2 z0) hP hD [9] [0, 1, 2, 3, 4, 5, 6, 7, 8] rfl rfl (by decide) (by decide) hk1 hFc hP1 hD1
  have hK := hK.app hK1
  generalize H1 = H at hPj hS ⊢
  subst hq0
  have ec : c1 = c := z_cEq (ty := .int) (fun _ h => by cases h) 0 1 hK rfl rfl
  subst ec
  have hK : va_K D vwCl (tz c1 c2) s := hK.sub [0, 2] rfl
  have hP : va_P D vwCl ([(h0, .inr (5, [.ref (Q1 0), .null, .null, .null, .null, .int 0, .int 0, .long 0]))] ++ (wR c1 Q1 z0) ++ (wS c1 c2 Q2 z0)) H := hPj
  have hD : va_D A ([(h0, .inr (5, [.ref (Q1 0), .null, .null, .null, .null, .int 0, .int 0, .long 0]))] ++ (wR c1 Q1 z0) ++ (wS c1 c2 Q2 z0)) := hDj
  refine va_putF (D := D) (ci := 5) (v := .ref (Q2 0)) (ty := .object "CornLaws$Scales") (C := RX5) (T := TX5) (N := 8) hx hb hts inX5_init_5 tyX5 tyX5_ok nmX5 hown hK hP hD hS 0 rfl rfl 1 (by decide) (hts (.fieldLink RX5 19 "CornLaws" "scales" "LCornLaws$Scales;") wdX5_init_11) (fun _ h9 => h9) rfl hin rfl (by decide +kernel) rfl rfl (Nat.le_of_ble_eq_true rfl) dX5_init_23 (fun H locs hP hD hS => ?_)
  have hP : va_P D vwCl ([(h0, .inr (5, [.ref (Q1 0), .ref (Q2 0), .null, .null, .null, .int 0, .int 0, .long 0]))] ++ (wR c1 Q1 z0) ++ (wS c1 c2 Q2 z0)) H := hP
  have hD : va_D A ([(h0, .inr (5, [.ref (Q1 0), .ref (Q2 0), .null, .null, .null, .int 0, .int 0, .long 0]))] ++ (wR c1 Q1 z0) ++ (wS c1 c2 Q2 z0)) := hD
  refine lv_aload_n hx hb dX5_init_26 rfl (lv_at hl 0 rfl) ?_
  refine va_new (ci := 1) (fs := [.null, .null, .null]) (C := RX1) (T := TX1) (N := 3) hx hb hts inX5_init_1 tyX1 tyX1_ok hown (hts (.classLink RX5 23 RX1) wdX5_init_12) (hts (.instantiable RX1 3) wdX5_init_13) (hts (.initialized RX1) wdX5_init_14) hK hP hD hS hA rfl (fun j hj => by rcases (show j = 0 ∨ j = 1 ∨ j = 2 by omega) with rfl | rfl | rfl <;> rfl) (Nat.le_of_ble_eq_true rfl) (Nat.le_of_ble_eq_true rfl) dX5_init_27 (fun qa H hP hD hS => ?_)
  have hP : va_P D vwCl ([(h0, .inr (5, [.ref (Q1 0), .ref (Q2 0), .null, .null, .null, .int 0, .int 0, .long 0]))] ++ (wR c1 Q1 z0) ++ (wS c1 c2 Q2 z0) ++ [(qa, .inr (1, [.null, .null, .null]))]) H := hP
  have hD : va_D A ([(h0, .inr (5, [.ref (Q1 0), .ref (Q2 0), .null, .null, .null, .int 0, .int 0, .long 0]))] ++ (wR c1 Q1 z0) ++ (wS c1 c2 Q2 z0) ++ [(qa, .inr (1, [.null, .null, .null]))]) := hD
  refine lv_dup hx hb dX5_init_30 rfl ?_
  have hPc := hP.sub (ws' := [(qa, .inr (1, [.null, .null, .null]))]) [32] rfl
  have hDc := hD.sub (ws' := [(qa, .inr (1, [.null, .null, .null]))]) [32] (by decide) rfl
  have hKc := hK.sub (tys' := []) [] rfl
  have hFc := va_free (wc := [(qa, .inr (1, [.null, .null, .null]))]) hD hS hA [32] rfl
  refine va_callv (va_runIN (As := []) (rest := [.ref qa, .ref h0]) ⟨hx, hb, hml, hown, hts⟩ (cX1_init_ok l D qa H.size) ⟨va_cnB 0 hts gX5_init_X1_init_n25 rfl rfl rfl hN2 (hts (.initialized RX1) wdX5_init_14) (by decide +kernel) ⟨Nat.le_of_ble_eq_true rfl, Nat.le_of_ble_eq_true rfl⟩, rfl, (hts (.instanceMethod yX1_init) wdX5_init_15)⟩ ⟨fun a U g mk q => by obtain ⟨q0, q1, qP, qK, qD⟩ := q; exact ⟨q0, q1, qP, va_K.moved (u := U) (U := U.calling g mk a) (Vm.Alike.refl U.vm) qK, qD⟩, fun U hU hW => ⟨rfl, by rw [hU], by rw [hU]; exact hPc, va_K.moved hW.alike hKc, hDc.weaken (fun _ _ _ _ => trivial)⟩⟩ rfl rfl hl.1 rfl (lv_room (Nat.le_of_ble_eq_true rfl)) dX5_init_31 ⟨Nat.le_of_ble_eq_true rfl, Nat.le_of_ble_eq_true rfl⟩) hS (fun q _ h => hFc q h) hFc (fun z t H1 locs ht hvm hw hB hz1 hk1 hS => ?_)
  obtain ⟨Q3, c⟩ := z
  obtain ⟨hq0, hP1, hK1, hD1⟩ := hB
  have hq0 : Q3 0 = qa := hq0
  have hP1 : va_P D vwCl (wH c Q3 z0) t.heap := hP1
  have hD1 : va_D (va_A [(qa, .inr (1, [.null, .null, .null]))] H.size) (wH c Q3 z0) := hD1
  have hK1 : va_K D vwCl ([(c, .int)]) t := hK1
  rw [ht] at hP1
  have hK1 := va_K.moved hvm.symm hK1
  obtain ⟨hPj, hDj⟩ := va_join (wr := [(h0, .inr (5, [.ref (Q1 0), .ref (Q2 0), .null, .null, .null, .int 0, .int 0, .long 0]))] ++ (wR c1 Q1 z0) ++ (wS c1 c2 Q2 z0)) (w1 := wH c Q3 z0) hP hD [32] [0, 1, 2, 3, 4, 5, 6, 7, 8, 9, 10, 11, 12, 13, 14, 15, 16, 17, 18, 19, 20, 21, 22, 23, 24, 25, 26, 27, 28, 29, 30, 31] rfl rfl (by decide) (by decide) hk1 hFc hP1 hD1
  have hK := hK.app hK1
  generalize H1 = H at hPj hS ⊢
  subst hq0
  have ec : c1 = c := z_cEq (ty := .int) (fun _ h => by cases h) 0 2 hK rfl rfl
  subst ec
  have hK : va_K D vwCl (tz c1 c2) s := hK.sub [0, 1] rfl
  have hP : va_P D vwCl ([(h0, .inr (5, [.ref (Q1 0), .ref (Q2 0), .null, .null, .null, .int 0, .int 0, .long 0]))] ++ (wR c1 Q1 z0) ++ (wS c1 c2 Q2 z0) ++ (wH c1 Q3 z0)) H := hPj
  have hD : va_D A ([(h0, .inr (5, [.ref (Q1 0), .ref (Q2 0), .null, .null, .null, .int 0, .int 0, .long 0]))] ++ (wR c1 Q1 z0) ++ (wS c1 c2 Q2 z0) ++ (wH c1 Q3 z0)) := hDj
  refine va_putF (D := D) (ci := 5) (v := .ref (Q3 0)) (ty := .object "CornLaws$Hangings") (C := RX5) (T := TX5) (N := 8) hx hb hts inX5_init_5 tyX5 tyX5_ok nmX5 hown hK hP hD hS 0 rfl rfl 2 (by decide) (hts (.fieldLink RX5 26 "CornLaws" "hangings" "LCornLaws$Hangings;") wdX5_init_16) (fun _ h9 => h9) rfl hin rfl (by decide +kernel) rfl rfl (Nat.le_of_ble_eq_true rfl) dX5_init_34 (fun H locs hP hD hS => ?_)
  have hP : va_P D vwCl ([(h0, .inr (5, [.ref (Q1 0), .ref (Q2 0), .ref (Q3 0), .null, .null, .int 0, .int 0, .long 0]))] ++ (wR c1 Q1 z0) ++ (wS c1 c2 Q2 z0) ++ (wH c1 Q3 z0)) H := hP
  have hD : va_D A ([(h0, .inr (5, [.ref (Q1 0), .ref (Q2 0), .ref (Q3 0), .null, .null, .int 0, .int 0, .long 0]))] ++ (wR c1 Q1 z0) ++ (wS c1 c2 Q2 z0) ++ (wH c1 Q3 z0)) := hD
  refine lv_aload_n hx hb dX5_init_37 rfl (lv_at hl 0 rfl) ?_
  refine va_new (ci := 0) (fs := [.null, .null, .null, .null, .null, .null, .int 0]) (C := RX0) (T := TX0) (N := 7) hx hb hts inX5_init_0 tyX0 tyX0_ok hown (hts (.classLink RX5 30 RX0) wdX5_init_17) (hts (.instantiable RX0 7) wdX5_init_18) (hts (.initialized RX0) wdX5_init_19) hK hP hD hS hA rfl (fun j hj => by rcases (show j = 0 ∨ j = 1 ∨ j = 2 ∨ j = 3 ∨ j = 4 ∨ j = 5 ∨ j = 6 by omega) with rfl | rfl | rfl | rfl | rfl | rfl | rfl <;> rfl) (Nat.le_of_ble_eq_true rfl) (Nat.le_of_ble_eq_true rfl) dX5_init_38 (fun qa H hP hD hS => ?_)
  have hP : va_P D vwCl ([(h0, .inr (5, [.ref (Q1 0), .ref (Q2 0), .ref (Q3 0), .null, .null, .int 0, .int 0, .long 0]))] ++ (wR c1 Q1 z0) ++ (wS c1 c2 Q2 z0) ++ (wH c1 Q3 z0) ++ [(qa, .inr (0, [.null, .null, .null, .null, .null, .null, .int 0]))]) H := hP
  have hD : va_D A ([(h0, .inr (5, [.ref (Q1 0), .ref (Q2 0), .ref (Q3 0), .null, .null, .int 0, .int 0, .long 0]))] ++ (wR c1 Q1 z0) ++ (wS c1 c2 Q2 z0) ++ (wH c1 Q3 z0) ++ [(qa, .inr (0, [.null, .null, .null, .null, .null, .null, .int 0]))]) := hD
  refine lv_dup hx hb dX5_init_41 rfl ?_
  have hPc := hP.sub (ws' := [(qa, .inr (0, [.null, .null, .null, .null, .null, .null, .int 0]))]) [36] rfl
  have hDc := hD.sub (ws' := [(qa, .inr (0, [.null, .null, .null, .null, .null, .null, .int 0]))]) [36] (by decide) rfl
  have hKc := hK.sub (tys' := []) [] rfl
  have hFc := va_free (wc := [(qa, .inr (0, [.null, .null, .null, .null, .null, .null, .int 0]))]) hD hS hA [36] rfl
  refine va_callv (va_runIN (As := []) (rest := [.ref qa, .ref h0]) ⟨hx, hb, hml, hown, hts⟩ (cX0_init_ok l D qa H.size) ⟨va_cnB 0 hts gX5_init_X0_init_n32 rfl rfl rfl hN3 (hts (.initialized RX0) wdX5_init_19) (by decide +kernel) ⟨Nat.le_of_ble_eq_true rfl, Nat.le_of_ble_eq_true rfl⟩, rfl, (hts (.instanceMethod yX0_init) wdX5_init_20)⟩ ⟨fun a U g mk q => by obtain ⟨q0, q1, qP, qK, qD⟩ := q; exact ⟨q0, q1, qP, va_K.moved (u := U) (U := U.calling g mk a) (Vm.Alike.refl U.vm) qK, qD⟩, fun U hU hW => ⟨rfl, by rw [hU], by rw [hU]; exact hPc, va_K.moved hW.alike hKc, hDc.weaken (fun _ _ _ _ => trivial)⟩⟩ rfl rfl hl.1 rfl (lv_room (Nat.le_of_ble_eq_true rfl)) dX5_init_42 ⟨Nat.le_of_ble_eq_true rfl, Nat.le_of_ble_eq_true rfl⟩) hS (fun q _ h => hFc q h) hFc (fun z t H1 locs ht hvm hw hB hz1 hk1 hS => ?_)
  obtain ⟨Q4, c⟩ := z
  obtain ⟨hq0, hP1, hK1, hD1⟩ := hB
  have hq0 : Q4 0 = qa := hq0
  have hP1 : va_P D vwCl (wC c Q4 z0) t.heap := hP1
  have hD1 : va_D (va_A [(qa, .inr (0, [.null, .null, .null, .null, .null, .null, .int 0]))] H.size) (wC c Q4 z0) := hD1
  have hK1 : va_K D vwCl ([(c, .int)]) t := hK1
  rw [ht] at hP1
  have hK1 := va_K.moved hvm.symm hK1
  obtain ⟨hPj, hDj⟩ := va_join (wr := [(h0, .inr (5, [.ref (Q1 0), .ref (Q2 0), .ref (Q3 0), .null, .null, .int 0, .int 0, .long 0]))] ++ (wR c1 Q1 z0) ++ (wS c1 c2 Q2 z0) ++ (wH c1 Q3 z0)) (w1 := wC c Q4 z0) hP hD [36] [0, 1, 2, 3, 4, 5, 6, 7, 8, 9, 10, 11, 12, 13, 14, 15, 16, 17, 18, 19, 20, 21, 22, 23, 24, 25, 26, 27, 28, 29, 30, 31, 32, 33, 34, 35] rfl rfl (by decide) (by decide) hk1 hFc hP1 hD1
  have hK := hK.app hK1
  generalize H1 = H at hPj hS ⊢
  subst hq0
  have ec : c1 = c := z_cEq (ty := .int) (fun _ h => by cases h) 0 2 hK rfl rfl
  subst ec
  have hK : va_K D vwCl (tz c1 c2) s := hK.sub [0, 1] rfl
  have hP : va_P D vwCl ([(h0, .inr (5, [.ref (Q1 0), .ref (Q2 0), .ref (Q3 0), .null, .null, .int 0, .int 0, .long 0]))] ++ (wR c1 Q1 z0) ++ (wS c1 c2 Q2 z0) ++ (wH c1 Q3 z0) ++ (wC c1 Q4 z0)) H := hPj
  have hD : va_D A ([(h0, .inr (5, [.ref (Q1 0), .ref (Q2 0), .ref (Q3 0), .null, .null, .int 0, .int 0, .long 0]))] ++ (wR c1 Q1 z0) ++ (wS c1 c2 Q2 z0) ++ (wH c1 Q3 z0) ++ (wC c1 Q4 z0)) := hDj
  refine va_putF (D := D) (ci := 5) (v := .ref (Q4 0)) (ty := .object "CornLaws$Cargoes") (C := RX5) (T := TX5) (N := 8) hx hb hts inX5_init_5 tyX5 tyX5_ok nmX5 hown hK hP hD hS 0 rfl rfl 3 (by decide) (hts (.fieldLink RX5 33 "CornLaws" "cargoes" "LCornLaws$Cargoes;") wdX5_init_21) (fun _ h9 => h9) rfl hin rfl (by decide +kernel) rfl rfl (Nat.le_of_ble_eq_true rfl) dX5_init_45 (fun H locs hP hD hS => ?_)
  have hP : va_P D vwCl ([(h0, .inr (5, [.ref (Q1 0), .ref (Q2 0), .ref (Q3 0), .ref (Q4 0), .null, .int 0, .int 0, .long 0]))] ++ (wR c1 Q1 z0) ++ (wS c1 c2 Q2 z0) ++ (wH c1 Q3 z0) ++ (wC c1 Q4 z0)) H := hP
  have hD : va_D A ([(h0, .inr (5, [.ref (Q1 0), .ref (Q2 0), .ref (Q3 0), .ref (Q4 0), .null, .int 0, .int 0, .long 0]))] ++ (wR c1 Q1 z0) ++ (wS c1 c2 Q2 z0) ++ (wH c1 Q3 z0) ++ (wC c1 Q4 z0)) := hD
  refine lv_aload_n hx hb dX5_init_48 rfl (lv_at hl 0 rfl) ?_
  refine va_new (ci := 2) (fs := [.null, .null, .null, .int 0]) (C := RX2) (T := TX2) (N := 4) hx hb hts inX5_init_2 tyX2 tyX2_ok hown (hts (.classLink RX5 37 RX2) wdX5_init_22) (hts (.instantiable RX2 4) wdX5_init_23) (hts (.initialized RX2) wdX5_init_24) hK hP hD hS hA rfl (fun j hj => by rcases (show j = 0 ∨ j = 1 ∨ j = 2 ∨ j = 3 by omega) with rfl | rfl | rfl | rfl <;> rfl) (Nat.le_of_ble_eq_true rfl) (Nat.le_of_ble_eq_true rfl) dX5_init_49 (fun qa H hP hD hS => ?_)
  have hP : va_P D vwCl ([(h0, .inr (5, [.ref (Q1 0), .ref (Q2 0), .ref (Q3 0), .ref (Q4 0), .null, .int 0, .int 0, .long 0]))] ++ (wR c1 Q1 z0) ++ (wS c1 c2 Q2 z0) ++ (wH c1 Q3 z0) ++ (wC c1 Q4 z0) ++ [(qa, .inr (2, [.null, .null, .null, .int 0]))]) H := hP
  have hD : va_D A ([(h0, .inr (5, [.ref (Q1 0), .ref (Q2 0), .ref (Q3 0), .ref (Q4 0), .null, .int 0, .int 0, .long 0]))] ++ (wR c1 Q1 z0) ++ (wS c1 c2 Q2 z0) ++ (wH c1 Q3 z0) ++ (wC c1 Q4 z0) ++ [(qa, .inr (2, [.null, .null, .null, .int 0]))]) := hD
  refine lv_dup hx hb dX5_init_52 rfl ?_
  have hPc := hP.sub (ws' := [(qa, .inr (2, [.null, .null, .null, .int 0]))]) [43] rfl
  have hDc := hD.sub (ws' := [(qa, .inr (2, [.null, .null, .null, .int 0]))]) [43] (by decide) rfl
  have hKc := hK.sub (tys' := []) [] rfl
  have hFc := va_free (wc := [(qa, .inr (2, [.null, .null, .null, .int 0]))]) hD hS hA [43] rfl
  refine va_callv (va_runIN (As := []) (rest := [.ref qa, .ref h0]) ⟨hx, hb, hml, hown, hts⟩ (cX2_init_ok l D qa H.size) ⟨va_cnB 0 hts gX5_init_X2_init_n39 rfl rfl rfl hN4 (hts (.initialized RX2) wdX5_init_24) (by decide +kernel) ⟨Nat.le_of_ble_eq_true rfl, Nat.le_of_ble_eq_true rfl⟩, rfl, (hts (.instanceMethod yX2_init) wdX5_init_25)⟩ ⟨fun a U g mk q => by obtain ⟨q0, q1, qP, qK, qD⟩ := q; exact ⟨q0, q1, qP, va_K.moved (u := U) (U := U.calling g mk a) (Vm.Alike.refl U.vm) qK, qD⟩, fun U hU hW => ⟨rfl, by rw [hU], by rw [hU]; exact hPc, va_K.moved hW.alike hKc, hDc.weaken (fun _ _ _ _ => trivial)⟩⟩ rfl rfl hl.1 rfl (lv_room (Nat.le_of_ble_eq_true rfl)) dX5_init_53 ⟨Nat.le_of_ble_eq_true rfl, Nat.le_of_ble_eq_true rfl⟩) hS (fun q _ h => hFc q h) hFc (fun z t H1 locs ht hvm hw hB hz1 hk1 hS => ?_)
  obtain ⟨Q5, c⟩ := z
  obtain ⟨hq0, hP1, hK1, hD1⟩ := hB
  have hq0 : Q5 0 = qa := hq0
  have hP1 : va_P D vwCl (wL c Q5 z0) t.heap := hP1
  have hD1 : va_D (va_A [(qa, .inr (2, [.null, .null, .null, .int 0]))] H.size) (wL c Q5 z0) := hD1
  have hK1 : va_K D vwCl ([(c, .int)]) t := hK1
  rw [ht] at hP1
  have hK1 := va_K.moved hvm.symm hK1
  obtain ⟨hPj, hDj⟩ := va_join (wr := [(h0, .inr (5, [.ref (Q1 0), .ref (Q2 0), .ref (Q3 0), .ref (Q4 0), .null, .int 0, .int 0, .long 0]))] ++ (wR c1 Q1 z0) ++ (wS c1 c2 Q2 z0) ++ (wH c1 Q3 z0) ++ (wC c1 Q4 z0)) (w1 := wL c Q5 z0) hP hD [43] [0, 1, 2, 3, 4, 5, 6, 7, 8, 9, 10, 11, 12, 13, 14, 15, 16, 17, 18, 19, 20, 21, 22, 23, 24, 25, 26, 27, 28, 29, 30, 31, 32, 33, 34, 35, 36, 37, 38, 39, 40, 41, 42] rfl rfl (by decide) (by decide) hk1 hFc hP1 hD1
  have hK := hK.app hK1
  generalize H1 = H at hPj hS ⊢
  subst hq0
  have ec : c1 = c := z_cEq (ty := .int) (fun _ h => by cases h) 0 2 hK rfl rfl
  subst ec
  have hK : va_K D vwCl (tz c1 c2) s := hK.sub [0, 1] rfl
  have hP : va_P D vwCl ([(h0, .inr (5, [.ref (Q1 0), .ref (Q2 0), .ref (Q3 0), .ref (Q4 0), .null, .int 0, .int 0, .long 0]))] ++ (wR c1 Q1 z0) ++ (wS c1 c2 Q2 z0) ++ (wH c1 Q3 z0) ++ (wC c1 Q4 z0) ++ (wL c1 Q5 z0)) H := hPj
  have hD : va_D A ([(h0, .inr (5, [.ref (Q1 0), .ref (Q2 0), .ref (Q3 0), .ref (Q4 0), .null, .int 0, .int 0, .long 0]))] ++ (wR c1 Q1 z0) ++ (wS c1 c2 Q2 z0) ++ (wH c1 Q3 z0) ++ (wC c1 Q4 z0) ++ (wL c1 Q5 z0)) := hDj
  refine va_putF (D := D) (ci := 5) (v := .ref (Q5 0)) (ty := .object "CornLaws$Lettings") (C := RX5) (T := TX5) (N := 8) hx hb hts inX5_init_5 tyX5 tyX5_ok nmX5 hown hK hP hD hS 0 rfl rfl 4 (by decide) (hts (.fieldLink RX5 40 "CornLaws" "lettings" "LCornLaws$Lettings;") wdX5_init_26) (fun _ h9 => h9) rfl hin rfl (by decide +kernel) rfl rfl (Nat.le_of_ble_eq_true rfl) dX5_init_56 (fun H locs hP hD hS => ?_)
  have hP : va_P D vwCl ([(h0, .inr (5, [.ref (Q1 0), .ref (Q2 0), .ref (Q3 0), .ref (Q4 0), .ref (Q5 0), .int 0, .int 0, .long 0]))] ++ (wR c1 Q1 z0) ++ (wS c1 c2 Q2 z0) ++ (wH c1 Q3 z0) ++ (wC c1 Q4 z0) ++ (wL c1 Q5 z0)) H := hP
  have hD : va_D A ([(h0, .inr (5, [.ref (Q1 0), .ref (Q2 0), .ref (Q3 0), .ref (Q4 0), .ref (Q5 0), .int 0, .int 0, .long 0]))] ++ (wR c1 Q1 z0) ++ (wS c1 c2 Q2 z0) ++ (wH c1 Q3 z0) ++ (wC c1 Q4 z0) ++ (wL c1 Q5 z0)) := hD
  have hP9 : va_P D vwCl (wX c1 c2 (fun i => match i with | 0 => (fun _ => h0) | 1 => Q1 | 2 => Q2 | 3 => Q3 | 4 => Q4 | _ => Q5) zu0) H := hP
  have hD9 : va_D A (wX c1 c2 (fun i => match i with | 0 => (fun _ => h0) | 1 => Q1 | 2 => Q2 | 3 => Q3 | 4 => Q4 | _ => Q5) zu0) := hD
  exact W.vret hx hb hr (fun t ht hW => ⟨⟨((fun i => match i with | 0 => (fun _ => h0) | 1 => Q1 | 2 => Q2 | 3 => Q3 | 4 => Q4 | _ => Q5), c1, c2), rfl, trivial, rfl, by show va_P D vwCl _ t.heap; rw [ht]; exact hP9, va_K.moved hW.alike hK, hD9⟩, hS.F ht⟩) hS.2.2 dX5_init_59
