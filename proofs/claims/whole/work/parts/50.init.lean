theorem va_AOA.spec {t : FieldType} {U : State} (h : va_AOA t U) : ∃ comp c k, U.vm.findClass (FieldType.array t).toString = some comp ∧ (U.vm.classes.findIdx? fun (x : Class) => match x.kind with | .array component _ => component == comp | _ => false) = some c ∧ U.vm.classes[c]? = some k ∧ k.kind = .array comp (.array t) ∧ U.vm.findClass ("[" ++ (FieldType.array t).toString) = some c := by
  unfold va_AOA Cond.before at h
  simp only [Cond.holds, Cond.value, beq_iff_eq] at h
  cases hc : U.vm.findClass (FieldType.array t).toString with
  | none => simp [hc] at h
  | some comp =>
    simp only [hc, Option.bind_some, Option.bind_eq_some_iff, Option.map_eq_some_iff] at h
    obtain ⟨c, hi, k, hk, hb⟩ := h
    obtain ⟨hlt, hp, -⟩ := Array.findIdx?_eq_some_iff_getElem.mp hi
    have hkk : U.vm.classes[c] = k := (Array.getElem?_eq_some_iff.mp hk).2
    rw [hkk] at hp
    cases hkind : k.kind with
    | array component ty =>
      rw [hkind] at hb hp
      simp at hb hp
      exact ⟨comp, c, k, rfl, hi, hk, by rw [hkind, hp, hb.1], hb.2⟩
    | _ => rw [hkind] at hb; simp at hb
theorem va_AOA.moved {t : FieldType} {u U : State} (hvm : u.vm.Alike U.vm) (h : va_AOA t u) : va_AOA t U := by
  obtain ⟨comp, c, k, h1, h2, h3, h4, h5⟩ := h.spec
  obtain ⟨k', hk', he⟩ := hvm.2.2 _ _ h3
  have hi : (U.vm.classes.findIdx? fun (x : Class) => match x.kind with | .array component _ => component == comp | _ => false) = some c := by
    refine (va_idx_bare U.vm comp).symm.trans ?_
    first | rw [hvm.bare_eq] | rw [← hvm.bare_eq]
    exact (va_idx_bare u.vm comp).trans h2
  have hkind : k'.kind = .array comp (.array t) := by rw [he]; exact h4
  have f1 : U.vm.findClass (FieldType.array t).toString = some comp := by rw [hvm.findClass]; exact h1
  have f2 : U.vm.findClass ("[" ++ (FieldType.array t).toString) = some c := by rw [hvm.findClass]; exact h5
  unfold va_AOA Cond.before Cond.holds
  simp only [Cond.value]
  rw [f1, Option.bind_some]
  refine (congrArg (fun o : Option Nat => (o.bind (fun c => (U.vm.classes[c]?).map fun (k : Class) => match k.kind with | .array _ ty => decide (ty = FieldType.array t) && decide (U.vm.findClass ("[" ++ (FieldType.array t).toString) = some c) | _ => false) == some true)) hi).trans ?_
  simp [hk', hkind, f2]
theorem z_cEq {D : va_G} {c1 c2 : ClassId} {s : State} {tys : List (ClassId × FieldType)} {ty : FieldType} (hty : ∀ C, ty ≠ .object C) (i j : Nat) (hK : va_K D vwCl tys s) (h1 : tys[i]? = some (c1, ty)) (h2 : tys[j]? = some (c2, ty)) : c1 = c2 := by
  have a := (hK.2 i _ h1).2
  have b := (hK.2 j _ h2).2
  have key : ∀ c, va_RA s c ty → s.vm.findClass ("[" ++ ty.toString) = some c := fun c h => by
    cases ty with
    | object C => exact absurd rfl (hty C)
    | _ => exact h
  exact Option.some.inj ((key c1 a).symm.trans (key c2 b))
theorem z_rows (r : Nat → Nat) (f : Nat → va_E) (v : va_E) : va_pl ([] ++ (List.range 8).map r) (vr_up f ((List.range 8).map r) v) = [(r 0, v), (r 1, v), (r 2, v), (r 3, v), (r 4, v), (r 5, v), (r 6, v), (r 7, v)] := by
  have h : ∀ i, i ∈ List.range 8 → (fun a => (a, vr_up f ((List.range 8).map r) v a)) (r i) = (r i, v) := fun i hi => by
    show (r i, vr_up f ((List.range 8).map r) v (r i)) = (r i, v)
    rw [vr_up_in (List.mem_map_of_mem hi)]
  rw [List.nil_append]
  unfold va_pl
  rw [List.map_map]
  have h2 : (List.range 8).map ((fun a => (a, vr_up f ((List.range 8).map r) v a)) ∘ r) = (List.range 8).map (fun i => (r i, v)) := List.map_congr_left h
  rw [h2]
  rfl
def z0 : RS := fun _ _ => 0
set_option maxRecDepth 20000 in
theorem wdX3_init_0 : Cond.methodLink RX3 3 objectInit ∈ wsX3_init := by decide +kernel
set_option maxRecDepth 20000 in
theorem wdX3_init_1 : Cond.instanceMethod objectInit ∈ wsX3_init := by decide +kernel
set_option maxRecDepth 20000 in
theorem wdX3_init_2 : Cond.arrayClass .int ∈ wsX3_init := by decide +kernel
set_option maxRecDepth 20000 in
theorem wdX3_init_3 : Cond.fieldLink RX3 9 "CornLaws$Returns" "town" "[I" ∈ wsX3_init := by decide +kernel
set_option maxRecDepth 20000 in
theorem wdX3_init_4 : Cond.fieldLink RX3 15 "CornLaws$Returns" "grain" "[I" ∈ wsX3_init := by decide +kernel
set_option maxRecDepth 20000 in
theorem wdX3_init_5 : Cond.fieldLink RX3 18 "CornLaws$Returns" "week" "[I" ∈ wsX3_init := by decide +kernel
set_option maxRecDepth 20000 in
theorem wdX3_init_6 : Cond.fieldLink RX3 21 "CornLaws$Returns" "quarters" "[I" ∈ wsX3_init := by decide +kernel
set_option maxRecDepth 20000 in
theorem wdX3_init_7 : Cond.fieldLink RX3 24 "CornLaws$Returns" "price" "[I" ∈ wsX3_init := by decide +kernel
set_option maxRecDepth 20000 in
theorem wdX3_init_8 : Cond.fieldLink RX3 27 "CornLaws$Returns" "sworn" "[I" ∈ wsX3_init := by decide +kernel
set_option maxRecDepth 20000 in
theorem wdX3_init_9 : Cond.fieldLink RX3 30 "CornLaws$Returns" "struck" "[I" ∈ wsX3_init := by decide +kernel
set_option maxRecDepth 20000 in
theorem inX3_init_3 : ∀ w ∈ wsX30, w ∈ wsX3_init := by decide +kernel
set_option maxHeartbeats 4000000 in
set_option maxRecDepth 100000 in
theorem cX3_init_ok (l : Launch) (D : va_G) (h0 sz : Nat) : Met l yX3_init wsX3_init ({ frames := 1, cells := 7, slots := 420, locals := 12 } : Room) (va_Pc [.ref h0] (fun U => U.heap.size = sz ∧ va_P D vwCl [(h0, .inr (3, [.null, .null, .null, .null, .null, .null, .null, .int 0]))] U.heap ∧ va_K D vwCl [] U ∧ va_D (fun _ => True) [(h0, .inr (3, [.null, .null, .null, .null, .null, .null, .null, .int 0]))])) (va_Qv (fun (_ : (Nat → Nat) × ClassId) => True) (fun (z : (Nat → Nat) × ClassId) (t : State) => z.1 0 = h0 ∧ va_P D vwCl (wR z.2 z.1 z0) t.heap ∧ va_K D vwCl [(z.2, .int)] t ∧ va_D (va_A [(h0, .inr (3, [.null, .null, .null, .null, .null, .null, .null, .int 0]))] sz) (wR z.2 z.1 z0)) (va_A [(h0, .inr (3, [.null, .null, .null, .null, .null, .null, .null, .int 0]))] sz)) 7 420 (va_A [(h0, .inr (3, [.null, .null, .null, .null, .null, .null, .null, .int 0]))] sz) := by
  refine Met.ofW (cc := cX3_init) (maxL := 1) (ret := none) (by decide) rfl ?_
  intro p e s m args below meth c s₁ B hml hv
  obtain ⟨rfl, hsz, hP, hK, hD0⟩ := hv
  have hx := B.exec
  have hb := B.bytes
  have hr := B.returns
  have hts := atoms_spec (ws := wsX3_init) B.pre
  have hown : s.vm.findClass RX3 = some m.cls := findClass_of_methodNamed B.named
  have hlocks := B.notSynchronized
  have hin : meth.name = "<init>" := (name_of_methodNamed B.named B.method).1
  subst hsz
  have hD := hD0.self (sz := s.heap.size)
  generalize hAe : va_A [(h0, .inr (3, [.null, .null, .null, .null, .null, .null, .null, .int 0]))] s.heap.size = A at hD ⊢
  have hA : ∀ q : Nat, s.heap.size ≤ q → A q := fun q h => by rw [← hAe]; exact Or.inr h
  have hS : va_S A s.heap s.heap [] := va_S.rf
  have hP : va_P D vwCl [(h0, .inr (3, [.null, .null, .null, .null, .null, .null, .null, .int 0]))] s.heap := hP
  have hl := lv_entry ([.ref h0]) (n := 1) (Nat.le_of_ble_eq_true rfl)
  rw [lg_entry_eq]
  generalize (lg_sl ([.ref h0]) ++ List.replicate (1 - (lg_sl ([.ref h0])).length) Slot.unset).toArray = ls at hl ⊢
  have hl : lv_has ls 1 [(0, .ref h0)] := hl
  refine lv_aload_n hx hb dX3_init_0 rfl (lv_at hl 0 rfl) ?_
  refine W.objInit hx hb hown (hts (.methodLink RX3 3 objectInit) wdX3_init_0) (hts (.instanceMethod objectInit) wdX3_init_1) (hts (.code objectInit ⟨#[0xb1]⟩ 1 none) (List.mem_of_getElem? (i := 3) rfl)) rfl (by rw [hml]; exact hl.1) rfl dX3_init_1 (Nat.le_of_ble_eq_true rfl) (Nat.le_of_ble_eq_true rfl) ?_
  refine W.eq (g2 := F0 m 4 ls []) rfl ?_
  refine lv_aload_n hx hb dX3_init_4 rfl (lv_at hl 0 rfl) ?_
  refine lv_bipush (v := 60) hx hb dX3_init_5 (by decide) ?_
  refine va_newa (atype := .int) (ty := .int) (a0 := (60, .inl (fun _ => 0))) (N' := 60) hx hb (hts (.arrayClass .int) wdX3_init_2) rfl hK hP hD hS hA (fun _ => rfl) (by decide) (by decide) (Nat.le_of_ble_eq_true rfl) (Nat.le_of_ble_eq_true rfl) (Nat.le_of_ble_eq_true rfl) dX3_init_7 (fun q1 cA H hK hP hD hS => ?_)
  obtain ⟨c1, rfl⟩ : ∃ z, z = cA := ⟨_, rfl⟩
  have hK : va_K D vwCl [(c1, .int)] s := hK
  have hP : va_P D vwCl [(h0, .inr (3, [.null, .null, .null, .null, .null, .null, .null, .int 0])), (q1, .inl (c1, 60, .inl (fun _ => 0)))] H := hP
  have hD : va_D A [(h0, .inr (3, [.null, .null, .null, .null, .null, .null, .null, .int 0])), (q1, .inl (c1, 60, .inl (fun _ => 0)))] := hD
  refine va_putF (D := D) (ci := 3) (v := .ref q1) (ty := .array .int) (C := RX3) (T := TX3) (N := 8) hx hb hts inX3_init_3 tyX3 tyX3_ok nmX3 hown hK hP hD hS 0 rfl rfl 0 (by decide) (hts (.fieldLink RX3 9 "CornLaws$Returns" "town" "[I") wdX3_init_3) (fun _ h9 => h9) rfl hin rfl (by decide +kernel) rfl rfl (Nat.le_of_ble_eq_true rfl) dX3_init_9 (fun H locs hP hD hS => ?_)
  have hP : va_P D vwCl [(h0, .inr (3, [.ref q1, .null, .null, .null, .null, .null, .null, .int 0])), (q1, .inl (c1, 60, .inl (fun _ => 0)))] H := hP
  have hD : va_D A [(h0, .inr (3, [.ref q1, .null, .null, .null, .null, .null, .null, .int 0])), (q1, .inl (c1, 60, .inl (fun _ => 0)))] := hD
  refine lv_aload_n hx hb dX3_init_12 rfl (lv_at hl 0 rfl) ?_
  refine lv_bipush (v := 60) hx hb dX3_init_13 (by decide) ?_
  refine va_newa (atype := .int) (ty := .int) (a0 := (60, .inl (fun _ => 0))) (N' := 60) hx hb (hts (.arrayClass .int) wdX3_init_2) rfl hK hP hD hS hA (fun _ => rfl) (by decide) (by decide) (Nat.le_of_ble_eq_true rfl) (Nat.le_of_ble_eq_true rfl) (Nat.le_of_ble_eq_true rfl) dX3_init_15 (fun q2 cA H hK hP hD hS => ?_)
  have ec : c1 = cA := z_cEq (ty := .int) (fun _ h => by cases h) 0 1 hK rfl rfl
  subst ec
  have hK : va_K D vwCl [(c1, .int)] s := hK.sub [0] rfl
  have hP : va_P D vwCl [(h0, .inr (3, [.ref q1, .null, .null, .null, .null, .null, .null, .int 0])), (q1, .inl (c1, 60, .inl (fun _ => 0))), (q2, .inl (c1, 60, .inl (fun _ => 0)))] H := hP
  have hD : va_D A [(h0, .inr (3, [.ref q1, .null, .null, .null, .null, .null, .null, .int 0])), (q1, .inl (c1, 60, .inl (fun _ => 0))), (q2, .inl (c1, 60, .inl (fun _ => 0)))] := hD
  refine va_putF (D := D) (ci := 3) (v := .ref q2) (ty := .array .int) (C := RX3) (T := TX3) (N := 8) hx hb hts inX3_init_3 tyX3 tyX3_ok nmX3 hown hK hP hD hS 0 rfl rfl 1 (by decide) (hts (.fieldLink RX3 15 "CornLaws$Returns" "grain" "[I") wdX3_init_4) (fun _ h9 => h9) rfl hin rfl (by decide +kernel) rfl rfl (Nat.le_of_ble_eq_true rfl) dX3_init_17 (fun H locs hP hD hS => ?_)
  have hP : va_P D vwCl [(h0, .inr (3, [.ref q1, .ref q2, .null, .null, .null, .null, .null, .int 0])), (q1, .inl (c1, 60, .inl (fun _ => 0))), (q2, .inl (c1, 60, .inl (fun _ => 0)))] H := hP
  have hD : va_D A [(h0, .inr (3, [.ref q1, .ref q2, .null, .null, .null, .null, .null, .int 0])), (q1, .inl (c1, 60, .inl (fun _ => 0))), (q2, .inl (c1, 60, .inl (fun _ => 0)))] := hD
  refine lv_aload_n hx hb dX3_init_20 rfl (lv_at hl 0 rfl) ?_
  refine lv_bipush (v := 60) hx hb dX3_init_21 (by decide) ?_
  refine va_newa (atype := .int) (ty := .int) (a0 := (60, .inl (fun _ => 0))) (N' := 60) hx hb (hts (.arrayClass .int) wdX3_init_2) rfl hK hP hD hS hA (fun _ => rfl) (by decide) (by decide) (Nat.le_of_ble_eq_true rfl) (Nat.le_of_ble_eq_true rfl) (Nat.le_of_ble_eq_true rfl) dX3_init_23 (fun q3 cA H hK hP hD hS => ?_)
  have ec : c1 = cA := z_cEq (ty := .int) (fun _ h => by cases h) 0 1 hK rfl rfl
  subst ec
  have hK : va_K D vwCl [(c1, .int)] s := hK.sub [0] rfl
  have hP : va_P D vwCl [(h0, .inr (3, [.ref q1, .ref q2, .null, .null, .null, .null, .null, .int 0])), (q1, .inl (c1, 60, .inl (fun _ => 0))), (q2, .inl (c1, 60, .inl (fun _ => 0))), (q3, .inl (c1, 60, .inl (fun _ => 0)))] H := hP
  have hD : va_D A [(h0, .inr (3, [.ref q1, .ref q2, .null, .null, .null, .null, .null, .int 0])), (q1, .inl (c1, 60, .inl (fun _ => 0))), (q2, .inl (c1, 60, .inl (fun _ => 0))), (q3, .inl (c1, 60, .inl (fun _ => 0)))] := hD
  refine va_putF (D := D) (ci := 3) (v := .ref q3) (ty := .array .int) (C := RX3) (T := TX3) (N := 8) hx hb hts inX3_init_3 tyX3 tyX3_ok nmX3 hown hK hP hD hS 0 rfl rfl 2 (by decide) (hts (.fieldLink RX3 18 "CornLaws$Returns" "week" "[I") wdX3_init_5) (fun _ h9 => h9) rfl hin rfl (by decide +kernel) rfl rfl (Nat.le_of_ble_eq_true rfl) dX3_init_25 (fun H locs hP hD hS => ?_)
  have hP : va_P D vwCl [(h0, .inr (3, [.ref q1, .ref q2, .ref q3, .null, .null, .null, .null, .int 0])), (q1, .inl (c1, 60, .inl (fun _ => 0))), (q2, .inl (c1, 60, .inl (fun _ => 0))), (q3, .inl (c1, 60, .inl (fun _ => 0)))] H := hP
  have hD : va_D A [(h0, .inr (3, [.ref q1, .ref q2, .ref q3, .null, .null, .null, .null, .int 0])), (q1, .inl (c1, 60, .inl (fun _ => 0))), (q2, .inl (c1, 60, .inl (fun _ => 0))), (q3, .inl (c1, 60, .inl (fun _ => 0)))] := hD
  refine lv_aload_n hx hb dX3_init_28 rfl (lv_at hl 0 rfl) ?_
  refine lv_bipush (v := 60) hx hb dX3_init_29 (by decide) ?_
  refine va_newa (atype := .int) (ty := .int) (a0 := (60, .inl (fun _ => 0))) (N' := 60) hx hb (hts (.arrayClass .int) wdX3_init_2) rfl hK hP hD hS hA (fun _ => rfl) (by decide) (by decide) (Nat.le_of_ble_eq_true rfl) (Nat.le_of_ble_eq_true rfl) (Nat.le_of_ble_eq_true rfl) dX3_init_31 (fun q4 cA H hK hP hD hS => ?_)
  have ec : c1 = cA := z_cEq (ty := .int) (fun _ h => by cases h) 0 1 hK rfl rfl
  subst ec
  have hK : va_K D vwCl [(c1, .int)] s := hK.sub [0] rfl
  have hP : va_P D vwCl [(h0, .inr (3, [.ref q1, .ref q2, .ref q3, .null, .null, .null, .null, .int 0])), (q1, .inl (c1, 60, .inl (fun _ => 0))), (q2, .inl (c1, 60, .inl (fun _ => 0))), (q3, .inl (c1, 60, .inl (fun _ => 0))), (q4, .inl (c1, 60, .inl (fun _ => 0)))] H := hP
  have hD : va_D A [(h0, .inr (3, [.ref q1, .ref q2, .ref q3, .null, .null, .null, .null, .int 0])), (q1, .inl (c1, 60, .inl (fun _ => 0))), (q2, .inl (c1, 60, .inl (fun _ => 0))), (q3, .inl (c1, 60, .inl (fun _ => 0))), (q4, .inl (c1, 60, .inl (fun _ => 0)))] := hD
  refine va_putF (D := D) (ci := 3) (v := .ref q4) (ty := .array .int) (C := RX3) (T := TX3) (N := 8) hx hb hts inX3_init_3 tyX3 tyX3_ok nmX3 hown hK hP hD hS 0 rfl rfl 3 (by decide) (hts (.fieldLink RX3 21 "CornLaws$Returns" "quarters" "[I") wdX3_init_6) (fun _ h9 => h9) rfl hin rfl (by decide +kernel) rfl rfl (Nat.le_of_ble_eq_true rfl) dX3_init_33 (fun H locs hP hD hS => ?_)
  have hP : va_P D vwCl [(h0, .inr (3, [.ref q1, .ref q2, .ref q3, .ref q4, .null, .null, .null, .int 0])), (q1, .inl (c1, 60, .inl (fun _ => 0))), (q2, .inl (c1, 60, .inl (fun _ => 0))), (q3, .inl (c1, 60, .inl (fun _ => 0))), (q4, .inl (c1, 60, .inl (fun _ => 0)))] H := hP
  have hD : va_D A [(h0, .inr (3, [.ref q1, .ref q2, .ref q3, .ref q4, .null, .null, .null, .int 0])), (q1, .inl (c1, 60, .inl (fun _ => 0))), (q2, .inl (c1, 60, .inl (fun _ => 0))), (q3, .inl (c1, 60, .inl (fun _ => 0))), (q4, .inl (c1, 60, .inl (fun _ => 0)))] := hD
  refine lv_aload_n hx hb dX3_init_36 rfl (lv_at hl 0 rfl) ?_
  refine lv_bipush (v := 60) hx hb dX3_init_37 (by decide) ?_
  refine va_newa (atype := .int) (ty := .int) (a0 := (60, .inl (fun _ => 0))) (N' := 60) hx hb (hts (.arrayClass .int) wdX3_init_2) rfl hK hP hD hS hA (fun _ => rfl) (by decide) (by decide) (Nat.le_of_ble_eq_true rfl) (Nat.le_of_ble_eq_true rfl) (Nat.le_of_ble_eq_true rfl) dX3_init_39 (fun q5 cA H hK hP hD hS => ?_)
  have ec : c1 = cA := z_cEq (ty := .int) (fun _ h => by cases h) 0 1 hK rfl rfl
  subst ec
  have hK : va_K D vwCl [(c1, .int)] s := hK.sub [0] rfl
  have hP : va_P D vwCl [(h0, .inr (3, [.ref q1, .ref q2, .ref q3, .ref q4, .null, .null, .null, .int 0])), (q1, .inl (c1, 60, .inl (fun _ => 0))), (q2, .inl (c1, 60, .inl (fun _ => 0))), (q3, .inl (c1, 60, .inl (fun _ => 0))), (q4, .inl (c1, 60, .inl (fun _ => 0))), (q5, .inl (c1, 60, .inl (fun _ => 0)))] H := hP
  have hD : va_D A [(h0, .inr (3, [.ref q1, .ref q2, .ref q3, .ref q4, .null, .null, .null, .int 0])), (q1, .inl (c1, 60, .inl (fun _ => 0))), (q2, .inl (c1, 60, .inl (fun _ => 0))), (q3, .inl (c1, 60, .inl (fun _ => 0))), (q4, .inl (c1, 60, .inl (fun _ => 0))), (q5, .inl (c1, 60, .inl (fun _ => 0)))] := hD
  refine va_putF (D := D) (ci := 3) (v := .ref q5) (ty := .array .int) (C := RX3) (T := TX3) (N := 8) hx hb hts inX3_init_3 tyX3 tyX3_ok nmX3 hown hK hP hD hS 0 rfl rfl 4 (by decide) (hts (.fieldLink RX3 24 "CornLaws$Returns" "price" "[I") wdX3_init_7) (fun _ h9 => h9) rfl hin rfl (by decide +kernel) rfl rfl (Nat.le_of_ble_eq_true rfl) dX3_init_41 (fun H locs hP hD hS => ?_)
  have hP : va_P D vwCl [(h0, .inr (3, [.ref q1, .ref q2, .ref q3, .ref q4, .ref q5, .null, .null, .int 0])), (q1, .inl (c1, 60, .inl (fun _ => 0))), (q2, .inl (c1, 60, .inl (fun _ => 0))), (q3, .inl (c1, 60, .inl (fun _ => 0))), (q4, .inl (c1, 60, .inl (fun _ => 0))), (q5, .inl (c1, 60, .inl (fun _ => 0)))] H := hP
  have hD : va_D A [(h0, .inr (3, [.ref q1, .ref q2, .ref q3, .ref q4, .ref q5, .null, .null, .int 0])), (q1, .inl (c1, 60, .inl (fun _ => 0))), (q2, .inl (c1, 60, .inl (fun _ => 0))), (q3, .inl (c1, 60, .inl (fun _ => 0))), (q4, .inl (c1, 60, .inl (fun _ => 0))), (q5, .inl (c1, 60, .inl (fun _ => 0)))] := hD
  refine lv_aload_n hx hb dX3_init_44 rfl (lv_at hl 0 rfl) ?_
  refine lv_bipush (v := 60) hx hb dX3_init_45 (by decide) ?_
  refine va_newa (atype := .int) (ty := .int) (a0 := (60, .inl (fun _ => 0))) (N' := 60) hx hb (hts (.arrayClass .int) wdX3_init_2) rfl hK hP hD hS hA (fun _ => rfl) (by decide) (by decide) (Nat.le_of_ble_eq_true rfl) (Nat.le_of_ble_eq_true rfl) (Nat.le_of_ble_eq_true rfl) dX3_init_47 (fun q6 cA H hK hP hD hS => ?_)
  have ec : c1 = cA := z_cEq (ty := .int) (fun _ h => by cases h) 0 1 hK rfl rfl
  subst ec
  have hK : va_K D vwCl [(c1, .int)] s := hK.sub [0] rfl
  have hP : va_P D vwCl [(h0, .inr (3, [.ref q1, .ref q2, .ref q3, .ref q4, .ref q5, .null, .null, .int 0])), (q1, .inl (c1, 60, .inl (fun _ => 0))), (q2, .inl (c1, 60, .inl (fun _ => 0))), (q3, .inl (c1, 60, .inl (fun _ => 0))), (q4, .inl (c1, 60, .inl (fun _ => 0))), (q5, .inl (c1, 60, .inl (fun _ => 0))), (q6, .inl (c1, 60, .inl (fun _ => 0)))] H := hP
  have hD : va_D A [(h0, .inr (3, [.ref q1, .ref q2, .ref q3, .ref q4, .ref q5, .null, .null, .int 0])), (q1, .inl (c1, 60, .inl (fun _ => 0))), (q2, .inl (c1, 60, .inl (fun _ => 0))), (q3, .inl (c1, 60, .inl (fun _ => 0))), (q4, .inl (c1, 60, .inl (fun _ => 0))), (q5, .inl (c1, 60, .inl (fun _ => 0))), (q6, .inl (c1, 60, .inl (fun _ => 0)))] := hD
  refine va_putF (D := D) (ci := 3) (v := .ref q6) (ty := .array .int) (C := RX3) (T := TX3) (N := 8) hx hb hts inX3_init_3 tyX3 tyX3_ok nmX3 hown hK hP hD hS 0 rfl rfl 5 (by decide) (hts (.fieldLink RX3 27 "CornLaws$Returns" "sworn" "[I") wdX3_init_8) (fun _ h9 => h9) rfl hin rfl (by decide +kernel) rfl rfl (Nat.le_of_ble_eq_true rfl) dX3_init_49 (fun H locs hP hD hS => ?_)
  have hP : va_P D vwCl [(h0, .inr (3, [.ref q1, .ref q2, .ref q3, .ref q4, .ref q5, .ref q6, .null, .int 0])), (q1, .inl (c1, 60, .inl (fun _ => 0))), (q2, .inl (c1, 60, .inl (fun _ => 0))), (q3, .inl (c1, 60, .inl (fun _ => 0))), (q4, .inl (c1, 60, .inl (fun _ => 0))), (q5, .inl (c1, 60, .inl (fun _ => 0))), (q6, .inl (c1, 60, .inl (fun _ => 0)))] H := hP
  have hD : va_D A [(h0, .inr (3, [.ref q1, .ref q2, .ref q3, .ref q4, .ref q5, .ref q6, .null, .int 0])), (q1, .inl (c1, 60, .inl (fun _ => 0))), (q2, .inl (c1, 60, .inl (fun _ => 0))), (q3, .inl (c1, 60, .inl (fun _ => 0))), (q4, .inl (c1, 60, .inl (fun _ => 0))), (q5, .inl (c1, 60, .inl (fun _ => 0))), (q6, .inl (c1, 60, .inl (fun _ => 0)))] := hD
  refine lv_aload_n hx hb dX3_init_52 rfl (lv_at hl 0 rfl) ?_
  refine lv_bipush (v := 60) hx hb dX3_init_53 (by decide) ?_
  refine va_newa (atype := .int) (ty := .int) (a0 := (60, .inl (fun _ => 0))) (N' := 60) hx hb (hts (.arrayClass .int) wdX3_init_2) rfl hK hP hD hS hA (fun _ => rfl) (by decide) (by decide) (Nat.le_of_ble_eq_true rfl) (Nat.le_of_ble_eq_true rfl) (Nat.le_of_ble_eq_true rfl) dX3_init_55 (fun q7 cA H hK hP hD hS => ?_)
  have ec : c1 = cA := z_cEq (ty := .int) (fun _ h => by cases h) 0 1 hK rfl rfl
  subst ec
  have hK : va_K D vwCl [(c1, .int)] s := hK.sub [0] rfl
  have hP : va_P D vwCl [(h0, .inr (3, [.ref q1, .ref q2, .ref q3, .ref q4, .ref q5, .ref q6, .null, .int 0])), (q1, .inl (c1, 60, .inl (fun _ => 0))), (q2, .inl (c1, 60, .inl (fun _ => 0))), (q3, .inl (c1, 60, .inl (fun _ => 0))), (q4, .inl (c1, 60, .inl (fun _ => 0))), (q5, .inl (c1, 60, .inl (fun _ => 0))), (q6, .inl (c1, 60, .inl (fun _ => 0))), (q7, .inl (c1, 60, .inl (fun _ => 0)))] H := hP
  have hD : va_D A [(h0, .inr (3, [.ref q1, .ref q2, .ref q3, .ref q4, .ref q5, .ref q6, .null, .int 0])), (q1, .inl (c1, 60, .inl (fun _ => 0))), (q2, .inl (c1, 60, .inl (fun _ => 0))), (q3, .inl (c1, 60, .inl (fun _ => 0))), (q4, .inl (c1, 60, .inl (fun _ => 0))), (q5, .inl (c1, 60, .inl (fun _ => 0))), (q6, .inl (c1, 60, .inl (fun _ => 0))), (q7, .inl (c1, 60, .inl (fun _ => 0)))] := hD
  refine va_putF (D := D) (ci := 3) (v := .ref q7) (ty := .array .int) (C := RX3) (T := TX3) (N := 8) hx hb hts inX3_init_3 tyX3 tyX3_ok nmX3 hown hK hP hD hS 0 rfl rfl 6 (by decide) (hts (.fieldLink RX3 30 "CornLaws$Returns" "struck" "[I") wdX3_init_9) (fun _ h9 => h9) rfl hin rfl (by decide +kernel) rfl rfl (Nat.le_of_ble_eq_true rfl) dX3_init_57 (fun H locs hP hD hS => ?_)
  have hP : va_P D vwCl [(h0, .inr (3, [.ref q1, .ref q2, .ref q3, .ref q4, .ref q5, .ref q6, .ref q7, .int 0])), (q1, .inl (c1, 60, .inl (fun _ => 0))), (q2, .inl (c1, 60, .inl (fun _ => 0))), (q3, .inl (c1, 60, .inl (fun _ => 0))), (q4, .inl (c1, 60, .inl (fun _ => 0))), (q5, .inl (c1, 60, .inl (fun _ => 0))), (q6, .inl (c1, 60, .inl (fun _ => 0))), (q7, .inl (c1, 60, .inl (fun _ => 0)))] H := hP
  have hD : va_D A [(h0, .inr (3, [.ref q1, .ref q2, .ref q3, .ref q4, .ref q5, .ref q6, .ref q7, .int 0])), (q1, .inl (c1, 60, .inl (fun _ => 0))), (q2, .inl (c1, 60, .inl (fun _ => 0))), (q3, .inl (c1, 60, .inl (fun _ => 0))), (q4, .inl (c1, 60, .inl (fun _ => 0))), (q5, .inl (c1, 60, .inl (fun _ => 0))), (q6, .inl (c1, 60, .inl (fun _ => 0))), (q7, .inl (c1, 60, .inl (fun _ => 0)))] := hD
  have hP9 : va_P D vwCl (wR c1 (fun k => ([h0, q1, q2, q3, q4, q5, q6, q7] : List Nat).getD k 0) z0) H := hP
  have hD9 : va_D A (wR c1 (fun k => ([h0, q1, q2, q3, q4, q5, q6, q7] : List Nat).getD k 0) z0) := hD
  exact W.vret hx hb hr (fun t ht hW => ⟨⟨((fun k => ([h0, q1, q2, q3, q4, q5, q6, q7] : List Nat).getD k 0), c1), rfl, trivial, rfl, by show va_P D vwCl _ t.heap; rw [ht]; exact hP9, va_K.moved hW.alike hK, hD9⟩, hS.F ht⟩) hS.2.2 dX3_init_60
set_option maxRecDepth 20000 in
theorem wdX1_init_0 : Cond.methodLink RX1 3 objectInit ∈ wsX1_init := by decide +kernel
set_option maxRecDepth 20000 in
theorem wdX1_init_1 : Cond.instanceMethod objectInit ∈ wsX1_init := by decide +kernel
set_option maxRecDepth 20000 in
theorem wdX1_init_2 : Cond.arrayClass .int ∈ wsX1_init := by decide +kernel
set_option maxRecDepth 20000 in
theorem wdX1_init_3 : Cond.fieldLink RX1 9 "CornLaws$Hangings" "on" "[I" ∈ wsX1_init := by decide +kernel
set_option maxRecDepth 20000 in
theorem wdX1_init_4 : Cond.fieldLink RX1 15 "CornLaws$Hangings" "up" "[I" ∈ wsX1_init := by decide +kernel
set_option maxRecDepth 20000 in
theorem wdX1_init_5 : Cond.fieldLink RX1 18 "CornLaws$Hangings" "low" "[I" ∈ wsX1_init := by decide +kernel
set_option maxRecDepth 20000 in
theorem inX1_init_1 : ∀ w ∈ wsX10, w ∈ wsX1_init := by decide +kernel
set_option maxHeartbeats 4000000 in
set_option maxRecDepth 100000 in
theorem cX1_init_ok (l : Launch) (D : va_G) (h0 sz : Nat) : Met l yX1_init wsX1_init ({ frames := 1, cells := 3, slots := 9, locals := 12 } : Room) (va_Pc [.ref h0] (fun U => U.heap.size = sz ∧ va_P D vwCl [(h0, .inr (1, [.null, .null, .null]))] U.heap ∧ va_K D vwCl [] U ∧ va_D (fun _ => True) [(h0, .inr (1, [.null, .null, .null]))])) (va_Qv (fun (_ : (Nat → Nat) × ClassId) => True) (fun (z : (Nat → Nat) × ClassId) (t : State) => z.1 0 = h0 ∧ va_P D vwCl (wH z.2 z.1 z0) t.heap ∧ va_K D vwCl [(z.2, .int)] t ∧ va_D (va_A [(h0, .inr (1, [.null, .null, .null]))] sz) (wH z.2 z.1 z0)) (va_A [(h0, .inr (1, [.null, .null, .null]))] sz)) 3 9 (va_A [(h0, .inr (1, [.null, .null, .null]))] sz) := by
  refine Met.ofW (cc := cX1_init) (maxL := 1) (ret := none) (by decide) rfl ?_
  intro p e s m args below meth c s₁ B hml hv
  obtain ⟨rfl, hsz, hP, hK, hD0⟩ := hv
  have hx := B.exec
  have hb := B.bytes
  have hr := B.returns
  have hts := atoms_spec (ws := wsX1_init) B.pre
  have hown : s.vm.findClass RX1 = some m.cls := findClass_of_methodNamed B.named
  have hlocks := B.notSynchronized
  have hin : meth.name = "<init>" := (name_of_methodNamed B.named B.method).1
  subst hsz
  have hD := hD0.self (sz := s.heap.size)
  generalize hAe : va_A [(h0, .inr (1, [.null, .null, .null]))] s.heap.size = A at hD ⊢
  have hA : ∀ q : Nat, s.heap.size ≤ q → A q := fun q h => by rw [← hAe]; exact Or.inr h
  have hS : va_S A s.heap s.heap [] := va_S.rf
  have hP : va_P D vwCl [(h0, .inr (1, [.null, .null, .null]))] s.heap := hP
  have hl := lv_entry ([.ref h0]) (n := 1) (Nat.le_of_ble_eq_true rfl)
  rw [lg_entry_eq]
  generalize (lg_sl ([.ref h0]) ++ List.replicate (1 - (lg_sl ([.ref h0])).length) Slot.unset).toArray = ls at hl ⊢
  have hl : lv_has ls 1 [(0, .ref h0)] := hl
  refine lv_aload_n hx hb dX1_init_0 rfl (lv_at hl 0 rfl) ?_
  refine W.objInit hx hb hown (hts (.methodLink RX1 3 objectInit) wdX1_init_0) (hts (.instanceMethod objectInit) wdX1_init_1) (hts (.code objectInit ⟨#[0xb1]⟩ 1 none) (List.mem_of_getElem? (i := 3) rfl)) rfl (by rw [hml]; exact hl.1) rfl dX1_init_1 (Nat.le_of_ble_eq_true rfl) (Nat.le_of_ble_eq_true rfl) ?_
  refine W.eq (g2 := F0 m 4 ls []) rfl ?_
  refine lv_aload_n hx hb dX1_init_4 rfl (lv_at hl 0 rfl) ?_
  refine lv_iconst (v := 3) hx hb dX1_init_5 (by decide) ?_
  refine va_newa (atype := .int) (ty := .int) (a0 := (3, .inl (fun _ => 0))) (N' := 3) hx hb (hts (.arrayClass .int) wdX1_init_2) rfl hK hP hD hS hA (fun _ => rfl) (by decide) (by decide) (Nat.le_of_ble_eq_true rfl) (Nat.le_of_ble_eq_true rfl) (Nat.le_of_ble_eq_true rfl) dX1_init_6 (fun q1 cA H hK hP hD hS => ?_)
  obtain ⟨c1, rfl⟩ : ∃ z, z = cA := ⟨_, rfl⟩
  have hK : va_K D vwCl [(c1, .int)] s := hK
  have hP : va_P D vwCl [(h0, .inr (1, [.null, .null, .null])), (q1, .inl (c1, 3, .inl (fun _ => 0)))] H := hP
  have hD : va_D A [(h0, .inr (1, [.null, .null, .null])), (q1, .inl (c1, 3, .inl (fun _ => 0)))] := hD
  refine va_putF (D := D) (ci := 1) (v := .ref q1) (ty := .array .int) (C := RX1) (T := TX1) (N := 3) hx hb hts inX1_init_1 tyX1 tyX1_ok nmX1 hown hK hP hD hS 0 rfl rfl 0 (by decide) (hts (.fieldLink RX1 9 "CornLaws$Hangings" "on" "[I") wdX1_init_3) (fun _ h9 => h9) rfl hin rfl (by decide +kernel) rfl rfl (Nat.le_of_ble_eq_true rfl) dX1_init_8 (fun H locs hP hD hS => ?_)
  have hP : va_P D vwCl [(h0, .inr (1, [.ref q1, .null, .null])), (q1, .inl (c1, 3, .inl (fun _ => 0)))] H := hP
  have hD : va_D A [(h0, .inr (1, [.ref q1, .null, .null])), (q1, .inl (c1, 3, .inl (fun _ => 0)))] := hD
  refine lv_aload_n hx hb dX1_init_11 rfl (lv_at hl 0 rfl) ?_
  refine lv_iconst (v := 3) hx hb dX1_init_12 (by decide) ?_
  refine va_newa (atype := .int) (ty := .int) (a0 := (3, .inl (fun _ => 0))) (N' := 3) hx hb (hts (.arrayClass .int) wdX1_init_2) rfl hK hP hD hS hA (fun _ => rfl) (by decide) (by decide) (Nat.le_of_ble_eq_true rfl) (Nat.le_of_ble_eq_true rfl) (Nat.le_of_ble_eq_true rfl) dX1_init_13 (fun q2 cA H hK hP hD hS => ?_)
  have ec : c1 = cA := z_cEq (ty := .int) (fun _ h => by cases h) 0 1 hK rfl rfl
  subst ec
  have hK : va_K D vwCl [(c1, .int)] s := hK.sub [0] rfl
  have hP : va_P D vwCl [(h0, .inr (1, [.ref q1, .null, .null])), (q1, .inl (c1, 3, .inl (fun _ => 0))), (q2, .inl (c1, 3, .inl (fun _ => 0)))] H := hP
  have hD : va_D A [(h0, .inr (1, [.ref q1, .null, .null])), (q1, .inl (c1, 3, .inl (fun _ => 0))), (q2, .inl (c1, 3, .inl (fun _ => 0)))] := hD
  refine va_putF (D := D) (ci := 1) (v := .ref q2) (ty := .array .int) (C := RX1) (T := TX1) (N := 3) hx hb hts inX1_init_1 tyX1 tyX1_ok nmX1 hown hK hP hD hS 0 rfl rfl 1 (by decide) (hts (.fieldLink RX1 15 "CornLaws$Hangings" "up" "[I") wdX1_init_4) (fun _ h9 => h9) rfl hin rfl (by decide +kernel) rfl rfl (Nat.le_of_ble_eq_true rfl) dX1_init_15 (fun H locs hP hD hS => ?_)
  have hP : va_P D vwCl [(h0, .inr (1, [.ref q1, .ref q2, .null])), (q1, .inl (c1, 3, .inl (fun _ => 0))), (q2, .inl (c1, 3, .inl (fun _ => 0)))] H := hP
  have hD : va_D A [(h0, .inr (1, [.ref q1, .ref q2, .null])), (q1, .inl (c1, 3, .inl (fun _ => 0))), (q2, .inl (c1, 3, .inl (fun _ => 0)))] := hD
  refine lv_aload_n hx hb dX1_init_18 rfl (lv_at hl 0 rfl) ?_
  refine lv_iconst (v := 3) hx hb dX1_init_19 (by decide) ?_
  refine va_newa (atype := .int) (ty := .int) (a0 := (3, .inl (fun _ => 0))) (N' := 3) hx hb (hts (.arrayClass .int) wdX1_init_2) rfl hK hP hD hS hA (fun _ => rfl) (by decide) (by decide) (Nat.le_of_ble_eq_true rfl) (Nat.le_of_ble_eq_true rfl) (Nat.le_of_ble_eq_true rfl) dX1_init_20 (fun q3 cA H hK hP hD hS => ?_)
  have ec : c1 = cA := z_cEq (ty := .int) (fun _ h => by cases h) 0 1 hK rfl rfl
  subst ec
  have hK : va_K D vwCl [(c1, .int)] s := hK.sub [0] rfl
  have hP : va_P D vwCl [(h0, .inr (1, [.ref q1, .ref q2, .null])), (q1, .inl (c1, 3, .inl (fun _ => 0))), (q2, .inl (c1, 3, .inl (fun _ => 0))), (q3, .inl (c1, 3, .inl (fun _ => 0)))] H := hP
  have hD : va_D A [(h0, .inr (1, [.ref q1, .ref q2, .null])), (q1, .inl (c1, 3, .inl (fun _ => 0))), (q2, .inl (c1, 3, .inl (fun _ => 0))), (q3, .inl (c1, 3, .inl (fun _ => 0)))] := hD
  refine va_putF (D := D) (ci := 1) (v := .ref q3) (ty := .array .int) (C := RX1) (T := TX1) (N := 3) hx hb hts inX1_init_1 tyX1 tyX1_ok nmX1 hown hK hP hD hS 0 rfl rfl 2 (by decide) (hts (.fieldLink RX1 18 "CornLaws$Hangings" "low" "[I") wdX1_init_5) (fun _ h9 => h9) rfl hin rfl (by decide +kernel) rfl rfl (Nat.le_of_ble_eq_true rfl) dX1_init_22 (fun H locs hP hD hS => ?_)
  have hP : va_P D vwCl [(h0, .inr (1, [.ref q1, .ref q2, .ref q3])), (q1, .inl (c1, 3, .inl (fun _ => 0))), (q2, .inl (c1, 3, .inl (fun _ => 0))), (q3, .inl (c1, 3, .inl (fun _ => 0)))] H := hP
  have hD : va_D A [(h0, .inr (1, [.ref q1, .ref q2, .ref q3])), (q1, .inl (c1, 3, .inl (fun _ => 0))), (q2, .inl (c1, 3, .inl (fun _ => 0))), (q3, .inl (c1, 3, .inl (fun _ => 0)))] := hD
  have hP9 : va_P D vwCl (wH c1 (fun k => ([h0, q1, q2, q3] : List Nat).getD k 0) z0) H := hP
  have hD9 : va_D A (wH c1 (fun k => ([h0, q1, q2, q3] : List Nat).getD k 0) z0) := hD
  exact W.vret hx hb hr (fun t ht hW => ⟨⟨((fun k => ([h0, q1, q2, q3] : List Nat).getD k 0), c1), rfl, trivial, rfl, by show va_P D vwCl _ t.heap; rw [ht]; exact hP9, va_K.moved hW.alike hK, hD9⟩, hS.F ht⟩) hS.2.2 dX1_init_25
set_option maxRecDepth 20000 in
theorem wdX0_init_0 : Cond.methodLink RX0 3 objectInit ∈ wsX0_init := by decide +kernel
set_option maxRecDepth 20000 in
theorem wdX0_init_1 : Cond.instanceMethod objectInit ∈ wsX0_init := by decide +kernel
set_option maxRecDepth 20000 in
theorem wdX0_init_2 : Cond.arrayClass .int ∈ wsX0_init := by decide +kernel
set_option maxRecDepth 20000 in
theorem wdX0_init_3 : Cond.fieldLink RX0 9 "CornLaws$Cargoes" "grain" "[I" ∈ wsX0_init := by decide +kernel
set_option maxRecDepth 20000 in
theorem wdX0_init_4 : Cond.fieldLink RX0 15 "CornLaws$Cargoes" "inBond" "[I" ∈ wsX0_init := by decide +kernel
set_option maxRecDepth 20000 in
theorem wdX0_init_5 : Cond.fieldLink RX0 18 "CornLaws$Cargoes" "out" "[I" ∈ wsX0_init := by decide +kernel
set_option maxRecDepth 20000 in
theorem wdX0_init_6 : Cond.fieldLink RX0 21 "CornLaws$Cargoes" "shipped" "[I" ∈ wsX0_init := by decide +kernel
set_option maxRecDepth 20000 in
theorem wdX0_init_7 : Cond.fieldLink RX0 24 "CornLaws$Cargoes" "spoilt" "[I" ∈ wsX0_init := by decide +kernel
set_option maxRecDepth 20000 in
theorem wdX0_init_8 : Cond.fieldLink RX0 27 "CornLaws$Cargoes" "came" "[I" ∈ wsX0_init := by decide +kernel
set_option maxRecDepth 20000 in
theorem inX0_init_0 : ∀ w ∈ wsX00, w ∈ wsX0_init := by decide +kernel
set_option maxHeartbeats 4000000 in
set_option maxRecDepth 100000 in
theorem cX0_init_ok (l : Launch) (D : va_G) (h0 sz : Nat) : Met l yX0_init wsX0_init ({ frames := 1, cells := 6, slots := 120, locals := 12 } : Room) (va_Pc [.ref h0] (fun U => U.heap.size = sz ∧ va_P D vwCl [(h0, .inr (0, [.null, .null, .null, .null, .null, .null, .int 0]))] U.heap ∧ va_K D vwCl [] U ∧ va_D (fun _ => True) [(h0, .inr (0, [.null, .null, .null, .null, .null, .null, .int 0]))])) (va_Qv (fun (_ : (Nat → Nat) × ClassId) => True) (fun (z : (Nat → Nat) × ClassId) (t : State) => z.1 0 = h0 ∧ va_P D vwCl (wC z.2 z.1 z0) t.heap ∧ va_K D vwCl [(z.2, .int)] t ∧ va_D (va_A [(h0, .inr (0, [.null, .null, .null, .null, .null, .null, .int 0]))] sz) (wC z.2 z.1 z0)) (va_A [(h0, .inr (0, [.null, .null, .null, .null, .null, .null, .int 0]))] sz)) 6 120 (va_A [(h0, .inr (0, [.null, .null, .null, .null, .null, .null, .int 0]))] sz) := by
  refine Met.ofW (cc := cX0_init) (maxL := 1) (ret := none) (by decide) rfl ?_
  intro p e s m args below meth c s₁ B hml hv
  obtain ⟨rfl, hsz, hP, hK, hD0⟩ := hv
  have hx := B.exec
  have hb := B.bytes
  have hr := B.returns
  have hts := atoms_spec (ws := wsX0_init) B.pre
  have hown : s.vm.findClass RX0 = some m.cls := findClass_of_methodNamed B.named
  have hlocks := B.notSynchronized
  have hin : meth.name = "<init>" := (name_of_methodNamed B.named B.method).1
  subst hsz
  have hD := hD0.self (sz := s.heap.size)
  generalize hAe : va_A [(h0, .inr (0, [.null, .null, .null, .null, .null, .null, .int 0]))] s.heap.size = A at hD ⊢
  have hA : ∀ q : Nat, s.heap.size ≤ q → A q := fun q h => by rw [← hAe]; exact Or.inr h
  have hS : va_S A s.heap s.heap [] := va_S.rf
  have hP : va_P D vwCl [(h0, .inr (0, [.null, .null, .null, .null, .null, .null, .int 0]))] s.heap := hP
  have hl := lv_entry ([.ref h0]) (n := 1) (Nat.le_of_ble_eq_true rfl)
  rw [lg_entry_eq]
  generalize (lg_sl ([.ref h0]) ++ List.replicate (1 - (lg_sl ([.ref h0])).length) Slot.unset).toArray = ls at hl ⊢
  have hl : lv_has ls 1 [(0, .ref h0)] := hl
  refine lv_aload_n hx hb dX0_init_0 rfl (lv_at hl 0 rfl) ?_
  refine W.objInit hx hb hown (hts (.methodLink RX0 3 objectInit) wdX0_init_0) (hts (.instanceMethod objectInit) wdX0_init_1) (hts (.code objectInit ⟨#[0xb1]⟩ 1 none) (List.mem_of_getElem? (i := 3) rfl)) rfl (by rw [hml]; exact hl.1) rfl dX0_init_1 (Nat.le_of_ble_eq_true rfl) (Nat.le_of_ble_eq_true rfl) ?_
  refine W.eq (g2 := F0 m 4 ls []) rfl ?_
  refine lv_aload_n hx hb dX0_init_4 rfl (lv_at hl 0 rfl) ?_
  refine lv_bipush (v := 20) hx hb dX0_init_5 (by decide) ?_
  refine va_newa (atype := .int) (ty := .int) (a0 := (20, .inl (fun _ => 0))) (N' := 20) hx hb (hts (.arrayClass .int) wdX0_init_2) rfl hK hP hD hS hA (fun _ => rfl) (by decide) (by decide) (Nat.le_of_ble_eq_true rfl) (Nat.le_of_ble_eq_true rfl) (Nat.le_of_ble_eq_true rfl) dX0_init_7 (fun q1 cA H hK hP hD hS => ?_)
  obtain ⟨c1, rfl⟩ : ∃ z, z = cA := ⟨_, rfl⟩
  have hK : va_K D vwCl [(c1, .int)] s := hK
  have hP : va_P D vwCl [(h0, .inr (0, [.null, .null, .null, .null, .null, .null, .int 0])), (q1, .inl (c1, 20, .inl (fun _ => 0)))] H := hP
  have hD : va_D A [(h0, .inr (0, [.null, .null, .null, .null, .null, .null, .int 0])), (q1, .inl (c1, 20, .inl (fun _ => 0)))] := hD
  refine va_putF (D := D) (ci := 0) (v := .ref q1) (ty := .array .int) (C := RX0) (T := TX0) (N := 7) hx hb hts inX0_init_0 tyX0 tyX0_ok nmX0 hown hK hP hD hS 0 rfl rfl 0 (by decide) (hts (.fieldLink RX0 9 "CornLaws$Cargoes" "grain" "[I") wdX0_init_3) (fun _ h9 => h9) rfl hin rfl (by decide +kernel) rfl rfl (Nat.le_of_ble_eq_true rfl) dX0_init_9 (fun H locs hP hD hS => ?_)
  have hP : va_P D vwCl [(h0, .inr (0, [.ref q1, .null, .null, .null, .null, .null, .int 0])), (q1, .inl (c1, 20, .inl (fun _ => 0)))] H := hP
  have hD : va_D A [(h0, .inr (0, [.ref q1, .null, .null, .null, .null, .null, .int 0])), (q1, .inl (c1, 20, .inl (fun _ => 0)))] := hD
  refine lv_aload_n hx hb dX0_init_12 rfl (lv_at hl 0 rfl) ?_
  refine lv_bipush (v := 20) hx hb dX0_init_13 (by decide) ?_
  refine va_newa (atype := .int) (ty := .int) (a0 := (20, .inl (fun _ => 0))) (N' := 20) hx hb (hts (.arrayClass .int) wdX0_init_2) rfl hK hP hD hS hA (fun _ => rfl) (by decide) (by decide) (Nat.le_of_ble_eq_true rfl) (Nat.le_of_ble_eq_true rfl) (Nat.le_of_ble_eq_true rfl) dX0_init_15 (fun q2 cA H hK hP hD hS => ?_)
  have ec : c1 = cA := z_cEq (ty := .int) (fun _ h => by cases h) 0 1 hK rfl rfl
  subst ec
  have hK : va_K D vwCl [(c1, .int)] s := hK.sub [0] rfl
  have hP : va_P D vwCl [(h0, .inr (0, [.ref q1, .null, .null, .null, .null, .null, .int 0])), (q1, .inl (c1, 20, .inl (fun _ => 0))), (q2, .inl (c1, 20, .inl (fun _ => 0)))] H := hP
  have hD : va_D A [(h0, .inr (0, [.ref q1, .null, .null, .null, .null, .null, .int 0])), (q1, .inl (c1, 20, .inl (fun _ => 0))), (q2, .inl (c1, 20, .inl (fun _ => 0)))] := hD
  refine va_putF (D := D) (ci := 0) (v := .ref q2) (ty := .array .int) (C := RX0) (T := TX0) (N := 7) hx hb hts inX0_init_0 tyX0 tyX0_ok nmX0 hown hK hP hD hS 0 rfl rfl 1 (by decide) (hts (.fieldLink RX0 15 "CornLaws$Cargoes" "inBond" "[I") wdX0_init_4) (fun _ h9 => h9) rfl hin rfl (by decide +kernel) rfl rfl (Nat.le_of_ble_eq_true rfl) dX0_init_17 (fun H locs hP hD hS => ?_)
  have hP : va_P D vwCl [(h0, .inr (0, [.ref q1, .ref q2, .null, .null, .null, .null, .int 0])), (q1, .inl (c1, 20, .inl (fun _ => 0))), (q2, .inl (c1, 20, .inl (fun _ => 0)))] H := hP
  have hD : va_D A [(h0, .inr (0, [.ref q1, .ref q2, .null, .null, .null, .null, .int 0])), (q1, .inl (c1, 20, .inl (fun _ => 0))), (q2, .inl (c1, 20, .inl (fun _ => 0)))] := hD
  refine lv_aload_n hx hb dX0_init_20 rfl (lv_at hl 0 rfl) ?_
  refine lv_bipush (v := 20) hx hb dX0_init_21 (by decide) ?_
  refine va_newa (atype := .int) (ty := .int) (a0 := (20, .inl (fun _ => 0))) (N' := 20) hx hb (hts (.arrayClass .int) wdX0_init_2) rfl hK hP hD hS hA (fun _ => rfl) (by decide) (by decide) (Nat.le_of_ble_eq_true rfl) (Nat.le_of_ble_eq_true rfl) (Nat.le_of_ble_eq_true rfl) dX0_init_23 (fun q3 cA H hK hP hD hS => ?_)
  have ec : c1 = cA := z_cEq (ty := .int) (fun _ h => by cases h) 0 1 hK rfl rfl
  subst ec
  have hK : va_K D vwCl [(c1, .int)] s := hK.sub [0] rfl
  have hP : va_P D vwCl [(h0, .inr (0, [.ref q1, .ref q2, .null, .null, .null, .null, .int 0])), (q1, .inl (c1, 20, .inl (fun _ => 0))), (q2, .inl (c1, 20, .inl (fun _ => 0))), (q3, .inl (c1, 20, .inl (fun _ => 0)))] H := hP
  have hD : va_D A [(h0, .inr (0, [.ref q1, .ref q2, .null, .null, .null, .null, .int 0])), (q1, .inl (c1, 20, .inl (fun _ => 0))), (q2, .inl (c1, 20, .inl (fun _ => 0))), (q3, .inl (c1, 20, .inl (fun _ => 0)))] := hD
  refine va_putF (D := D) (ci := 0) (v := .ref q3) (ty := .array .int) (C := RX0) (T := TX0) (N := 7) hx hb hts inX0_init_0 tyX0 tyX0_ok nmX0 hown hK hP hD hS 0 rfl rfl 2 (by decide) (hts (.fieldLink RX0 18 "CornLaws$Cargoes" "out" "[I") wdX0_init_5) (fun _ h9 => h9) rfl hin rfl (by decide +kernel) rfl rfl (Nat.le_of_ble_eq_true rfl) dX0_init_25 (fun H locs hP hD hS => ?_)
  have hP : va_P D vwCl [(h0, .inr (0, [.ref q1, .ref q2, .ref q3, .null, .null, .null, .int 0])), (q1, .inl (c1, 20, .inl (fun _ => 0))), (q2, .inl (c1, 20, .inl (fun _ => 0))), (q3, .inl (c1, 20, .inl (fun _ => 0)))] H := hP
  have hD : va_D A [(h0, .inr (0, [.ref q1, .ref q2, .ref q3, .null, .null, .null, .int 0])), (q1, .inl (c1, 20, .inl (fun _ => 0))), (q2, .inl (c1, 20, .inl (fun _ => 0))), (q3, .inl (c1, 20, .inl (fun _ => 0)))] := hD
  refine lv_aload_n hx hb dX0_init_28 rfl (lv_at hl 0 rfl) ?_
  refine lv_bipush (v := 20) hx hb dX0_init_29 (by decide) ?_
  refine va_newa (atype := .int) (ty := .int) (a0 := (20, .inl (fun _ => 0))) (N' := 20) hx hb (hts (.arrayClass .int) wdX0_init_2) rfl hK hP hD hS hA (fun _ => rfl) (by decide) (by decide) (Nat.le_of_ble_eq_true rfl) (Nat.le_of_ble_eq_true rfl) (Nat.le_of_ble_eq_true rfl) dX0_init_31 (fun q4 cA H hK hP hD hS => ?_)
  have ec : c1 = cA := z_cEq (ty := .int) (fun _ h => by cases h) 0 1 hK rfl rfl
  subst ec
  have hK : va_K D vwCl [(c1, .int)] s := hK.sub [0] rfl
  have hP : va_P D vwCl [(h0, .inr (0, [.ref q1, .ref q2, .ref q3, .null, .null, .null, .int 0])), (q1, .inl (c1, 20, .inl (fun _ => 0))), (q2, .inl (c1, 20, .inl (fun _ => 0))), (q3, .inl (c1, 20, .inl (fun _ => 0))), (q4, .inl (c1, 20, .inl (fun _ => 0)))] H := hP
  have hD : va_D A [(h0, .inr (0, [.ref q1, .ref q2, .ref q3, .null, .null, .null, .int 0])), (q1, .inl (c1, 20, .inl (fun _ => 0))), (q2, .inl (c1, 20, .inl (fun _ => 0))), (q3, .inl (c1, 20, .inl (fun _ => 0))), (q4, .inl (c1, 20, .inl (fun _ => 0)))] := hD
  refine va_putF (D := D) (ci := 0) (v := .ref q4) (ty := .array .int) (C := RX0) (T := TX0) (N := 7) hx hb hts inX0_init_0 tyX0 tyX0_ok nmX0 hown hK hP hD hS 0 rfl rfl 3 (by decide) (hts (.fieldLink RX0 21 "CornLaws$Cargoes" "shipped" "[I") wdX0_init_6) (fun _ h9 => h9) rfl hin rfl (by decide +kernel) rfl rfl (Nat.le_of_ble_eq_true rfl) dX0_init_33 (fun H locs hP hD hS => ?_)
  have hP : va_P D vwCl [(h0, .inr (0, [.ref q1, .ref q2, .ref q3, .ref q4, .null, .null, .int 0])), (q1, .inl (c1, 20, .inl (fun _ => 0))), (q2, .inl (c1, 20, .inl (fun _ => 0))), (q3, .inl (c1, 20, .inl (fun _ => 0))), (q4, .inl (c1, 20, .inl (fun _ => 0)))] H := hP
  have hD : va_D A [(h0, .inr (0, [.ref q1, .ref q2, .ref q3, .ref q4, .null, .null, .int 0])), (q1, .inl (c1, 20, .inl (fun _ => 0))), (q2, .inl (c1, 20, .inl (fun _ => 0))), (q3, .inl (c1, 20, .inl (fun _ => 0))), (q4, .inl (c1, 20, .inl (fun _ => 0)))] := hD
  refine lv_aload_n hx hb dX0_init_36 rfl (lv_at hl 0 rfl) ?_
  refine lv_bipush (v := 20) hx hb dX0_init_37 (by decide) ?_
  refine va_newa (atype := .int) (ty := .int) (a0 := (20, .inl (fun _ => 0))) (N' := 20) hx hb (hts (.arrayClass .int) wdX0_init_2) rfl hK hP hD hS hA (fun _ => rfl) (by decide) (by decide) (Nat.le_of_ble_eq_true rfl) (Nat.le_of_ble_eq_true rfl) (Nat.le_of_ble_eq_true rfl) dX0_init_39 (fun q5 cA H hK hP hD hS => ?_)
  have ec : c1 = cA := z_cEq (ty := .int) (fun _ h => by cases h) 0 1 hK rfl rfl
  subst ec
  have hK : va_K D vwCl [(c1, .int)] s := hK.sub [0] rfl
  have hP : va_P D vwCl [(h0, .inr (0, [.ref q1, .ref q2, .ref q3, .ref q4, .null, .null, .int 0])), (q1, .inl (c1, 20, .inl (fun _ => 0))), (q2, .inl (c1, 20, .inl (fun _ => 0))), (q3, .inl (c1, 20, .inl (fun _ => 0))), (q4, .inl (c1, 20, .inl (fun _ => 0))), (q5, .inl (c1, 20, .inl (fun _ => 0)))] H := hP
  have hD : va_D A [(h0, .inr (0, [.ref q1, .ref q2, .ref q3, .ref q4, .null, .null, .int 0])), (q1, .inl (c1, 20, .inl (fun _ => 0))), (q2, .inl (c1, 20, .inl (fun _ => 0))), (q3, .inl (c1, 20, .inl (fun _ => 0))), (q4, .inl (c1, 20, .inl (fun _ => 0))), (q5, .inl (c1, 20, .inl (fun _ => 0)))] := hD
  refine va_putF (D := D) (ci := 0) (v := .ref q5) (ty := .array .int) (C := RX0) (T := TX0) (N := 7) hx hb hts inX0_init_0 tyX0 tyX0_ok nmX0 hown hK hP hD hS 0 rfl rfl 4 (by decide) (hts (.fieldLink RX0 24 "CornLaws$Cargoes" "spoilt" "[I") wdX0_init_7) (fun _ h9 => h9) rfl hin rfl (by decide +kernel) rfl rfl (Nat.le_of_ble_eq_true rfl) dX0_init_41 (fun H locs hP hD hS => ?_)
  have hP : va_P D vwCl [(h0, .inr (0, [.ref q1, .ref q2, .ref q3, .ref q4, .ref q5, .null, .int 0])), (q1, .inl (c1, 20, .inl (fun _ => 0))), (q2, .inl (c1, 20, .inl (fun _ => 0))), (q3, .inl (c1, 20, .inl (fun _ => 0))), (q4, .inl (c1, 20, .inl (fun _ => 0))), (q5, .inl (c1, 20, .inl (fun _ => 0)))] H := hP
  have hD : va_D A [(h0, .inr (0, [.ref q1, .ref q2, .ref q3, .ref q4, .ref q5, .null, .int 0])), (q1, .inl (c1, 20, .inl (fun _ => 0))), (q2, .inl (c1, 20, .inl (fun _ => 0))), (q3, .inl (c1, 20, .inl (fun _ => 0))), (q4, .inl (c1, 20, .inl (fun _ => 0))), (q5, .inl (c1, 20, .inl (fun _ => 0)))] := hD
  refine lv_aload_n hx hb dX0_init_44 rfl (lv_at hl 0 rfl) ?_
  refine lv_bipush (v := 20) hx hb dX0_init_45 (by decide) ?_
  refine va_newa (atype := .int) (ty := .int) (a0 := (20, .inl (fun _ => 0))) (N' := 20) hx hb (hts (.arrayClass .int) wdX0_init_2) rfl hK hP hD hS hA (fun _ => rfl) (by decide) (by decide) (Nat.le_of_ble_eq_true rfl) (Nat.le_of_ble_eq_true rfl) (Nat.le_of_ble_eq_true rfl) dX0_init_47 (fun q6 cA H hK hP hD hS => ?_)
  have ec : c1 = cA := z_cEq (ty := .int) (fun _ h => by cases h) 0 1 hK rfl rfl
  subst ec
  have hK : va_K D vwCl [(c1, .int)] s := hK.sub [0] rfl
  have hP : va_P D vwCl [(h0, .inr (0, [.ref q1, .ref q2, .ref q3, .ref q4, .ref q5, .null, .int 0])), (q1, .inl (c1, 20, .inl (fun _ => 0))), (q2, .inl (c1, 20, .inl (fun _ => 0))), (q3, .inl (c1, 20, .inl (fun _ => 0))), (q4, .inl (c1, 20, .inl (fun _ => 0))), (q5, .inl (c1, 20, .inl (fun _ => 0))), (q6, .inl (c1, 20, .inl (fun _ => 0)))] H := hP
  have hD : va_D A [(h0, .inr (0, [.ref q1, .ref q2, .ref q3, .ref q4, .ref q5, .null, .int 0])), (q1, .inl (c1, 20, .inl (fun _ => 0))), (q2, .inl (c1, 20, .inl (fun _ => 0))), (q3, .inl (c1, 20, .inl (fun _ => 0))), (q4, .inl (c1, 20, .inl (fun _ => 0))), (q5, .inl (c1, 20, .inl (fun _ => 0))), (q6, .inl (c1, 20, .inl (fun _ => 0)))] := hD
  refine va_putF (D := D) (ci := 0) (v := .ref q6) (ty := .array .int) (C := RX0) (T := TX0) (N := 7) hx hb hts inX0_init_0 tyX0 tyX0_ok nmX0 hown hK hP hD hS 0 rfl rfl 5 (by decide) (hts (.fieldLink RX0 27 "CornLaws$Cargoes" "came" "[I") wdX0_init_8) (fun _ h9 => h9) rfl hin rfl (by decide +kernel) rfl rfl (Nat.le_of_ble_eq_true rfl) dX0_init_49 (fun H locs hP hD hS => ?_)
  have hP : va_P D vwCl [(h0, .inr (0, [.ref q1, .ref q2, .ref q3, .ref q4, .ref q5, .ref q6, .int 0])), (q1, .inl (c1, 20, .inl (fun _ => 0))), (q2, .inl (c1, 20, .inl (fun _ => 0))), (q3, .inl (c1, 20, .inl (fun _ => 0))), (q4, .inl (c1, 20, .inl (fun _ => 0))), (q5, .inl (c1, 20, .inl (fun _ => 0))), (q6, .inl (c1, 20, .inl (fun _ => 0)))] H := hP
  have hD : va_D A [(h0, .inr (0, [.ref q1, .ref q2, .ref q3, .ref q4, .ref q5, .ref q6, .int 0])), (q1, .inl (c1, 20, .inl (fun _ => 0))), (q2, .inl (c1, 20, .inl (fun _ => 0))), (q3, .inl (c1, 20, .inl (fun _ => 0))), (q4, .inl (c1, 20, .inl (fun _ => 0))), (q5, .inl (c1, 20, .inl (fun _ => 0))), (q6, .inl (c1, 20, .inl (fun _ => 0)))] := hD
  have hP9 : va_P D vwCl (wC c1 (fun k => ([h0, q1, q2, q3, q4, q5, q6] : List Nat).getD k 0) z0) H := hP
  have hD9 : va_D A (wC c1 (fun k => ([h0, q1, q2, q3, q4, q5, q6] : List Nat).getD k 0) z0) := hD
  exact W.vret hx hb hr (fun t ht hW => ⟨⟨((fun k => ([h0, q1, q2, q3, q4, q5, q6] : List Nat).getD k 0), c1), rfl, trivial, rfl, by show va_P D vwCl _ t.heap; rw [ht]; exact hP9, va_K.moved hW.alike hK, hD9⟩, hS.F ht⟩) hS.2.2 dX0_init_52
set_option maxRecDepth 20000 in
theorem wdX2_init_0 : Cond.methodLink RX2 3 objectInit ∈ wsX2_init := by decide +kernel
set_option maxRecDepth 20000 in
theorem wdX2_init_1 : Cond.instanceMethod objectInit ∈ wsX2_init := by decide +kernel
set_option maxRecDepth 20000 in
theorem wdX2_init_2 : Cond.arrayClass .int ∈ wsX2_init := by decide +kernel
set_option maxRecDepth 20000 in
theorem wdX2_init_3 : Cond.fieldLink RX2 9 "CornLaws$Lettings" "grain" "[I" ∈ wsX2_init := by decide +kernel
set_option maxRecDepth 20000 in
theorem wdX2_init_4 : Cond.fieldLink RX2 15 "CornLaws$Lettings" "quarters" "[I" ∈ wsX2_init := by decide +kernel
set_option maxRecDepth 20000 in
theorem wdX2_init_5 : Cond.fieldLink RX2 18 "CornLaws$Lettings" "week" "[I" ∈ wsX2_init := by decide +kernel
set_option maxRecDepth 20000 in
theorem inX2_init_2 : ∀ w ∈ wsX20, w ∈ wsX2_init := by decide +kernel
set_option maxHeartbeats 4000000 in
set_option maxRecDepth 100000 in
theorem cX2_init_ok (l : Launch) (D : va_G) (h0 sz : Nat) : Met l yX2_init wsX2_init ({ frames := 1, cells := 3, slots := 300, locals := 12 } : Room) (va_Pc [.ref h0] (fun U => U.heap.size = sz ∧ va_P D vwCl [(h0, .inr (2, [.null, .null, .null, .int 0]))] U.heap ∧ va_K D vwCl [] U ∧ va_D (fun _ => True) [(h0, .inr (2, [.null, .null, .null, .int 0]))])) (va_Qv (fun (_ : (Nat → Nat) × ClassId) => True) (fun (z : (Nat → Nat) × ClassId) (t : State) => z.1 0 = h0 ∧ va_P D vwCl (wL z.2 z.1 z0) t.heap ∧ va_K D vwCl [(z.2, .int)] t ∧ va_D (va_A [(h0, .inr (2, [.null, .null, .null, .int 0]))] sz) (wL z.2 z.1 z0)) (va_A [(h0, .inr (2, [.null, .null, .null, .int 0]))] sz)) 3 300 (va_A [(h0, .inr (2, [.null, .null, .null, .int 0]))] sz) := by
  refine Met.ofW (cc := cX2_init) (maxL := 1) (ret := none) (by decide) rfl ?_
  intro p e s m args below meth c s₁ B hml hv
  obtain ⟨rfl, hsz, hP, hK, hD0⟩ := hv
  have hx := B.exec
  have hb := B.bytes
  have hr := B.returns
  have hts := atoms_spec (ws := wsX2_init) B.pre
  have hown : s.vm.findClass RX2 = some m.cls := findClass_of_methodNamed B.named
  have hlocks := B.notSynchronized
  have hin : meth.name = "<init>" := (name_of_methodNamed B.named B.method).1
  subst hsz
  have hD := hD0.self (sz := s.heap.size)
  generalize hAe : va_A [(h0, .inr (2, [.null, .null, .null, .int 0]))] s.heap.size = A at hD ⊢
  have hA : ∀ q : Nat, s.heap.size ≤ q → A q := fun q h => by rw [← hAe]; exact Or.inr h
  have hS : va_S A s.heap s.heap [] := va_S.rf
  have hP : va_P D vwCl [(h0, .inr (2, [.null, .null, .null, .int 0]))] s.heap := hP
  have hl := lv_entry ([.ref h0]) (n := 1) (Nat.le_of_ble_eq_true rfl)
  rw [lg_entry_eq]
  generalize (lg_sl ([.ref h0]) ++ List.replicate (1 - (lg_sl ([.ref h0])).length) Slot.unset).toArray = ls at hl ⊢
  have hl : lv_has ls 1 [(0, .ref h0)] := hl
  refine lv_aload_n hx hb dX2_init_0 rfl (lv_at hl 0 rfl) ?_
  refine W.objInit hx hb hown (hts (.methodLink RX2 3 objectInit) wdX2_init_0) (hts (.instanceMethod objectInit) wdX2_init_1) (hts (.code objectInit ⟨#[0xb1]⟩ 1 none) (List.mem_of_getElem? (i := 3) rfl)) rfl (by rw [hml]; exact hl.1) rfl dX2_init_1 (Nat.le_of_ble_eq_true rfl) (Nat.le_of_ble_eq_true rfl) ?_
  refine W.eq (g2 := F0 m 4 ls []) rfl ?_
  refine lv_aload_n hx hb dX2_init_4 rfl (lv_at hl 0 rfl) ?_
  refine lv_bipush (v := 100) hx hb dX2_init_5 (by decide) ?_
  refine va_newa (atype := .int) (ty := .int) (a0 := (100, .inl (fun _ => 0))) (N' := 100) hx hb (hts (.arrayClass .int) wdX2_init_2) rfl hK hP hD hS hA (fun _ => rfl) (by decide) (by decide) (Nat.le_of_ble_eq_true rfl) (Nat.le_of_ble_eq_true rfl) (Nat.le_of_ble_eq_true rfl) dX2_init_7 (fun q1 cA H hK hP hD hS => ?_)
  obtain ⟨c1, rfl⟩ : ∃ z, z = cA := ⟨_, rfl⟩
  have hK : va_K D vwCl [(c1, .int)] s := hK
  have hP : va_P D vwCl [(h0, .inr (2, [.null, .null, .null, .int 0])), (q1, .inl (c1, 100, .inl (fun _ => 0)))] H := hP
  have hD : va_D A [(h0, .inr (2, [.null, .null, .null, .int 0])), (q1, .inl (c1, 100, .inl (fun _ => 0)))] := hD
  refine va_putF (D := D) (ci := 2) (v := .ref q1) (ty := .array .int) (C := RX2) (T := TX2) (N := 4) hx hb hts inX2_init_2 tyX2 tyX2_ok nmX2 hown hK hP hD hS 0 rfl rfl 0 (by decide) (hts (.fieldLink RX2 9 "CornLaws$Lettings" "grain" "[I") wdX2_init_3) (fun _ h9 => h9) rfl hin rfl (by decide +kernel) rfl rfl (Nat.le_of_ble_eq_true rfl) dX2_init_9 (fun H locs hP hD hS => ?_)
  have hP : va_P D vwCl [(h0, .inr (2, [.ref q1, .null, .null, .int 0])), (q1, .inl (c1, 100, .inl (fun _ => 0)))] H := hP
  have hD : va_D A [(h0, .inr (2, [.ref q1, .null, .null, .int 0])), (q1, .inl (c1, 100, .inl (fun _ => 0)))] := hD
  refine lv_aload_n hx hb dX2_init_12 rfl (lv_at hl 0 rfl) ?_
  refine lv_bipush (v := 100) hx hb dX2_init_13 (by decide) ?_
  refine va_newa (atype := .int) (ty := .int) (a0 := (100, .inl (fun _ => 0))) (N' := 100) hx hb (hts (.arrayClass .int) wdX2_init_2) rfl hK hP hD hS hA (fun _ => rfl) (by decide) (by decide) (Nat.le_of_ble_eq_true rfl) (Nat.le_of_ble_eq_true rfl) (Nat.le_of_ble_eq_true rfl) dX2_init_15 (fun q2 cA H hK hP hD hS => ?_)
  have ec : c1 = cA := z_cEq (ty := .int) (fun _ h => by cases h) 0 1 hK rfl rfl
  subst ec
  have hK : va_K D vwCl [(c1, .int)] s := hK.sub [0] rfl
  have hP : va_P D vwCl [(h0, .inr (2, [.ref q1, .null, .null, .int 0])), (q1, .inl (c1, 100, .inl (fun _ => 0))), (q2, .inl (c1, 100, .inl (fun _ => 0)))] H := hP
  have hD : va_D A [(h0, .inr (2, [.ref q1, .null, .null, .int 0])), (q1, .inl (c1, 100, .inl (fun _ => 0))), (q2, .inl (c1, 100, .inl (fun _ => 0)))] := hD
  refine va_putF (D := D) (ci := 2) (v := .ref q2) (ty := .array .int) (C := RX2) (T := TX2) (N := 4) hx hb hts inX2_init_2 tyX2 tyX2_ok nmX2 hown hK hP hD hS 0 rfl rfl 1 (by decide) (hts (.fieldLink RX2 15 "CornLaws$Lettings" "quarters" "[I") wdX2_init_4) (fun _ h9 => h9) rfl hin rfl (by decide +kernel) rfl rfl (Nat.le_of_ble_eq_true rfl) dX2_init_17 (fun H locs hP hD hS => ?_)
  have hP : va_P D vwCl [(h0, .inr (2, [.ref q1, .ref q2, .null, .int 0])), (q1, .inl (c1, 100, .inl (fun _ => 0))), (q2, .inl (c1, 100, .inl (fun _ => 0)))] H := hP
  have hD : va_D A [(h0, .inr (2, [.ref q1, .ref q2, .null, .int 0])), (q1, .inl (c1, 100, .inl (fun _ => 0))), (q2, .inl (c1, 100, .inl (fun _ => 0)))] := hD
  refine lv_aload_n hx hb dX2_init_20 rfl (lv_at hl 0 rfl) ?_
  refine lv_bipush (v := 100) hx hb dX2_init_21 (by decide) ?_
  refine va_newa (atype := .int) (ty := .int) (a0 := (100, .inl (fun _ => 0))) (N' := 100) hx hb (hts (.arrayClass .int) wdX2_init_2) rfl hK hP hD hS hA (fun _ => rfl) (by decide) (by decide) (Nat.le_of_ble_eq_true rfl) (Nat.le_of_ble_eq_true rfl) (Nat.le_of_ble_eq_true rfl) dX2_init_23 (fun q3 cA H hK hP hD hS => ?_)
  have ec : c1 = cA := z_cEq (ty := .int) (fun _ h => by cases h) 0 1 hK rfl rfl
  subst ec
  have hK : va_K D vwCl [(c1, .int)] s := hK.sub [0] rfl
  have hP : va_P D vwCl [(h0, .inr (2, [.ref q1, .ref q2, .null, .int 0])), (q1, .inl (c1, 100, .inl (fun _ => 0))), (q2, .inl (c1, 100, .inl (fun _ => 0))), (q3, .inl (c1, 100, .inl (fun _ => 0)))] H := hP
  have hD : va_D A [(h0, .inr (2, [.ref q1, .ref q2, .null, .int 0])), (q1, .inl (c1, 100, .inl (fun _ => 0))), (q2, .inl (c1, 100, .inl (fun _ => 0))), (q3, .inl (c1, 100, .inl (fun _ => 0)))] := hD
  refine va_putF (D := D) (ci := 2) (v := .ref q3) (ty := .array .int) (C := RX2) (T := TX2) (N := 4) hx hb hts inX2_init_2 tyX2 tyX2_ok nmX2 hown hK hP hD hS 0 rfl rfl 2 (by decide) (hts (.fieldLink RX2 18 "CornLaws$Lettings" "week" "[I") wdX2_init_5) (fun _ h9 => h9) rfl hin rfl (by decide +kernel) rfl rfl (Nat.le_of_ble_eq_true rfl) dX2_init_25 (fun H locs hP hD hS => ?_)
  have hP : va_P D vwCl [(h0, .inr (2, [.ref q1, .ref q2, .ref q3, .int 0])), (q1, .inl (c1, 100, .inl (fun _ => 0))), (q2, .inl (c1, 100, .inl (fun _ => 0))), (q3, .inl (c1, 100, .inl (fun _ => 0)))] H := hP
  have hD : va_D A [(h0, .inr (2, [.ref q1, .ref q2, .ref q3, .int 0])), (q1, .inl (c1, 100, .inl (fun _ => 0))), (q2, .inl (c1, 100, .inl (fun _ => 0))), (q3, .inl (c1, 100, .inl (fun _ => 0)))] := hD
  have hP9 : va_P D vwCl (wL c1 (fun k => ([h0, q1, q2, q3] : List Nat).getD k 0) z0) H := hP
  have hD9 : va_D A (wL c1 (fun k => ([h0, q1, q2, q3] : List Nat).getD k 0) z0) := hD
  exact W.vret hx hb hr (fun t ht hW => ⟨⟨((fun k => ([h0, q1, q2, q3] : List Nat).getD k 0), c1), rfl, trivial, rfl, by show va_P D vwCl _ t.heap; rw [ht]; exact hP9, va_K.moved hW.alike hK, hD9⟩, hS.F ht⟩) hS.2.2 dX2_init_28
set_option maxRecDepth 20000 in
theorem wdX4_init_0 : Cond.methodLink RX4 3 objectInit ∈ wsX4_init := by decide +kernel
set_option maxRecDepth 20000 in
theorem wdX4_init_1 : Cond.instanceMethod objectInit ∈ wsX4_init := by decide +kernel
set_option maxRecDepth 20000 in
theorem wdX4_init_2 : Cond.arrayClass .int ∈ wsX4_init := by decide +kernel
set_option maxRecDepth 20000 in
theorem wdX4_init_3 : Cond.fieldLink RX4 9 "CornLaws$Scales" "grain" "[I" ∈ wsX4_init := by decide +kernel
set_option maxRecDepth 20000 in
theorem wdX4_init_4 : Cond.fieldLink RX4 15 "CornLaws$Scales" "week" "[I" ∈ wsX4_init := by decide +kernel
set_option maxRecDepth 20000 in
theorem wdX4_init_5 : Cond.fieldLink RX4 18 "CornLaws$Scales" "told" "[I" ∈ wsX4_init := by decide +kernel
set_option maxRecDepth 20000 in
theorem wdX4_init_6 : Cond.fieldLink RX4 21 "CornLaws$Scales" "steps" "[I" ∈ wsX4_init := by decide +kernel
set_option maxRecDepth 20000 in
theorem wdX4_init_7 : Cond.classLink RX4 24 "[[I" ∈ wsX4_init := by decide +kernel
set_option maxRecDepth 20000 in
theorem wdX4_init_8 : Cond.fieldLink RX4 26 "CornLaws$Scales" "stepPrice" "[[I" ∈ wsX4_init := by decide +kernel
set_option maxRecDepth 20000 in
theorem wdX4_init_9 : Cond.fieldLink RX4 29 "CornLaws$Scales" "stepDuty" "[[I" ∈ wsX4_init := by decide +kernel
set_option maxRecDepth 20000 in
theorem inX4_init_4 : ∀ w ∈ wsX40, w ∈ wsX4_init := by decide +kernel
set_option maxHeartbeats 4000000 in
set_option maxRecDepth 100000 in
theorem cX4_init_ok (l : Launch) (D : va_G) (h0 sz : Nat) : Met l yX4_init wsX4_init ({ frames := 1, cells := 22, slots := 176, locals := 12 } : Room) (va_Pc [.ref h0] (fun U => U.heap.size = sz ∧ va_P D vwCl [(h0, .inr (4, [.null, .null, .null, .null, .null, .null, .int 0]))] U.heap ∧ va_K D vwCl [] U ∧ va_D (fun _ => True) [(h0, .inr (4, [.null, .null, .null, .null, .null, .null, .int 0]))] ∧ va_AOA .int U)) (va_Qv (fun (_ : (Nat → Nat) × ClassId × ClassId) => True) (fun (z : (Nat → Nat) × ClassId × ClassId) (t : State) => z.1 0 = h0 ∧ va_P D vwCl (wS z.2.1 z.2.2 z.1 z0) t.heap ∧ va_K D vwCl (tz z.2.1 z.2.2) t ∧ va_D (va_A [(h0, .inr (4, [.null, .null, .null, .null, .null, .null, .int 0]))] sz) (wS z.2.1 z.2.2 z.1 z0)) (va_A [(h0, .inr (4, [.null, .null, .null, .null, .null, .null, .int 0]))] sz)) 22 176 (va_A [(h0, .inr (4, [.null, .null, .null, .null, .null, .null, .int 0]))] sz) := by
  refine Met.ofW (cc := cX4_init) (maxL := 1) (ret := none) (by decide) rfl ?_
  intro p e s m args below meth c s₁ B hml hv
  obtain ⟨rfl, hsz, hP, hK, hD0, hAO⟩ := hv
  have hx := B.exec
  have hb := B.bytes
  have hr := B.returns
  have hts := atoms_spec (ws := wsX4_init) B.pre
  have hown : s.vm.findClass RX4 = some m.cls := findClass_of_methodNamed B.named
  have hlocks := B.notSynchronized
  have hin : meth.name = "<init>" := (name_of_methodNamed B.named B.method).1
  subst hsz
  have hD := hD0.self (sz := s.heap.size)
  generalize hAe : va_A [(h0, .inr (4, [.null, .null, .null, .null, .null, .null, .int 0]))] s.heap.size = A at hD ⊢
  have hA : ∀ q : Nat, s.heap.size ≤ q → A q := fun q h => by rw [← hAe]; exact Or.inr h
  have hS : va_S A s.heap s.heap [] := va_S.rf
  have hP : va_P D vwCl [(h0, .inr (4, [.null, .null, .null, .null, .null, .null, .int 0]))] s.heap := hP
  have hl := lv_entry ([.ref h0]) (n := 1) (Nat.le_of_ble_eq_true rfl)
  rw [lg_entry_eq]
  generalize (lg_sl ([.ref h0]) ++ List.replicate (1 - (lg_sl ([.ref h0])).length) Slot.unset).toArray = ls at hl ⊢
  have hl : lv_has ls 1 [(0, .ref h0)] := hl
  refine lv_aload_n hx hb dX4_init_0 rfl (lv_at hl 0 rfl) ?_
  refine W.objInit hx hb hown (hts (.methodLink RX4 3 objectInit) wdX4_init_0) (hts (.instanceMethod objectInit) wdX4_init_1) (hts (.code objectInit ⟨#[0xb1]⟩ 1 none) (List.mem_of_getElem? (i := 3) rfl)) rfl (by rw [hml]; exact hl.1) rfl dX4_init_1 (Nat.le_of_ble_eq_true rfl) (Nat.le_of_ble_eq_true rfl) ?_
  refine W.eq (g2 := F0 m 4 ls []) rfl ?_
  refine lv_aload_n hx hb dX4_init_4 rfl (lv_at hl 0 rfl) ?_
  refine lv_bipush (v := 8) hx hb dX4_init_5 (by decide) ?_
  refine va_newa (atype := .int) (ty := .int) (a0 := (8, .inl (fun _ => 0))) (N' := 8) hx hb (hts (.arrayClass .int) wdX4_init_2) rfl hK hP hD hS hA (fun _ => rfl) (by decide) (by decide) (Nat.le_of_ble_eq_true rfl) (Nat.le_of_ble_eq_true rfl) (Nat.le_of_ble_eq_true rfl) dX4_init_7 (fun q1 cA H hK hP hD hS => ?_)
  obtain ⟨c1, rfl⟩ : ∃ z, z = cA := ⟨_, rfl⟩
  have hK : va_K D vwCl [(c1, .int)] s := hK
  have hP : va_P D vwCl [(h0, .inr (4, [.null, .null, .null, .null, .null, .null, .int 0])), (q1, .inl (c1, 8, .inl (fun _ => 0)))] H := hP
  have hD : va_D A [(h0, .inr (4, [.null, .null, .null, .null, .null, .null, .int 0])), (q1, .inl (c1, 8, .inl (fun _ => 0)))] := hD
  refine va_putF (D := D) (ci := 4) (v := .ref q1) (ty := .array .int) (C := RX4) (T := TX4) (N := 7) hx hb hts inX4_init_4 tyX4 tyX4_ok nmX4 hown hK hP hD hS 0 rfl rfl 0 (by decide) (hts (.fieldLink RX4 9 "CornLaws$Scales" "grain" "[I") wdX4_init_3) (fun _ h9 => h9) rfl hin rfl (by decide +kernel) rfl rfl (Nat.le_of_ble_eq_true rfl) dX4_init_9 (fun H locs hP hD hS => ?_)
  have hP : va_P D vwCl [(h0, .inr (4, [.ref q1, .null, .null, .null, .null, .null, .int 0])), (q1, .inl (c1, 8, .inl (fun _ => 0)))] H := hP
  have hD : va_D A [(h0, .inr (4, [.ref q1, .null, .null, .null, .null, .null, .int 0])), (q1, .inl (c1, 8, .inl (fun _ => 0)))] := hD
  refine lv_aload_n hx hb dX4_init_12 rfl (lv_at hl 0 rfl) ?_
  refine lv_bipush (v := 8) hx hb dX4_init_13 (by decide) ?_
  refine va_newa (atype := .int) (ty := .int) (a0 := (8, .inl (fun _ => 0))) (N' := 8) hx hb (hts (.arrayClass .int) wdX4_init_2) rfl hK hP hD hS hA (fun _ => rfl) (by decide) (by decide) (Nat.le_of_ble_eq_true rfl) (Nat.le_of_ble_eq_true rfl) (Nat.le_of_ble_eq_true rfl) dX4_init_15 (fun q2 cA H hK hP hD hS => ?_)
  have ec : c1 = cA := z_cEq (ty := .int) (fun _ h => by cases h) 0 1 hK rfl rfl
  subst ec
  have hK : va_K D vwCl [(c1, .int)] s := hK.sub [0] rfl
  have hP : va_P D vwCl [(h0, .inr (4, [.ref q1, .null, .null, .null, .null, .null, .int 0])), (q1, .inl (c1, 8, .inl (fun _ => 0))), (q2, .inl (c1, 8, .inl (fun _ => 0)))] H := hP
  have hD : va_D A [(h0, .inr (4, [.ref q1, .null, .null, .null, .null, .null, .int 0])), (q1, .inl (c1, 8, .inl (fun _ => 0))), (q2, .inl (c1, 8, .inl (fun _ => 0)))] := hD
  refine va_putF (D := D) (ci := 4) (v := .ref q2) (ty := .array .int) (C := RX4) (T := TX4) (N := 7) hx hb hts inX4_init_4 tyX4 tyX4_ok nmX4 hown hK hP hD hS 0 rfl rfl 1 (by decide) (hts (.fieldLink RX4 15 "CornLaws$Scales" "week" "[I") wdX4_init_4) (fun _ h9 => h9) rfl hin rfl (by decide +kernel) rfl rfl (Nat.le_of_ble_eq_true rfl) dX4_init_17 (fun H locs hP hD hS => ?_)
  have hP : va_P D vwCl [(h0, .inr (4, [.ref q1, .ref q2, .null, .null, .null, .null, .int 0])), (q1, .inl (c1, 8, .inl (fun _ => 0))), (q2, .inl (c1, 8, .inl (fun _ => 0)))] H := hP
  have hD : va_D A [(h0, .inr (4, [.ref q1, .ref q2, .null, .null, .null, .null, .int 0])), (q1, .inl (c1, 8, .inl (fun _ => 0))), (q2, .inl (c1, 8, .inl (fun _ => 0)))] := hD
  refine lv_aload_n hx hb dX4_init_20 rfl (lv_at hl 0 rfl) ?_
  refine lv_bipush (v := 8) hx hb dX4_init_21 (by decide) ?_
  refine va_newa (atype := .int) (ty := .int) (a0 := (8, .inl (fun _ => 0))) (N' := 8) hx hb (hts (.arrayClass .int) wdX4_init_2) rfl hK hP hD hS hA (fun _ => rfl) (by decide) (by decide) (Nat.le_of_ble_eq_true rfl) (Nat.le_of_ble_eq_true rfl) (Nat.le_of_ble_eq_true rfl) dX4_init_23 (fun q3 cA H hK hP hD hS => ?_)
  have ec : c1 = cA := z_cEq (ty := .int) (fun _ h => by cases h) 0 1 hK rfl rfl
  subst ec
  have hK : va_K D vwCl [(c1, .int)] s := hK.sub [0] rfl
  have hP : va_P D vwCl [(h0, .inr (4, [.ref q1, .ref q2, .null, .null, .null, .null, .int 0])), (q1, .inl (c1, 8, .inl (fun _ => 0))), (q2, .inl (c1, 8, .inl (fun _ => 0))), (q3, .inl (c1, 8, .inl (fun _ => 0)))] H := hP
  have hD : va_D A [(h0, .inr (4, [.ref q1, .ref q2, .null, .null, .null, .null, .int 0])), (q1, .inl (c1, 8, .inl (fun _ => 0))), (q2, .inl (c1, 8, .inl (fun _ => 0))), (q3, .inl (c1, 8, .inl (fun _ => 0)))] := hD
  refine va_putF (D := D) (ci := 4) (v := .ref q3) (ty := .array .int) (C := RX4) (T := TX4) (N := 7) hx hb hts inX4_init_4 tyX4 tyX4_ok nmX4 hown hK hP hD hS 0 rfl rfl 2 (by decide) (hts (.fieldLink RX4 18 "CornLaws$Scales" "told" "[I") wdX4_init_5) (fun _ h9 => h9) rfl hin rfl (by decide +kernel) rfl rfl (Nat.le_of_ble_eq_true rfl) dX4_init_25 (fun H locs hP hD hS => ?_)
  have hP : va_P D vwCl [(h0, .inr (4, [.ref q1, .ref q2, .ref q3, .null, .null, .null, .int 0])), (q1, .inl (c1, 8, .inl (fun _ => 0))), (q2, .inl (c1, 8, .inl (fun _ => 0))), (q3, .inl (c1, 8, .inl (fun _ => 0)))] H := hP
  have hD : va_D A [(h0, .inr (4, [.ref q1, .ref q2, .ref q3, .null, .null, .null, .int 0])), (q1, .inl (c1, 8, .inl (fun _ => 0))), (q2, .inl (c1, 8, .inl (fun _ => 0))), (q3, .inl (c1, 8, .inl (fun _ => 0)))] := hD
  refine lv_aload_n hx hb dX4_init_28 rfl (lv_at hl 0 rfl) ?_
  refine lv_bipush (v := 8) hx hb dX4_init_29 (by decide) ?_
  refine va_newa (atype := .int) (ty := .int) (a0 := (8, .inl (fun _ => 0))) (N' := 8) hx hb (hts (.arrayClass .int) wdX4_init_2) rfl hK hP hD hS hA (fun _ => rfl) (by decide) (by decide) (Nat.le_of_ble_eq_true rfl) (Nat.le_of_ble_eq_true rfl) (Nat.le_of_ble_eq_true rfl) dX4_init_31 (fun q4 cA H hK hP hD hS => ?_)
  have ec : c1 = cA := z_cEq (ty := .int) (fun _ h => by cases h) 0 1 hK rfl rfl
  subst ec
  have hK : va_K D vwCl [(c1, .int)] s := hK.sub [0] rfl
  have hP : va_P D vwCl [(h0, .inr (4, [.ref q1, .ref q2, .ref q3, .null, .null, .null, .int 0])), (q1, .inl (c1, 8, .inl (fun _ => 0))), (q2, .inl (c1, 8, .inl (fun _ => 0))), (q3, .inl (c1, 8, .inl (fun _ => 0))), (q4, .inl (c1, 8, .inl (fun _ => 0)))] H := hP
  have hD : va_D A [(h0, .inr (4, [.ref q1, .ref q2, .ref q3, .null, .null, .null, .int 0])), (q1, .inl (c1, 8, .inl (fun _ => 0))), (q2, .inl (c1, 8, .inl (fun _ => 0))), (q3, .inl (c1, 8, .inl (fun _ => 0))), (q4, .inl (c1, 8, .inl (fun _ => 0)))] := hD
  refine va_putF (D := D) (ci := 4) (v := .ref q4) (ty := .array .int) (C := RX4) (T := TX4) (N := 7) hx hb hts inX4_init_4 tyX4 tyX4_ok nmX4 hown hK hP hD hS 0 rfl rfl 3 (by decide) (hts (.fieldLink RX4 21 "CornLaws$Scales" "steps" "[I") wdX4_init_6) (fun _ h9 => h9) rfl hin rfl (by decide +kernel) rfl rfl (Nat.le_of_ble_eq_true rfl) dX4_init_33 (fun H locs hP hD hS => ?_)
  have hP : va_P D vwCl [(h0, .inr (4, [.ref q1, .ref q2, .ref q3, .ref q4, .null, .null, .int 0])), (q1, .inl (c1, 8, .inl (fun _ => 0))), (q2, .inl (c1, 8, .inl (fun _ => 0))), (q3, .inl (c1, 8, .inl (fun _ => 0))), (q4, .inl (c1, 8, .inl (fun _ => 0)))] H := hP
  have hD : va_D A [(h0, .inr (4, [.ref q1, .ref q2, .ref q3, .ref q4, .null, .null, .int 0])), (q1, .inl (c1, 8, .inl (fun _ => 0))), (q2, .inl (c1, 8, .inl (fun _ => 0))), (q3, .inl (c1, 8, .inl (fun _ => 0))), (q4, .inl (c1, 8, .inl (fun _ => 0)))] := hD
  refine lv_aload_n hx hb dX4_init_36 rfl (lv_at hl 0 rfl) ?_
  refine lv_bipush (v := 8) hx hb dX4_init_37 (by decide) ?_
  refine lv_bipush (v := 8) hx hb dX4_init_39 (by decide) ?_
  have hcy : s.vm.findClass (FieldType.array .int).toString = some c1 := (hK.2 0 (c1, .int) rfl).2
  have hP : va_P D vwCl ([(h0, .inr (4, [.ref q1, .ref q2, .ref q3, .ref q4, .null, .null, .int 0])), (q1, .inl (c1, 8, .inl (fun _ => 0))), (q2, .inl (c1, 8, .inl (fun _ => 0))), (q3, .inl (c1, 8, .inl (fun _ => 0))), (q4, .inl (c1, 8, .inl (fun _ => 0)))] ++ va_pl [] (fun _ => .inr (0, []))) H := hP
  have hD : va_D A ([(h0, .inr (4, [.ref q1, .ref q2, .ref q3, .ref q4, .null, .null, .int 0])), (q1, .inl (c1, 8, .inl (fun _ => 0))), (q2, .inl (c1, 8, .inl (fun _ => 0))), (q3, .inl (c1, 8, .inl (fun _ => 0))), (q4, .inl (c1, 8, .inl (fun _ => 0)))] ++ va_pl [] (fun _ => .inr (0, []))) := hD
  refine va_mna (ty := .int) (N' := 8) (K' := 8) (z := (8, .inl (fun _ => 0))) hx hb hown (hts (.classLink RX4 24 "[[I") wdX4_init_7) hAO (hts (.arrayClass .int) wdX4_init_2) hcy hK hP hD hS hA (by decide) (by decide) (by decide) (by decide) (Nat.le_of_ble_eq_true rfl) (Nat.le_of_ble_eq_true rfl) (Nat.le_of_ble_eq_true rfl) rfl rfl (Nat.le_of_ble_eq_true rfl) (Nat.le_of_ble_eq_true rfl) (fun c => by show ({ cls := c, slots := Array.replicate 8 (.int 0), vm := .none } : Cell) = _; rw [arrV_new]; rfl) dX4_init_41 (fun q5 r1 cA H hinj hnl hK hP hD hS => ?_)
  rw [z_rows] at hP hD
  obtain ⟨c2, rfl⟩ : ∃ z, z = cA := ⟨_, rfl⟩
  have hK : va_K D vwCl (tz c1 c2) s := hK
  have hP : va_P D vwCl [(h0, .inr (4, [.ref q1, .ref q2, .ref q3, .ref q4, .null, .null, .int 0])), (q1, .inl (c1, 8, .inl (fun _ => 0))), (q2, .inl (c1, 8, .inl (fun _ => 0))), (q3, .inl (c1, 8, .inl (fun _ => 0))), (q4, .inl (c1, 8, .inl (fun _ => 0))), (q5, .inl (c2, 8, .inr (.inr (.inr (.inr (fun i => if i < 8 then some (r1 i) else none)))))), (r1 0, .inl (c1, 8, .inl (fun _ => 0))), (r1 1, .inl (c1, 8, .inl (fun _ => 0))), (r1 2, .inl (c1, 8, .inl (fun _ => 0))), (r1 3, .inl (c1, 8, .inl (fun _ => 0))), (r1 4, .inl (c1, 8, .inl (fun _ => 0))), (r1 5, .inl (c1, 8, .inl (fun _ => 0))), (r1 6, .inl (c1, 8, .inl (fun _ => 0))), (r1 7, .inl (c1, 8, .inl (fun _ => 0)))] H := hP
  have hD : va_D A [(h0, .inr (4, [.ref q1, .ref q2, .ref q3, .ref q4, .null, .null, .int 0])), (q1, .inl (c1, 8, .inl (fun _ => 0))), (q2, .inl (c1, 8, .inl (fun _ => 0))), (q3, .inl (c1, 8, .inl (fun _ => 0))), (q4, .inl (c1, 8, .inl (fun _ => 0))), (q5, .inl (c2, 8, .inr (.inr (.inr (.inr (fun i => if i < 8 then some (r1 i) else none)))))), (r1 0, .inl (c1, 8, .inl (fun _ => 0))), (r1 1, .inl (c1, 8, .inl (fun _ => 0))), (r1 2, .inl (c1, 8, .inl (fun _ => 0))), (r1 3, .inl (c1, 8, .inl (fun _ => 0))), (r1 4, .inl (c1, 8, .inl (fun _ => 0))), (r1 5, .inl (c1, 8, .inl (fun _ => 0))), (r1 6, .inl (c1, 8, .inl (fun _ => 0))), (r1 7, .inl (c1, 8, .inl (fun _ => 0)))] := hD
  refine va_putF (D := D) (ci := 4) (v := .ref q5) (ty := .array (.array .int)) (C := RX4) (T := TX4) (N := 7) hx hb hts inX4_init_4 tyX4 tyX4_ok nmX4 hown hK hP hD hS 0 rfl rfl 4 (by decide) (hts (.fieldLink RX4 26 "CornLaws$Scales" "stepPrice" "[[I") wdX4_init_8) (fun _ h9 => h9) rfl hin rfl (by decide +kernel) rfl rfl (Nat.le_of_ble_eq_true rfl) dX4_init_45 (fun H locs hP hD hS => ?_)
  have hP : va_P D vwCl [(h0, .inr (4, [.ref q1, .ref q2, .ref q3, .ref q4, .ref q5, .null, .int 0])), (q1, .inl (c1, 8, .inl (fun _ => 0))), (q2, .inl (c1, 8, .inl (fun _ => 0))), (q3, .inl (c1, 8, .inl (fun _ => 0))), (q4, .inl (c1, 8, .inl (fun _ => 0))), (q5, .inl (c2, 8, .inr (.inr (.inr (.inr (fun i => if i < 8 then some (r1 i) else none)))))), (r1 0, .inl (c1, 8, .inl (fun _ => 0))), (r1 1, .inl (c1, 8, .inl (fun _ => 0))), (r1 2, .inl (c1, 8, .inl (fun _ => 0))), (r1 3, .inl (c1, 8, .inl (fun _ => 0))), (r1 4, .inl (c1, 8, .inl (fun _ => 0))), (r1 5, .inl (c1, 8, .inl (fun _ => 0))), (r1 6, .inl (c1, 8, .inl (fun _ => 0))), (r1 7, .inl (c1, 8, .inl (fun _ => 0)))] H := hP
  have hD : va_D A [(h0, .inr (4, [.ref q1, .ref q2, .ref q3, .ref q4, .ref q5, .null, .int 0])), (q1, .inl (c1, 8, .inl (fun _ => 0))), (q2, .inl (c1, 8, .inl (fun _ => 0))), (q3, .inl (c1, 8, .inl (fun _ => 0))), (q4, .inl (c1, 8, .inl (fun _ => 0))), (q5, .inl (c2, 8, .inr (.inr (.inr (.inr (fun i => if i < 8 then some (r1 i) else none)))))), (r1 0, .inl (c1, 8, .inl (fun _ => 0))), (r1 1, .inl (c1, 8, .inl (fun _ => 0))), (r1 2, .inl (c1, 8, .inl (fun _ => 0))), (r1 3, .inl (c1, 8, .inl (fun _ => 0))), (r1 4, .inl (c1, 8, .inl (fun _ => 0))), (r1 5, .inl (c1, 8, .inl (fun _ => 0))), (r1 6, .inl (c1, 8, .inl (fun _ => 0))), (r1 7, .inl (c1, 8, .inl (fun _ => 0)))] := hD
  refine lv_aload_n hx hb dX4_init_48 rfl (lv_at hl 0 rfl) ?_
  refine lv_bipush (v := 8) hx hb dX4_init_49 (by decide) ?_
  refine lv_bipush (v := 8) hx hb dX4_init_51 (by decide) ?_
  have hcy : s.vm.findClass (FieldType.array .int).toString = some c1 := (hK.2 0 (c1, .int) rfl).2
  have hP : va_P D vwCl ([(h0, .inr (4, [.ref q1, .ref q2, .ref q3, .ref q4, .ref q5, .null, .int 0])), (q1, .inl (c1, 8, .inl (fun _ => 0))), (q2, .inl (c1, 8, .inl (fun _ => 0))), (q3, .inl (c1, 8, .inl (fun _ => 0))), (q4, .inl (c1, 8, .inl (fun _ => 0))), (q5, .inl (c2, 8, .inr (.inr (.inr (.inr (fun i => if i < 8 then some (r1 i) else none)))))), (r1 0, .inl (c1, 8, .inl (fun _ => 0))), (r1 1, .inl (c1, 8, .inl (fun _ => 0))), (r1 2, .inl (c1, 8, .inl (fun _ => 0))), (r1 3, .inl (c1, 8, .inl (fun _ => 0))), (r1 4, .inl (c1, 8, .inl (fun _ => 0))), (r1 5, .inl (c1, 8, .inl (fun _ => 0))), (r1 6, .inl (c1, 8, .inl (fun _ => 0))), (r1 7, .inl (c1, 8, .inl (fun _ => 0)))] ++ va_pl [] (fun _ => .inr (0, []))) H := hP
  have hD : va_D A ([(h0, .inr (4, [.ref q1, .ref q2, .ref q3, .ref q4, .ref q5, .null, .int 0])), (q1, .inl (c1, 8, .inl (fun _ => 0))), (q2, .inl (c1, 8, .inl (fun _ => 0))), (q3, .inl (c1, 8, .inl (fun _ => 0))), (q4, .inl (c1, 8, .inl (fun _ => 0))), (q5, .inl (c2, 8, .inr (.inr (.inr (.inr (fun i => if i < 8 then some (r1 i) else none)))))), (r1 0, .inl (c1, 8, .inl (fun _ => 0))), (r1 1, .inl (c1, 8, .inl (fun _ => 0))), (r1 2, .inl (c1, 8, .inl (fun _ => 0))), (r1 3, .inl (c1, 8, .inl (fun _ => 0))), (r1 4, .inl (c1, 8, .inl (fun _ => 0))), (r1 5, .inl (c1, 8, .inl (fun _ => 0))), (r1 6, .inl (c1, 8, .inl (fun _ => 0))), (r1 7, .inl (c1, 8, .inl (fun _ => 0)))] ++ va_pl [] (fun _ => .inr (0, []))) := hD
  refine va_mna (ty := .int) (N' := 8) (K' := 8) (z := (8, .inl (fun _ => 0))) hx hb hown (hts (.classLink RX4 24 "[[I") wdX4_init_7) hAO (hts (.arrayClass .int) wdX4_init_2) hcy hK hP hD hS hA (by decide) (by decide) (by decide) (by decide) (Nat.le_of_ble_eq_true rfl) (Nat.le_of_ble_eq_true rfl) (Nat.le_of_ble_eq_true rfl) rfl rfl (Nat.le_of_ble_eq_true rfl) (Nat.le_of_ble_eq_true rfl) (fun c => by show ({ cls := c, slots := Array.replicate 8 (.int 0), vm := .none } : Cell) = _; rw [arrV_new]; rfl) dX4_init_53 (fun q6 r2 cA H hinj hnl hK hP hD hS => ?_)
  rw [z_rows] at hP hD
  have ec : c2 = cA := z_cEq (ty := .array .int) (fun _ h => by cases h) 1 2 hK rfl rfl
  subst ec
  have hK : va_K D vwCl (tz c1 c2) s := hK.sub [0, 1] rfl
  have hP : va_P D vwCl [(h0, .inr (4, [.ref q1, .ref q2, .ref q3, .ref q4, .ref q5, .null, .int 0])), (q1, .inl (c1, 8, .inl (fun _ => 0))), (q2, .inl (c1, 8, .inl (fun _ => 0))), (q3, .inl (c1, 8, .inl (fun _ => 0))), (q4, .inl (c1, 8, .inl (fun _ => 0))), (q5, .inl (c2, 8, .inr (.inr (.inr (.inr (fun i => if i < 8 then some (r1 i) else none)))))), (r1 0, .inl (c1, 8, .inl (fun _ => 0))), (r1 1, .inl (c1, 8, .inl (fun _ => 0))), (r1 2, .inl (c1, 8, .inl (fun _ => 0))), (r1 3, .inl (c1, 8, .inl (fun _ => 0))), (r1 4, .inl (c1, 8, .inl (fun _ => 0))), (r1 5, .inl (c1, 8, .inl (fun _ => 0))), (r1 6, .inl (c1, 8, .inl (fun _ => 0))), (r1 7, .inl (c1, 8, .inl (fun _ => 0))), (q6, .inl (c2, 8, .inr (.inr (.inr (.inr (fun i => if i < 8 then some (r2 i) else none)))))), (r2 0, .inl (c1, 8, .inl (fun _ => 0))), (r2 1, .inl (c1, 8, .inl (fun _ => 0))), (r2 2, .inl (c1, 8, .inl (fun _ => 0))), (r2 3, .inl (c1, 8, .inl (fun _ => 0))), (r2 4, .inl (c1, 8, .inl (fun _ => 0))), (r2 5, .inl (c1, 8, .inl (fun _ => 0))), (r2 6, .inl (c1, 8, .inl (fun _ => 0))), (r2 7, .inl (c1, 8, .inl (fun _ => 0)))] H := hP
  have hD : va_D A [(h0, .inr (4, [.ref q1, .ref q2, .ref q3, .ref q4, .ref q5, .null, .int 0])), (q1, .inl (c1, 8, .inl (fun _ => 0))), (q2, .inl (c1, 8, .inl (fun _ => 0))), (q3, .inl (c1, 8, .inl (fun _ => 0))), (q4, .inl (c1, 8, .inl (fun _ => 0))), (q5, .inl (c2, 8, .inr (.inr (.inr (.inr (fun i => if i < 8 then some (r1 i) else none)))))), (r1 0, .inl (c1, 8, .inl (fun _ => 0))), (r1 1, .inl (c1, 8, .inl (fun _ => 0))), (r1 2, .inl (c1, 8, .inl (fun _ => 0))), (r1 3, .inl (c1, 8, .inl (fun _ => 0))), (r1 4, .inl (c1, 8, .inl (fun _ => 0))), (r1 5, .inl (c1, 8, .inl (fun _ => 0))), (r1 6, .inl (c1, 8, .inl (fun _ => 0))), (r1 7, .inl (c1, 8, .inl (fun _ => 0))), (q6, .inl (c2, 8, .inr (.inr (.inr (.inr (fun i => if i < 8 then some (r2 i) else none)))))), (r2 0, .inl (c1, 8, .inl (fun _ => 0))), (r2 1, .inl (c1, 8, .inl (fun _ => 0))), (r2 2, .inl (c1, 8, .inl (fun _ => 0))), (r2 3, .inl (c1, 8, .inl (fun _ => 0))), (r2 4, .inl (c1, 8, .inl (fun _ => 0))), (r2 5, .inl (c1, 8, .inl (fun _ => 0))), (r2 6, .inl (c1, 8, .inl (fun _ => 0))), (r2 7, .inl (c1, 8, .inl (fun _ => 0)))] := hD
  refine va_putF (D := D) (ci := 4) (v := .ref q6) (ty := .array (.array .int)) (C := RX4) (T := TX4) (N := 7) hx hb hts inX4_init_4 tyX4 tyX4_ok nmX4 hown hK hP hD hS 0 rfl rfl 5 (by decide) (hts (.fieldLink RX4 29 "CornLaws$Scales" "stepDuty" "[[I") wdX4_init_9) (fun _ h9 => h9) rfl hin rfl (by decide +kernel) rfl rfl (Nat.le_of_ble_eq_true rfl) dX4_init_57 (fun H locs hP hD hS => ?_)
  have hP : va_P D vwCl [(h0, .inr (4, [.ref q1, .ref q2, .ref q3, .ref q4, .ref q5, .ref q6, .int 0])), (q1, .inl (c1, 8, .inl (fun _ => 0))), (q2, .inl (c1, 8, .inl (fun _ => 0))), (q3, .inl (c1, 8, .inl (fun _ => 0))), (q4, .inl (c1, 8, .inl (fun _ => 0))), (q5, .inl (c2, 8, .inr (.inr (.inr (.inr (fun i => if i < 8 then some (r1 i) else none)))))), (r1 0, .inl (c1, 8, .inl (fun _ => 0))), (r1 1, .inl (c1, 8, .inl (fun _ => 0))), (r1 2, .inl (c1, 8, .inl (fun _ => 0))), (r1 3, .inl (c1, 8, .inl (fun _ => 0))), (r1 4, .inl (c1, 8, .inl (fun _ => 0))), (r1 5, .inl (c1, 8, .inl (fun _ => 0))), (r1 6, .inl (c1, 8, .inl (fun _ => 0))), (r1 7, .inl (c1, 8, .inl (fun _ => 0))), (q6, .inl (c2, 8, .inr (.inr (.inr (.inr (fun i => if i < 8 then some (r2 i) else none)))))), (r2 0, .inl (c1, 8, .inl (fun _ => 0))), (r2 1, .inl (c1, 8, .inl (fun _ => 0))), (r2 2, .inl (c1, 8, .inl (fun _ => 0))), (r2 3, .inl (c1, 8, .inl (fun _ => 0))), (r2 4, .inl (c1, 8, .inl (fun _ => 0))), (r2 5, .inl (c1, 8, .inl (fun _ => 0))), (r2 6, .inl (c1, 8, .inl (fun _ => 0))), (r2 7, .inl (c1, 8, .inl (fun _ => 0)))] H := hP
  have hD : va_D A [(h0, .inr (4, [.ref q1, .ref q2, .ref q3, .ref q4, .ref q5, .ref q6, .int 0])), (q1, .inl (c1, 8, .inl (fun _ => 0))), (q2, .inl (c1, 8, .inl (fun _ => 0))), (q3, .inl (c1, 8, .inl (fun _ => 0))), (q4, .inl (c1, 8, .inl (fun _ => 0))), (q5, .inl (c2, 8, .inr (.inr (.inr (.inr (fun i => if i < 8 then some (r1 i) else none)))))), (r1 0, .inl (c1, 8, .inl (fun _ => 0))), (r1 1, .inl (c1, 8, .inl (fun _ => 0))), (r1 2, .inl (c1, 8, .inl (fun _ => 0))), (r1 3, .inl (c1, 8, .inl (fun _ => 0))), (r1 4, .inl (c1, 8, .inl (fun _ => 0))), (r1 5, .inl (c1, 8, .inl (fun _ => 0))), (r1 6, .inl (c1, 8, .inl (fun _ => 0))), (r1 7, .inl (c1, 8, .inl (fun _ => 0))), (q6, .inl (c2, 8, .inr (.inr (.inr (.inr (fun i => if i < 8 then some (r2 i) else none)))))), (r2 0, .inl (c1, 8, .inl (fun _ => 0))), (r2 1, .inl (c1, 8, .inl (fun _ => 0))), (r2 2, .inl (c1, 8, .inl (fun _ => 0))), (r2 3, .inl (c1, 8, .inl (fun _ => 0))), (r2 4, .inl (c1, 8, .inl (fun _ => 0))), (r2 5, .inl (c1, 8, .inl (fun _ => 0))), (r2 6, .inl (c1, 8, .inl (fun _ => 0))), (r2 7, .inl (c1, 8, .inl (fun _ => 0)))] := hD
  obtain ⟨Q, hQ⟩ : ∃ Q : Nat → Nat, Q = (fun k => if k < 10 then ([h0, q1, q2, q3, q4, q5, q6] : List Nat).getD k 0 else if k < 20 then r1 (k - 10) else r2 (k - 20)) := ⟨_, rfl⟩
  have e1 : (fun i => if i < 8 then some (r1 i) else none) = wSg Q 10 := by
    funext i
    unfold wSg
    by_cases hi : i < 8
    · rw [if_pos hi, if_pos hi, hQ]
      show _ = some (if 10 + i < 10 then _ else if 10 + i < 20 then r1 (10 + i - 10) else _)
      rw [if_neg (by omega), if_pos (by omega), Nat.add_sub_cancel_left]
    · rw [if_neg hi, if_neg hi]
  have e2 : (fun i => if i < 8 then some (r2 i) else none) = wSg Q 20 := by
    funext i
    unfold wSg
    by_cases hi : i < 8
    · rw [if_pos hi, if_pos hi, hQ]
      show _ = some (if 20 + i < 10 then _ else if 20 + i < 20 then _ else r2 (20 + i - 20))
      rw [if_neg (by omega), if_neg (by omega), Nat.add_sub_cancel_left]
    · rw [if_neg hi, if_neg hi]
  rw [e1, e2] at hP hD
  have hP9 : va_P D vwCl (wS c1 c2 Q z0) H := by
    rw [hQ]; rw [hQ] at hP
    exact hP.sub [0, 1, 2, 3, 4, 5, 14, 6, 7, 8, 9, 10, 11, 12, 13, 15, 16, 17, 18, 19, 20, 21, 22] rfl
  have hD9 : va_D A (wS c1 c2 Q z0) := by
    rw [hQ]; rw [hQ] at hD
    exact hD.sub [0, 1, 2, 3, 4, 5, 14, 6, 7, 8, 9, 10, 11, 12, 13, 15, 16, 17, 18, 19, 20, 21, 22] (by decide) rfl
  have h00 : Q 0 = h0 := by rw [hQ]; rfl
  exact W.vret hx hb hr (fun t ht hW => ⟨⟨(Q, c1, c2), rfl, trivial, h00, by show va_P D vwCl _ t.heap; rw [ht]; exact hP9, va_K.moved hW.alike hK, hD9⟩, hS.F ht⟩) hS.2.2 dX4_init_60
