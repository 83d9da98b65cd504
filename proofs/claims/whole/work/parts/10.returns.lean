/-! J6_bitCount_0f7a4 -/
set_option maxRecDepth 20000 in
theorem wdJ6_bitCount_0f7a4_0 : Cond.constant RJ6 265 (1431655765) ∈ wsJ6_bitCount_0f7a4 := by decide +kernel
set_option maxRecDepth 20000 in
theorem wdJ6_bitCount_0f7a4_1 : Cond.constant RJ6 266 (858993459) ∈ wsJ6_bitCount_0f7a4 := by decide +kernel
set_option maxRecDepth 20000 in
theorem wdJ6_bitCount_0f7a4_2 : Cond.constant RJ6 267 (252645135) ∈ wsJ6_bitCount_0f7a4 := by decide +kernel
set_option maxHeartbeats 4000000 in
set_option maxRecDepth 100000 in
theorem cJ6_bitCount_0f7a4_ok (l : Launch) (p1 : Int32) (post : Int32 → Prop) (h : wpJ6_bitCount_0f7a4 p1 post) : Met l yJ6_bitCount_0f7a4 wsJ6_bitCount_0f7a4 ({ frames := 0, cells := 0, slots := 0, locals := 0 } : Room) (zPs [.int p1]) (vp_Si post) 0 0 (fun _ => False) := by
  refine Met.ofW (cc := cJ6_bitCount_0f7a4) (maxL := 1) (ret := (some .int)) (by decide) rfl ?_
  intro p e s m args below meth c s₁ B hml hv
  obtain ⟨rfl, -⟩ := hv
  have hx := B.exec
  have hb := B.bytes
  have hr := B.returns
  have hts := atoms_spec (ws := wsJ6_bitCount_0f7a4) B.pre
  have hown : s.vm.findClass RJ6 = some m.cls := findClass_of_methodNamed B.named
  have hlocks := B.notSynchronized
  have hl := lv_entry ([.int p1]) (n := 1) (Nat.le_of_ble_eq_true rfl)
  rw [lg_entry_eq]
  generalize (lg_sl ([.int p1]) ++ List.replicate (1 - (lg_sl ([.int p1])).length) Slot.unset).toArray = ls at hl ⊢
  have hl : lv_has ls 1 [(0, .int p1)] := hl
  unfold wpJ6_bitCount_0f7a4 at h
  refine lv_iload_n hx hb dJ6_bitCount_0f7a4_0 rfl (lv_at hl 0 rfl) ?_
  refine lv_iload_n hx hb dJ6_bitCount_0f7a4_1 rfl (lv_at hl 0 rfl) ?_
  refine lv_iconst (v := 1) hx hb dJ6_bitCount_0f7a4_2 (by decide) ?_
  refine lv_iushr (v := (p1.toUInt32 >>> ((1 : Int32).toUInt32 &&& Int32.toUInt32 31)).toInt32) hx hb dJ6_bitCount_0f7a4_3 rfl ?_
  refine lv_ldcw (v := (1431655765)) hx hb hown (hts (.constant RJ6 265 (1431655765)) wdJ6_bitCount_0f7a4_0) dJ6_bitCount_0f7a4_4 ?_
  refine lv_iand hx hb dJ6_bitCount_0f7a4_7 ?_
  refine lv_isub hx hb dJ6_bitCount_0f7a4_8 ?_
  refine lv_istore_n (lv' := [(0, .int (p1 - (((p1.toUInt32 >>> ((1 : Int32).toUInt32 &&& Int32.toUInt32 31)).toInt32) &&& (1431655765))))]) hx hb dJ6_bitCount_0f7a4_9 rfl hl (by decide) rfl (fun ls hl => ?_)
  refine lv_iload_n hx hb dJ6_bitCount_0f7a4_10 rfl (lv_at hl 0 rfl) ?_
  refine lv_ldcw (v := (858993459)) hx hb hown (hts (.constant RJ6 266 (858993459)) wdJ6_bitCount_0f7a4_1) dJ6_bitCount_0f7a4_11 ?_
  refine lv_iand hx hb dJ6_bitCount_0f7a4_14 ?_
  refine lv_iload_n hx hb dJ6_bitCount_0f7a4_15 rfl (lv_at hl 0 rfl) ?_
  refine lv_iconst (v := 2) hx hb dJ6_bitCount_0f7a4_16 (by decide) ?_
  refine lv_iushr (v := ((p1 - (((p1.toUInt32 >>> ((1 : Int32).toUInt32 &&& Int32.toUInt32 31)).toInt32) &&& (1431655765))).toUInt32 >>> ((2 : Int32).toUInt32 &&& Int32.toUInt32 31)).toInt32) hx hb dJ6_bitCount_0f7a4_17 rfl ?_
  refine lv_ldcw (v := (858993459)) hx hb hown (hts (.constant RJ6 266 (858993459)) wdJ6_bitCount_0f7a4_1) dJ6_bitCount_0f7a4_18 ?_
  refine lv_iand hx hb dJ6_bitCount_0f7a4_21 ?_
  refine lv_iadd hx hb dJ6_bitCount_0f7a4_22 ?_
  refine lv_istore_n (lv' := [(0, .int (((p1 - (((p1.toUInt32 >>> ((1 : Int32).toUInt32 &&& Int32.toUInt32 31)).toInt32) &&& (1431655765))) &&& (858993459)) + ((((p1 - (((p1.toUInt32 >>> ((1 : Int32).toUInt32 &&& Int32.toUInt32 31)).toInt32) &&& (1431655765))).toUInt32 >>> ((2 : Int32).toUInt32 &&& Int32.toUInt32 31)).toInt32) &&& (858993459))))]) hx hb dJ6_bitCount_0f7a4_23 rfl hl (by decide) rfl (fun ls hl => ?_)
  refine lv_iload_n hx hb dJ6_bitCount_0f7a4_24 rfl (lv_at hl 0 rfl) ?_
  refine lv_iload_n hx hb dJ6_bitCount_0f7a4_25 rfl (lv_at hl 0 rfl) ?_
  refine lv_iconst (v := 4) hx hb dJ6_bitCount_0f7a4_26 (by decide) ?_
  refine lv_iushr (v := ((((p1 - (((p1.toUInt32 >>> ((1 : Int32).toUInt32 &&& Int32.toUInt32 31)).toInt32) &&& (1431655765))) &&& (858993459)) + ((((p1 - (((p1.toUInt32 >>> ((1 : Int32).toUInt32 &&& Int32.toUInt32 31)).toInt32) &&& (1431655765))).toUInt32 >>> ((2 : Int32).toUInt32 &&& Int32.toUInt32 31)).toInt32) &&& (858993459))).toUInt32 >>> ((4 : Int32).toUInt32 &&& Int32.toUInt32 31)).toInt32) hx hb dJ6_bitCount_0f7a4_27 rfl ?_
  refine lv_iadd hx hb dJ6_bitCount_0f7a4_28 ?_
  refine lv_ldcw (v := (252645135)) hx hb hown (hts (.constant RJ6 267 (252645135)) wdJ6_bitCount_0f7a4_2) dJ6_bitCount_0f7a4_29 ?_
  refine lv_iand hx hb dJ6_bitCount_0f7a4_32 ?_
  refine lv_istore_n (lv' := [(0, .int (((((p1 - (((p1.toUInt32 >>> ((1 : Int32).toUInt32 &&& Int32.toUInt32 31)).toInt32) &&& (1431655765))) &&& (858993459)) + ((((p1 - (((p1.toUInt32 >>> ((1 : Int32).toUInt32 &&& Int32.toUInt32 31)).toInt32) &&& (1431655765))).toUInt32 >>> ((2 : Int32).toUInt32 &&& Int32.toUInt32 31)).toInt32) &&& (858993459))) + (((((p1 - (((p1.toUInt32 >>> ((1 : Int32).toUInt32 &&& Int32.toUInt32 31)).toInt32) &&& (1431655765))) &&& (858993459)) + ((((p1 - (((p1.toUInt32 >>> ((1 : Int32).toUInt32 &&& Int32.toUInt32 31)).toInt32) &&& (1431655765))).toUInt32 >>> ((2 : Int32).toUInt32 &&& Int32.toUInt32 31)).toInt32) &&& (858993459))).toUInt32 >>> ((4 : Int32).toUInt32 &&& Int32.toUInt32 31)).toInt32)) &&& (252645135)))]) hx hb dJ6_bitCount_0f7a4_33 rfl hl (by decide) rfl (fun ls hl => ?_)
  refine lv_iload_n hx hb dJ6_bitCount_0f7a4_34 rfl (lv_at hl 0 rfl) ?_
  refine lv_iload_n hx hb dJ6_bitCount_0f7a4_35 rfl (lv_at hl 0 rfl) ?_
  refine lv_bipush (v := 8) hx hb dJ6_bitCount_0f7a4_36 (by decide) ?_
  refine lv_iushr (v := ((((((p1 - (((p1.toUInt32 >>> ((1 : Int32).toUInt32 &&& Int32.toUInt32 31)).toInt32) &&& (1431655765))) &&& (858993459)) + ((((p1 - (((p1.toUInt32 >>> ((1 : Int32).toUInt32 &&& Int32.toUInt32 31)).toInt32) &&& (1431655765))).toUInt32 >>> ((2 : Int32).toUInt32 &&& Int32.toUInt32 31)).toInt32) &&& (858993459))) + (((((p1 - (((p1.toUInt32 >>> ((1 : Int32).toUInt32 &&& Int32.toUInt32 31)).toInt32) &&& (1431655765))) &&& (858993459)) + ((((p1 - (((p1.toUInt32 >>> ((1 : Int32).toUInt32 &&& Int32.toUInt32 31)).toInt32) &&& (1431655765))).toUInt32 >>> ((2 : Int32).toUInt32 &&& Int32.toUInt32 31)).toInt32) &&& (858993459))).toUInt32 >>> ((4 : Int32).toUInt32 &&& Int32.toUInt32 31)).toInt32)) &&& (252645135)).toUInt32 >>> ((8 : Int32).toUInt32 &&& Int32.toUInt32 31)).toInt32) hx hb dJ6_bitCount_0f7a4_38 rfl ?_
  refine lv_iadd hx hb dJ6_bitCount_0f7a4_39 ?_
  refine lv_istore_n (lv' := [(0, .int ((((((p1 - (((p1.toUInt32 >>> ((1 : Int32).toUInt32 &&& Int32.toUInt32 31)).toInt32) &&& (1431655765))) &&& (858993459)) + ((((p1 - (((p1.toUInt32 >>> ((1 : Int32).toUInt32 &&& Int32.toUInt32 31)).toInt32) &&& (1431655765))).toUInt32 >>> ((2 : Int32).toUInt32 &&& Int32.toUInt32 31)).toInt32) &&& (858993459))) + (((((p1 - (((p1.toUInt32 >>> ((1 : Int32).toUInt32 &&& Int32.toUInt32 31)).toInt32) &&& (1431655765))) &&& (858993459)) + ((((p1 - (((p1.toUInt32 >>> ((1 : Int32).toUInt32 &&& Int32.toUInt32 31)).toInt32) &&& (1431655765))).toUInt32 >>> ((2 : Int32).toUInt32 &&& Int32.toUInt32 31)).toInt32) &&& (858993459))).toUInt32 >>> ((4 : Int32).toUInt32 &&& Int32.toUInt32 31)).toInt32)) &&& (252645135)) + (((((((p1 - (((p1.toUInt32 >>> ((1 : Int32).toUInt32 &&& Int32.toUInt32 31)).toInt32) &&& (1431655765))) &&& (858993459)) + ((((p1 - (((p1.toUInt32 >>> ((1 : Int32).toUInt32 &&& Int32.toUInt32 31)).toInt32) &&& (1431655765))).toUInt32 >>> ((2 : Int32).toUInt32 &&& Int32.toUInt32 31)).toInt32) &&& (858993459))) + (((((p1 - (((p1.toUInt32 >>> ((1 : Int32).toUInt32 &&& Int32.toUInt32 31)).toInt32) &&& (1431655765))) &&& (858993459)) + ((((p1 - (((p1.toUInt32 >>> ((1 : Int32).toUInt32 &&& Int32.toUInt32 31)).toInt32) &&& (1431655765))).toUInt32 >>> ((2 : Int32).toUInt32 &&& Int32.toUInt32 31)).toInt32) &&& (858993459))).toUInt32 >>> ((4 : Int32).toUInt32 &&& Int32.toUInt32 31)).toInt32)) &&& (252645135)).toUInt32 >>> ((8 : Int32).toUInt32 &&& Int32.toUInt32 31)).toInt32)))]) hx hb dJ6_bitCount_0f7a4_40 rfl hl (by decide) rfl (fun ls hl => ?_)
  refine lv_iload_n hx hb dJ6_bitCount_0f7a4_41 rfl (lv_at hl 0 rfl) ?_
  refine lv_iload_n hx hb dJ6_bitCount_0f7a4_42 rfl (lv_at hl 0 rfl) ?_
  refine lv_bipush (v := 16) hx hb dJ6_bitCount_0f7a4_43 (by decide) ?_
  refine lv_iushr (v := (((((((p1 - (((p1.toUInt32 >>> ((1 : Int32).toUInt32 &&& Int32.toUInt32 31)).toInt32) &&& (1431655765))) &&& (858993459)) + ((((p1 - (((p1.toUInt32 >>> ((1 : Int32).toUInt32 &&& Int32.toUInt32 31)).toInt32) &&& (1431655765))).toUInt32 >>> ((2 : Int32).toUInt32 &&& Int32.toUInt32 31)).toInt32) &&& (858993459))) + (((((p1 - (((p1.toUInt32 >>> ((1 : Int32).toUInt32 &&& Int32.toUInt32 31)).toInt32) &&& (1431655765))) &&& (858993459)) + ((((p1 - (((p1.toUInt32 >>> ((1 : Int32).toUInt32 &&& Int32.toUInt32 31)).toInt32) &&& (1431655765))).toUInt32 >>> ((2 : Int32).toUInt32 &&& Int32.toUInt32 31)).toInt32) &&& (858993459))).toUInt32 >>> ((4 : Int32).toUInt32 &&& Int32.toUInt32 31)).toInt32)) &&& (252645135)) + (((((((p1 - (((p1.toUInt32 >>> ((1 : Int32).toUInt32 &&& Int32.toUInt32 31)).toInt32) &&& (1431655765))) &&& (858993459)) + ((((p1 - (((p1.toUInt32 >>> ((1 : Int32).toUInt32 &&& Int32.toUInt32 31)).toInt32) &&& (1431655765))).toUInt32 >>> ((2 : Int32).toUInt32 &&& Int32.toUInt32 31)).toInt32) &&& (858993459))) + (((((p1 - (((p1.toUInt32 >>> ((1 : Int32).toUInt32 &&& Int32.toUInt32 31)).toInt32) &&& (1431655765))) &&& (858993459)) + ((((p1 - (((p1.toUInt32 >>> ((1 : Int32).toUInt32 &&& Int32.toUInt32 31)).toInt32) &&& (1431655765))).toUInt32 >>> ((2 : Int32).toUInt32 &&& Int32.toUInt32 31)).toInt32) &&& (858993459))).toUInt32 >>> ((4 : Int32).toUInt32 &&& Int32.toUInt32 31)).toInt32)) &&& (252645135)).toUInt32 >>> ((8 : Int32).toUInt32 &&& Int32.toUInt32 31)).toInt32)).toUInt32 >>> ((16 : Int32).toUInt32 &&& Int32.toUInt32 31)).toInt32) hx hb dJ6_bitCount_0f7a4_45 rfl ?_
  refine lv_iadd hx hb dJ6_bitCount_0f7a4_46 ?_
  refine lv_istore_n (lv' := [(0, .int (((((((p1 - (((p1.toUInt32 >>> ((1 : Int32).toUInt32 &&& Int32.toUInt32 31)).toInt32) &&& (1431655765))) &&& (858993459)) + ((((p1 - (((p1.toUInt32 >>> ((1 : Int32).toUInt32 &&& Int32.toUInt32 31)).toInt32) &&& (1431655765))).toUInt32 >>> ((2 : Int32).toUInt32 &&& Int32.toUInt32 31)).toInt32) &&& (858993459))) + (((((p1 - (((p1.toUInt32 >>> ((1 : Int32).toUInt32 &&& Int32.toUInt32 31)).toInt32) &&& (1431655765))) &&& (858993459)) + ((((p1 - (((p1.toUInt32 >>> ((1 : Int32).toUInt32 &&& Int32.toUInt32 31)).toInt32) &&& (1431655765))).toUInt32 >>> ((2 : Int32).toUInt32 &&& Int32.toUInt32 31)).toInt32) &&& (858993459))).toUInt32 >>> ((4 : Int32).toUInt32 &&& Int32.toUInt32 31)).toInt32)) &&& (252645135)) + (((((((p1 - (((p1.toUInt32 >>> ((1 : Int32).toUInt32 &&& Int32.toUInt32 31)).toInt32) &&& (1431655765))) &&& (858993459)) + ((((p1 - (((p1.toUInt32 >>> ((1 : Int32).toUInt32 &&& Int32.toUInt32 31)).toInt32) &&& (1431655765))).toUInt32 >>> ((2 : Int32).toUInt32 &&& Int32.toUInt32 31)).toInt32) &&& (858993459))) + (((((p1 - (((p1.toUInt32 >>> ((1 : Int32).toUInt32 &&& Int32.toUInt32 31)).toInt32) &&& (1431655765))) &&& (858993459)) + ((((p1 - (((p1.toUInt32 >>> ((1 : Int32).toUInt32 &&& Int32.toUInt32 31)).toInt32) &&& (1431655765))).toUInt32 >>> ((2 : Int32).toUInt32 &&& Int32.toUInt32 31)).toInt32) &&& (858993459))).toUInt32 >>> ((4 : Int32).toUInt32 &&& Int32.toUInt32 31)).toInt32)) &&& (252645135)).toUInt32 >>> ((8 : Int32).toUInt32 &&& Int32.toUInt32 31)).toInt32)) + ((((((((p1 - (((p1.toUInt32 >>> ((1 : Int32).toUInt32 &&& Int32.toUInt32 31)).toInt32) &&& (1431655765))) &&& (858993459)) + ((((p1 - (((p1.toUInt32 >>> ((1 : Int32).toUInt32 &&& Int32.toUInt32 31)).toInt32) &&& (1431655765))).toUInt32 >>> ((2 : Int32).toUInt32 &&& Int32.toUInt32 31)).toInt32) &&& (858993459))) + (((((p1 - (((p1.toUInt32 >>> ((1 : Int32).toUInt32 &&& Int32.toUInt32 31)).toInt32) &&& (1431655765))) &&& (858993459)) + ((((p1 - (((p1.toUInt32 >>> ((1 : Int32).toUInt32 &&& Int32.toUInt32 31)).toInt32) &&& (1431655765))).toUInt32 >>> ((2 : Int32).toUInt32 &&& Int32.toUInt32 31)).toInt32) &&& (858993459))).toUInt32 >>> ((4 : Int32).toUInt32 &&& Int32.toUInt32 31)).toInt32)) &&& (252645135)) + (((((((p1 - (((p1.toUInt32 >>> ((1 : Int32).toUInt32 &&& Int32.toUInt32 31)).toInt32) &&& (1431655765))) &&& (858993459)) + ((((p1 - (((p1.toUInt32 >>> ((1 : Int32).toUInt32 &&& Int32.toUInt32 31)).toInt32) &&& (1431655765))).toUInt32 >>> ((2 : Int32).toUInt32 &&& Int32.toUInt32 31)).toInt32) &&& (858993459))) + (((((p1 - (((p1.toUInt32 >>> ((1 : Int32).toUInt32 &&& Int32.toUInt32 31)).toInt32) &&& (1431655765))) &&& (858993459)) + ((((p1 - (((p1.toUInt32 >>> ((1 : Int32).toUInt32 &&& Int32.toUInt32 31)).toInt32) &&& (1431655765))).toUInt32 >>> ((2 : Int32).toUInt32 &&& Int32.toUInt32 31)).toInt32) &&& (858993459))).toUInt32 >>> ((4 : Int32).toUInt32 &&& Int32.toUInt32 31)).toInt32)) &&& (252645135)).toUInt32 >>> ((8 : Int32).toUInt32 &&& Int32.toUInt32 31)).toInt32)).toUInt32 >>> ((16 : Int32).toUInt32 &&& Int32.toUInt32 31)).toInt32)))]) hx hb dJ6_bitCount_0f7a4_47 rfl hl (by decide) rfl (fun ls hl => ?_)
  refine lv_iload_n hx hb dJ6_bitCount_0f7a4_48 rfl (lv_at hl 0 rfl) ?_
  refine lv_bipush (v := 63) hx hb dJ6_bitCount_0f7a4_49 (by decide) ?_
  refine lv_iand hx hb dJ6_bitCount_0f7a4_51 ?_
  exact W.iret (v := ((((((((p1 - (((p1.toUInt32 >>> ((1 : Int32).toUInt32 &&& Int32.toUInt32 31)).toInt32) &&& (1431655765))) &&& (858993459)) + ((((p1 - (((p1.toUInt32 >>> ((1 : Int32).toUInt32 &&& Int32.toUInt32 31)).toInt32) &&& (1431655765))).toUInt32 >>> ((2 : Int32).toUInt32 &&& Int32.toUInt32 31)).toInt32) &&& (858993459))) + (((((p1 - (((p1.toUInt32 >>> ((1 : Int32).toUInt32 &&& Int32.toUInt32 31)).toInt32) &&& (1431655765))) &&& (858993459)) + ((((p1 - (((p1.toUInt32 >>> ((1 : Int32).toUInt32 &&& Int32.toUInt32 31)).toInt32) &&& (1431655765))).toUInt32 >>> ((2 : Int32).toUInt32 &&& Int32.toUInt32 31)).toInt32) &&& (858993459))).toUInt32 >>> ((4 : Int32).toUInt32 &&& Int32.toUInt32 31)).toInt32)) &&& (252645135)) + (((((((p1 - (((p1.toUInt32 >>> ((1 : Int32).toUInt32 &&& Int32.toUInt32 31)).toInt32) &&& (1431655765))) &&& (858993459)) + ((((p1 - (((p1.toUInt32 >>> ((1 : Int32).toUInt32 &&& Int32.toUInt32 31)).toInt32) &&& (1431655765))).toUInt32 >>> ((2 : Int32).toUInt32 &&& Int32.toUInt32 31)).toInt32) &&& (858993459))) + (((((p1 - (((p1.toUInt32 >>> ((1 : Int32).toUInt32 &&& Int32.toUInt32 31)).toInt32) &&& (1431655765))) &&& (858993459)) + ((((p1 - (((p1.toUInt32 >>> ((1 : Int32).toUInt32 &&& Int32.toUInt32 31)).toInt32) &&& (1431655765))).toUInt32 >>> ((2 : Int32).toUInt32 &&& Int32.toUInt32 31)).toInt32) &&& (858993459))).toUInt32 >>> ((4 : Int32).toUInt32 &&& Int32.toUInt32 31)).toInt32)) &&& (252645135)).toUInt32 >>> ((8 : Int32).toUInt32 &&& Int32.toUInt32 31)).toInt32)) + ((((((((p1 - (((p1.toUInt32 >>> ((1 : Int32).toUInt32 &&& Int32.toUInt32 31)).toInt32) &&& (1431655765))) &&& (858993459)) + ((((p1 - (((p1.toUInt32 >>> ((1 : Int32).toUInt32 &&& Int32.toUInt32 31)).toInt32) &&& (1431655765))).toUInt32 >>> ((2 : Int32).toUInt32 &&& Int32.toUInt32 31)).toInt32) &&& (858993459))) + (((((p1 - (((p1.toUInt32 >>> ((1 : Int32).toUInt32 &&& Int32.toUInt32 31)).toInt32) &&& (1431655765))) &&& (858993459)) + ((((p1 - (((p1.toUInt32 >>> ((1 : Int32).toUInt32 &&& Int32.toUInt32 31)).toInt32) &&& (1431655765))).toUInt32 >>> ((2 : Int32).toUInt32 &&& Int32.toUInt32 31)).toInt32) &&& (858993459))).toUInt32 >>> ((4 : Int32).toUInt32 &&& Int32.toUInt32 31)).toInt32)) &&& (252645135)) + (((((((p1 - (((p1.toUInt32 >>> ((1 : Int32).toUInt32 &&& Int32.toUInt32 31)).toInt32) &&& (1431655765))) &&& (858993459)) + ((((p1 - (((p1.toUInt32 >>> ((1 : Int32).toUInt32 &&& Int32.toUInt32 31)).toInt32) &&& (1431655765))).toUInt32 >>> ((2 : Int32).toUInt32 &&& Int32.toUInt32 31)).toInt32) &&& (858993459))) + (((((p1 - (((p1.toUInt32 >>> ((1 : Int32).toUInt32 &&& Int32.toUInt32 31)).toInt32) &&& (1431655765))) &&& (858993459)) + ((((p1 - (((p1.toUInt32 >>> ((1 : Int32).toUInt32 &&& Int32.toUInt32 31)).toInt32) &&& (1431655765))).toUInt32 >>> ((2 : Int32).toUInt32 &&& Int32.toUInt32 31)).toInt32) &&& (858993459))).toUInt32 >>> ((4 : Int32).toUInt32 &&& Int32.toUInt32 31)).toInt32)) &&& (252645135)).toUInt32 >>> ((8 : Int32).toUInt32 &&& Int32.toUInt32 31)).toInt32)).toUInt32 >>> ((16 : Int32).toUInt32 &&& Int32.toUInt32 31)).toInt32)) &&& 63)) hx hb hr (fun t ht hW => ⟨((((((((p1 - (((p1.toUInt32 >>> ((1 : Int32).toUInt32 &&& Int32.toUInt32 31)).toInt32) &&& (1431655765))) &&& (858993459)) + ((((p1 - (((p1.toUInt32 >>> ((1 : Int32).toUInt32 &&& Int32.toUInt32 31)).toInt32) &&& (1431655765))).toUInt32 >>> ((2 : Int32).toUInt32 &&& Int32.toUInt32 31)).toInt32) &&& (858993459))) + (((((p1 - (((p1.toUInt32 >>> ((1 : Int32).toUInt32 &&& Int32.toUInt32 31)).toInt32) &&& (1431655765))) &&& (858993459)) + ((((p1 - (((p1.toUInt32 >>> ((1 : Int32).toUInt32 &&& Int32.toUInt32 31)).toInt32) &&& (1431655765))).toUInt32 >>> ((2 : Int32).toUInt32 &&& Int32.toUInt32 31)).toInt32) &&& (858993459))).toUInt32 >>> ((4 : Int32).toUInt32 &&& Int32.toUInt32 31)).toInt32)) &&& (252645135)) + (((((((p1 - (((p1.toUInt32 >>> ((1 : Int32).toUInt32 &&& Int32.toUInt32 31)).toInt32) &&& (1431655765))) &&& (858993459)) + ((((p1 - (((p1.toUInt32 >>> ((1 : Int32).toUInt32 &&& Int32.toUInt32 31)).toInt32) &&& (1431655765))).toUInt32 >>> ((2 : Int32).toUInt32 &&& Int32.toUInt32 31)).toInt32) &&& (858993459))) + (((((p1 - (((p1.toUInt32 >>> ((1 : Int32).toUInt32 &&& Int32.toUInt32 31)).toInt32) &&& (1431655765))) &&& (858993459)) + ((((p1 - (((p1.toUInt32 >>> ((1 : Int32).toUInt32 &&& Int32.toUInt32 31)).toInt32) &&& (1431655765))).toUInt32 >>> ((2 : Int32).toUInt32 &&& Int32.toUInt32 31)).toInt32) &&& (858993459))).toUInt32 >>> ((4 : Int32).toUInt32 &&& Int32.toUInt32 31)).toInt32)) &&& (252645135)).toUInt32 >>> ((8 : Int32).toUInt32 &&& Int32.toUInt32 31)).toInt32)) + ((((((((p1 - (((p1.toUInt32 >>> ((1 : Int32).toUInt32 &&& Int32.toUInt32 31)).toInt32) &&& (1431655765))) &&& (858993459)) + ((((p1 - (((p1.toUInt32 >>> ((1 : Int32).toUInt32 &&& Int32.toUInt32 31)).toInt32) &&& (1431655765))).toUInt32 >>> ((2 : Int32).toUInt32 &&& Int32.toUInt32 31)).toInt32) &&& (858993459))) + (((((p1 - (((p1.toUInt32 >>> ((1 : Int32).toUInt32 &&& Int32.toUInt32 31)).toInt32) &&& (1431655765))) &&& (858993459)) + ((((p1 - (((p1.toUInt32 >>> ((1 : Int32).toUInt32 &&& Int32.toUInt32 31)).toInt32) &&& (1431655765))).toUInt32 >>> ((2 : Int32).toUInt32 &&& Int32.toUInt32 31)).toInt32) &&& (858993459))).toUInt32 >>> ((4 : Int32).toUInt32 &&& Int32.toUInt32 31)).toInt32)) &&& (252645135)) + (((((((p1 - (((p1.toUInt32 >>> ((1 : Int32).toUInt32 &&& Int32.toUInt32 31)).toInt32) &&& (1431655765))) &&& (858993459)) + ((((p1 - (((p1.toUInt32 >>> ((1 : Int32).toUInt32 &&& Int32.toUInt32 31)).toInt32) &&& (1431655765))).toUInt32 >>> ((2 : Int32).toUInt32 &&& Int32.toUInt32 31)).toInt32) &&& (858993459))) + (((((p1 - (((p1.toUInt32 >>> ((1 : Int32).toUInt32 &&& Int32.toUInt32 31)).toInt32) &&& (1431655765))) &&& (858993459)) + ((((p1 - (((p1.toUInt32 >>> ((1 : Int32).toUInt32 &&& Int32.toUInt32 31)).toInt32) &&& (1431655765))).toUInt32 >>> ((2 : Int32).toUInt32 &&& Int32.toUInt32 31)).toInt32) &&& (858993459))).toUInt32 >>> ((4 : Int32).toUInt32 &&& Int32.toUInt32 31)).toInt32)) &&& (252645135)).toUInt32 >>> ((8 : Int32).toUInt32 &&& Int32.toUInt32 31)).toInt32)).toUInt32 >>> ((16 : Int32).toUInt32 &&& Int32.toUInt32 31)).toInt32)) &&& 63), rfl, h, ht⟩) (fun _ h9 => by cases h9) dJ6_bitCount_0f7a4_52

/-! X3_has -/
set_option maxRecDepth 20000 in
theorem wdX3_has_0 : Cond.fieldLink RX3 33 "CornLaws$Returns" "size" "I" ∈ wsX3_has := by decide +kernel
set_option maxRecDepth 20000 in
theorem inX3_has_3 : ∀ w ∈ wsX30, w ∈ wsX3_has := by decide +kernel
set_option maxHeartbeats 4000000 in
set_option maxRecDepth 100000 in
theorem cX3_has_ok (l : Launch) (D : va_G) (cI cII : ClassId) (q : Nat → Nat) (a : RS) (p1 : Int32) (post : Int32 → Prop) (h : wpX3_has a p1 post) : Met l yX3_has wsX3_has ({ frames := 0, cells := 0, slots := 0, locals := 0 } : Room) (zPc [.ref (q 0), .int p1] D cI cII (wR cI q a)) (vp_Si post) 0 0 (fun _ => False) := by
  refine Met.ofW (cc := cX3_has) (maxL := 2) (ret := (some .boolean)) (by decide) rfl ?_
  intro p e s m args below meth c s₁ B hml hv
  obtain ⟨rfl, hP, hK⟩ := hv
  have hx := B.exec
  have hb := B.bytes
  have hr := B.returns
  have hts := atoms_spec (ws := wsX3_has) B.pre
  have hown : s.vm.findClass RX3 = some m.cls := findClass_of_methodNamed B.named
  have hlocks := B.notSynchronized
  have hl := lv_entry ([.ref (q 0), .int p1]) (n := 2) (Nat.le_of_ble_eq_true rfl)
  rw [lg_entry_eq]
  generalize (lg_sl ([.ref (q 0), .int p1]) ++ List.replicate (2 - (lg_sl ([.ref (q 0), .int p1])).length) Slot.unset).toArray = ls at hl ⊢
  have hl : lv_has ls 2 [(0, .ref (q 0)), (1, .int p1)] := hl
  unfold wpX3_has at h
  refine lv_iload_n hx hb dX3_has_0 rfl (lv_at hl 1 rfl) ?_
  refine lv_if_lt (tgt := 16) hx hb dX3_has_1 (by decide) (fun c1 => ?_) (fun c1 => ?_)
  · replace h := h.1 c1
    refine lv_iconst (v := 0) hx hb dX3_has_16 (by decide) ?_
    exact W.zret (v := 0) (ty := .boolean) hx hb hr (by decide) (fun t ht hW => ⟨0, rfl, h, ht⟩) (fun _ h9 => by cases h9) dX3_has_17
  · replace h := h.2 c1
    refine lv_iload_n hx hb dX3_has_4 rfl (lv_at hl 1 rfl) ?_
    refine lv_aload_n hx hb dX3_has_5 rfl (lv_at hl 0 rfl) ?_
    refine va_get (D := D) (ci := 3) (v := .int (a 9 0)) (C := RX3) (T := TX3) (N := 8) hx hb hts inX3_has_3 hown hK hP 0 rfl rfl 7 (by decide) (hts (.fieldLink RX3 33 "CornLaws$Returns" "size" "I") wdX3_has_0) (fun _ h9 => h9) rfl dX3_has_6 ?_
    refine lv_icmp_ge (tgt := 16) hx hb dX3_has_9 (by decide) (fun c2 => ?_) (fun c2 => ?_)
    · replace h := h.1 c2
      refine lv_iconst (v := 0) hx hb dX3_has_16 (by decide) ?_
      exact W.zret (v := 0) (ty := .boolean) hx hb hr (by decide) (fun t ht hW => ⟨0, rfl, h, ht⟩) (fun _ h9 => by cases h9) dX3_has_17
    · replace h := h.2 c2
      refine lv_iconst (v := 1) hx hb dX3_has_12 (by decide) ?_
      refine lv_goto (tgt := 17) hx hb dX3_has_13 (by decide) ?_
      exact W.zret (v := 1) (ty := .boolean) hx hb hr (by decide) (fun t ht hW => ⟨1, rfl, h, ht⟩) (fun _ h9 => by cases h9) dX3_has_17

/-! X3_add -/
set_option maxRecDepth 20000 in
theorem wdX3_add_0 : Cond.fieldLink RX3 33 "CornLaws$Returns" "size" "I" ∈ wsX3_add := by decide +kernel
set_option maxRecDepth 20000 in
theorem wdX3_add_1 : Cond.fieldLink RX3 9 "CornLaws$Returns" "town" "[I" ∈ wsX3_add := by decide +kernel
set_option maxRecDepth 20000 in
theorem wdX3_add_2 : Cond.fieldLink RX3 15 "CornLaws$Returns" "grain" "[I" ∈ wsX3_add := by decide +kernel
set_option maxRecDepth 20000 in
theorem wdX3_add_3 : Cond.fieldLink RX3 18 "CornLaws$Returns" "week" "[I" ∈ wsX3_add := by decide +kernel
set_option maxRecDepth 20000 in
theorem wdX3_add_4 : Cond.fieldLink RX3 21 "CornLaws$Returns" "quarters" "[I" ∈ wsX3_add := by decide +kernel
set_option maxRecDepth 20000 in
theorem wdX3_add_5 : Cond.fieldLink RX3 24 "CornLaws$Returns" "price" "[I" ∈ wsX3_add := by decide +kernel
set_option maxRecDepth 20000 in
theorem wdX3_add_6 : Cond.fieldLink RX3 27 "CornLaws$Returns" "sworn" "[I" ∈ wsX3_add := by decide +kernel
set_option maxRecDepth 20000 in
theorem wdX3_add_7 : Cond.fieldLink RX3 30 "CornLaws$Returns" "struck" "[I" ∈ wsX3_add := by decide +kernel
set_option maxRecDepth 20000 in
theorem inX3_add_3 : ∀ w ∈ wsX30, w ∈ wsX3_add := by decide +kernel
set_option maxHeartbeats 4000000 in
set_option maxRecDepth 100000 in
theorem cX3_add_ok (l : Launch) (D : va_G) (cI cII : ClassId) (q : Nat → Nat) (a : RS) (p1 : Int32) (p2 : Int32) (p3 : Int32) (p4 : Int32) (p5 : Int32) (p6 : Int32) (post : Int32 → RS → Prop) (h : wpX3_add a p1 p2 p3 p4 p5 p6 post) : Met l yX3_add wsX3_add ({ frames := 0, cells := 0, slots := 0, locals := 0 } : Room) (zPm [.ref (q 0), .int p1, .int p2, .int p3, .int p4, .int p5, .int p6] D cI cII (wR cI q a)) (va_Qi post (fun (z : RS) (t : State) => va_P D vwCl (wR cI q z) t.heap) (z_in (wR cI q a))) 0 0 (z_in (wR cI q a)) := by
  refine Met.ofW (cc := cX3_add) (maxL := 8) (ret := (some .int)) (by decide) rfl ?_
  intro p e s m args below meth c s₁ B hml hv
  obtain ⟨rfl, hP, hK, hD0⟩ := hv
  have hx := B.exec
  have hb := B.bytes
  have hr := B.returns
  have hts := atoms_spec (ws := wsX3_add) B.pre
  have hown : s.vm.findClass RX3 = some m.cls := findClass_of_methodNamed B.named
  have hlocks := B.notSynchronized
  have hD := z_Dself hD0
  generalize hAe : z_in (wR cI q a) = A at hD ⊢
  have hS : va_S A s.heap s.heap [] := va_S.rf
  have hl := lv_entry ([.ref (q 0), .int p1, .int p2, .int p3, .int p4, .int p5, .int p6]) (n := 8) (Nat.le_of_ble_eq_true rfl)
  rw [lg_entry_eq]
  generalize (lg_sl ([.ref (q 0), .int p1, .int p2, .int p3, .int p4, .int p5, .int p6]) ++ List.replicate (8 - (lg_sl ([.ref (q 0), .int p1, .int p2, .int p3, .int p4, .int p5, .int p6])).length) Slot.unset).toArray = ls at hl ⊢
  have hl : lv_has ls 8 [(0, .ref (q 0)), (1, .int p1), (2, .int p2), (3, .int p3), (4, .int p4), (5, .int p5), (6, .int p6)] := hl
  unfold wpX3_add at h
  refine lv_aload_n hx hb dX3_add_0 rfl (lv_at hl 0 rfl) ?_
  refine va_get (D := D) (ci := 3) (v := .int (a 9 0)) (C := RX3) (T := TX3) (N := 8) hx hb hts inX3_add_3 hown hK hP 0 rfl rfl 7 (by decide) (hts (.fieldLink RX3 33 "CornLaws$Returns" "size" "I") wdX3_add_0) (fun _ h9 => h9) rfl dX3_add_1 ?_
  refine lv_istore (lv' := [(7, .int (a 9 0)), (0, .ref (q 0)), (1, .int p1), (2, .int p2), (3, .int p3), (4, .int p4), (5, .int p5), (6, .int p6)]) hx hb dX3_add_4 hl (by decide) rfl (fun ls hl => ?_)
  refine lv_aload_n hx hb dX3_add_6 rfl (lv_at hl 1 rfl) ?_
  refine va_get (D := D) (ci := 3) (v := .ref (q 1)) (C := RX3) (T := TX3) (N := 8) hx hb hts inX3_add_3 hown hK hP 0 rfl rfl 0 (by decide) (hts (.fieldLink RX3 9 "CornLaws$Returns" "town" "[I") wdX3_add_1) (fun _ h9 => h9) rfl dX3_add_7 ?_
  refine lv_iload hx hb dX3_add_10 (lv_at hl 0 rfl) ?_
  refine lv_iload_n hx hb dX3_add_12 rfl (lv_at hl 2 rfl) ?_
  obtain ⟨hi1, h⟩ := h
  refine va_iast (f := a 0) hx hb hK hP hD hS 1 0 rfl rfl hi1 dX3_add_13 (fun H locs hP hD hS => ?_)
  have hP : va_P D vwCl (wR cI q (va_up a 0 (upd (a 0) ((a 9 0).toNatClampNeg) (p1)))) H := hP
  have hD : va_D A (wR cI q (va_up a 0 (upd (a 0) ((a 9 0).toNatClampNeg) (p1)))) := hD
  refine lv_aload_n hx hb dX3_add_14 rfl (lv_at hl 1 rfl) ?_
  refine va_get (D := D) (ci := 3) (v := .ref (q 2)) (C := RX3) (T := TX3) (N := 8) hx hb hts inX3_add_3 hown hK hP 0 rfl rfl 1 (by decide) (hts (.fieldLink RX3 15 "CornLaws$Returns" "grain" "[I") wdX3_add_2) (fun _ h9 => h9) rfl dX3_add_15 ?_
  refine lv_iload hx hb dX3_add_18 (lv_at hl 0 rfl) ?_
  refine lv_iload_n hx hb dX3_add_20 rfl (lv_at hl 3 rfl) ?_
  refine va_iast (f := a 1) hx hb hK hP hD hS 2 0 rfl rfl hi1 dX3_add_21 (fun H locs hP hD hS => ?_)
  have hP : va_P D vwCl (wR cI q (va_up (va_up a 0 (upd (a 0) ((a 9 0).toNatClampNeg) (p1))) 1 (upd (a 1) ((a 9 0).toNatClampNeg) (p2)))) H := hP
  have hD : va_D A (wR cI q (va_up (va_up a 0 (upd (a 0) ((a 9 0).toNatClampNeg) (p1))) 1 (upd (a 1) ((a 9 0).toNatClampNeg) (p2)))) := hD
  refine lv_aload_n hx hb dX3_add_22 rfl (lv_at hl 1 rfl) ?_
  refine va_get (D := D) (ci := 3) (v := .ref (q 3)) (C := RX3) (T := TX3) (N := 8) hx hb hts inX3_add_3 hown hK hP 0 rfl rfl 2 (by decide) (hts (.fieldLink RX3 18 "CornLaws$Returns" "week" "[I") wdX3_add_3) (fun _ h9 => h9) rfl dX3_add_23 ?_
  refine lv_iload hx hb dX3_add_26 (lv_at hl 0 rfl) ?_
  refine lv_iload_n hx hb dX3_add_28 rfl (lv_at hl 4 rfl) ?_
  refine va_iast (f := a 2) hx hb hK hP hD hS 3 0 rfl rfl hi1 dX3_add_29 (fun H locs hP hD hS => ?_)
  have hP : va_P D vwCl (wR cI q (va_up (va_up (va_up a 0 (upd (a 0) ((a 9 0).toNatClampNeg) (p1))) 1 (upd (a 1) ((a 9 0).toNatClampNeg) (p2))) 2 (upd (a 2) ((a 9 0).toNatClampNeg) (p3)))) H := hP
  have hD : va_D A (wR cI q (va_up (va_up (va_up a 0 (upd (a 0) ((a 9 0).toNatClampNeg) (p1))) 1 (upd (a 1) ((a 9 0).toNatClampNeg) (p2))) 2 (upd (a 2) ((a 9 0).toNatClampNeg) (p3)))) := hD
  refine lv_aload_n hx hb dX3_add_30 rfl (lv_at hl 1 rfl) ?_
  refine va_get (D := D) (ci := 3) (v := .ref (q 4)) (C := RX3) (T := TX3) (N := 8) hx hb hts inX3_add_3 hown hK hP 0 rfl rfl 3 (by decide) (hts (.fieldLink RX3 21 "CornLaws$Returns" "quarters" "[I") wdX3_add_4) (fun _ h9 => h9) rfl dX3_add_31 ?_
  refine lv_iload hx hb dX3_add_34 (lv_at hl 0 rfl) ?_
  refine lv_iload hx hb dX3_add_36 (lv_at hl 5 rfl) ?_
  refine va_iast (f := a 3) hx hb hK hP hD hS 4 0 rfl rfl hi1 dX3_add_38 (fun H locs hP hD hS => ?_)
  have hP : va_P D vwCl (wR cI q (va_up (va_up (va_up (va_up a 0 (upd (a 0) ((a 9 0).toNatClampNeg) (p1))) 1 (upd (a 1) ((a 9 0).toNatClampNeg) (p2))) 2 (upd (a 2) ((a 9 0).toNatClampNeg) (p3))) 3 (upd (a 3) ((a 9 0).toNatClampNeg) (p4)))) H := hP
  have hD : va_D A (wR cI q (va_up (va_up (va_up (va_up a 0 (upd (a 0) ((a 9 0).toNatClampNeg) (p1))) 1 (upd (a 1) ((a 9 0).toNatClampNeg) (p2))) 2 (upd (a 2) ((a 9 0).toNatClampNeg) (p3))) 3 (upd (a 3) ((a 9 0).toNatClampNeg) (p4)))) := hD
  refine lv_aload_n hx hb dX3_add_39 rfl (lv_at hl 1 rfl) ?_
  refine va_get (D := D) (ci := 3) (v := .ref (q 5)) (C := RX3) (T := TX3) (N := 8) hx hb hts inX3_add_3 hown hK hP 0 rfl rfl 4 (by decide) (hts (.fieldLink RX3 24 "CornLaws$Returns" "price" "[I") wdX3_add_5) (fun _ h9 => h9) rfl dX3_add_40 ?_
  refine lv_iload hx hb dX3_add_43 (lv_at hl 0 rfl) ?_
  refine lv_iload hx hb dX3_add_45 (lv_at hl 6 rfl) ?_
  refine va_iast (f := a 4) hx hb hK hP hD hS 5 0 rfl rfl hi1 dX3_add_47 (fun H locs hP hD hS => ?_)
  have hP : va_P D vwCl (wR cI q (va_up (va_up (va_up (va_up (va_up a 0 (upd (a 0) ((a 9 0).toNatClampNeg) (p1))) 1 (upd (a 1) ((a 9 0).toNatClampNeg) (p2))) 2 (upd (a 2) ((a 9 0).toNatClampNeg) (p3))) 3 (upd (a 3) ((a 9 0).toNatClampNeg) (p4))) 4 (upd (a 4) ((a 9 0).toNatClampNeg) (p5)))) H := hP
  have hD : va_D A (wR cI q (va_up (va_up (va_up (va_up (va_up a 0 (upd (a 0) ((a 9 0).toNatClampNeg) (p1))) 1 (upd (a 1) ((a 9 0).toNatClampNeg) (p2))) 2 (upd (a 2) ((a 9 0).toNatClampNeg) (p3))) 3 (upd (a 3) ((a 9 0).toNatClampNeg) (p4))) 4 (upd (a 4) ((a 9 0).toNatClampNeg) (p5)))) := hD
  refine lv_aload_n hx hb dX3_add_48 rfl (lv_at hl 1 rfl) ?_
  refine va_get (D := D) (ci := 3) (v := .ref (q 6)) (C := RX3) (T := TX3) (N := 8) hx hb hts inX3_add_3 hown hK hP 0 rfl rfl 5 (by decide) (hts (.fieldLink RX3 27 "CornLaws$Returns" "sworn" "[I") wdX3_add_6) (fun _ h9 => h9) rfl dX3_add_49 ?_
  refine lv_iload hx hb dX3_add_52 (lv_at hl 0 rfl) ?_
  refine lv_iload hx hb dX3_add_54 (lv_at hl 7 rfl) ?_
  refine va_iast (f := a 5) hx hb hK hP hD hS 6 0 rfl rfl hi1 dX3_add_56 (fun H locs hP hD hS => ?_)
  have hP : va_P D vwCl (wR cI q (va_up (va_up (va_up (va_up (va_up (va_up a 0 (upd (a 0) ((a 9 0).toNatClampNeg) (p1))) 1 (upd (a 1) ((a 9 0).toNatClampNeg) (p2))) 2 (upd (a 2) ((a 9 0).toNatClampNeg) (p3))) 3 (upd (a 3) ((a 9 0).toNatClampNeg) (p4))) 4 (upd (a 4) ((a 9 0).toNatClampNeg) (p5))) 5 (upd (a 5) ((a 9 0).toNatClampNeg) (p6)))) H := hP
  have hD : va_D A (wR cI q (va_up (va_up (va_up (va_up (va_up (va_up a 0 (upd (a 0) ((a 9 0).toNatClampNeg) (p1))) 1 (upd (a 1) ((a 9 0).toNatClampNeg) (p2))) 2 (upd (a 2) ((a 9 0).toNatClampNeg) (p3))) 3 (upd (a 3) ((a 9 0).toNatClampNeg) (p4))) 4 (upd (a 4) ((a 9 0).toNatClampNeg) (p5))) 5 (upd (a 5) ((a 9 0).toNatClampNeg) (p6)))) := hD
  refine lv_aload_n hx hb dX3_add_57 rfl (lv_at hl 1 rfl) ?_
  refine va_get (D := D) (ci := 3) (v := .ref (q 7)) (C := RX3) (T := TX3) (N := 8) hx hb hts inX3_add_3 hown hK hP 0 rfl rfl 6 (by decide) (hts (.fieldLink RX3 30 "CornLaws$Returns" "struck" "[I") wdX3_add_7) (fun _ h9 => h9) rfl dX3_add_58 ?_
  refine lv_iload hx hb dX3_add_61 (lv_at hl 0 rfl) ?_
  refine lv_iconst (v := (-1)) hx hb dX3_add_63 (by decide) ?_
  refine va_iast (f := a 6) hx hb hK hP hD hS 7 0 rfl rfl hi1 dX3_add_64 (fun H locs hP hD hS => ?_)
  have hP : va_P D vwCl (wR cI q (va_up (va_up (va_up (va_up (va_up (va_up (va_up a 0 (upd (a 0) ((a 9 0).toNatClampNeg) (p1))) 1 (upd (a 1) ((a 9 0).toNatClampNeg) (p2))) 2 (upd (a 2) ((a 9 0).toNatClampNeg) (p3))) 3 (upd (a 3) ((a 9 0).toNatClampNeg) (p4))) 4 (upd (a 4) ((a 9 0).toNatClampNeg) (p5))) 5 (upd (a 5) ((a 9 0).toNatClampNeg) (p6))) 6 (upd (a 6) ((a 9 0).toNatClampNeg) ((-1))))) H := hP
  have hD : va_D A (wR cI q (va_up (va_up (va_up (va_up (va_up (va_up (va_up a 0 (upd (a 0) ((a 9 0).toNatClampNeg) (p1))) 1 (upd (a 1) ((a 9 0).toNatClampNeg) (p2))) 2 (upd (a 2) ((a 9 0).toNatClampNeg) (p3))) 3 (upd (a 3) ((a 9 0).toNatClampNeg) (p4))) 4 (upd (a 4) ((a 9 0).toNatClampNeg) (p5))) 5 (upd (a 5) ((a 9 0).toNatClampNeg) (p6))) 6 (upd (a 6) ((a 9 0).toNatClampNeg) ((-1))))) := hD
  refine lv_aload_n hx hb dX3_add_65 rfl (lv_at hl 1 rfl) ?_
  refine lv_iload hx hb dX3_add_66 (lv_at hl 0 rfl) ?_
  refine lv_iconst (v := 1) hx hb dX3_add_68 (by decide) ?_
  refine lv_iadd hx hb dX3_add_69 ?_
  refine va_put (D := D) (ci := 3) (v := .int ((a 9 0) + 1)) (ty := .int) (C := RX3) (T := TX3) (N := 8) hx hb hts inX3_add_3 tyX3 tyX3_ok nmX3 hown hK hP hD hS 0 rfl rfl 7 (by decide) (hts (.fieldLink RX3 33 "CornLaws$Returns" "size" "I") wdX3_add_0) (fun _ h9 => h9) rfl (by decide +kernel) rfl rfl (Nat.le_of_ble_eq_true rfl) dX3_add_70 (fun H locs hP hD hS => ?_)
  have hP : va_P D vwCl (wR cI q (va_up (va_up (va_up (va_up (va_up (va_up (va_up (va_up a 0 (upd (a 0) ((a 9 0).toNatClampNeg) (p1))) 1 (upd (a 1) ((a 9 0).toNatClampNeg) (p2))) 2 (upd (a 2) ((a 9 0).toNatClampNeg) (p3))) 3 (upd (a 3) ((a 9 0).toNatClampNeg) (p4))) 4 (upd (a 4) ((a 9 0).toNatClampNeg) (p5))) 5 (upd (a 5) ((a 9 0).toNatClampNeg) (p6))) 6 (upd (a 6) ((a 9 0).toNatClampNeg) ((-1)))) 9 (upd (a 9) 0 (((a 9 0) + 1))))) H := hP
  have hD : va_D A (wR cI q (va_up (va_up (va_up (va_up (va_up (va_up (va_up (va_up a 0 (upd (a 0) ((a 9 0).toNatClampNeg) (p1))) 1 (upd (a 1) ((a 9 0).toNatClampNeg) (p2))) 2 (upd (a 2) ((a 9 0).toNatClampNeg) (p3))) 3 (upd (a 3) ((a 9 0).toNatClampNeg) (p4))) 4 (upd (a 4) ((a 9 0).toNatClampNeg) (p5))) 5 (upd (a 5) ((a 9 0).toNatClampNeg) (p6))) 6 (upd (a 6) ((a 9 0).toNatClampNeg) ((-1)))) 9 (upd (a 9) 0 (((a 9 0) + 1))))) := hD
  refine lv_iload hx hb dX3_add_73 (lv_at hl 0 rfl) ?_
  exact W.iret (v := (a 9 0)) hx hb hr (fun t ht hW => ⟨⟨(a 9 0), (va_up (va_up (va_up (va_up (va_up (va_up (va_up (va_up a 0 (upd (a 0) ((a 9 0).toNatClampNeg) (p1))) 1 (upd (a 1) ((a 9 0).toNatClampNeg) (p2))) 2 (upd (a 2) ((a 9 0).toNatClampNeg) (p3))) 3 (upd (a 3) ((a 9 0).toNatClampNeg) (p4))) 4 (upd (a 4) ((a 9 0).toNatClampNeg) (p5))) 5 (upd (a 5) ((a 9 0).toNatClampNeg) (p6))) 6 (upd (a 6) ((a 9 0).toNatClampNeg) ((-1)))) 9 (upd (a 9) 0 (((a 9 0) + 1)))), rfl, h, by show va_P D vwCl _ t.heap; rw [ht]; exact hP⟩, hS.F ht⟩) hS.2.2 dX3_add_75

/-! X3_struckOnes -/
set_option maxRecDepth 20000 in
theorem wdX3_struckOnes_0 : Cond.fieldLink RX3 33 "CornLaws$Returns" "size" "I" ∈ wsX3_struckOnes := by decide +kernel
set_option maxRecDepth 20000 in
theorem wdX3_struckOnes_1 : Cond.fieldLink RX3 30 "CornLaws$Returns" "struck" "[I" ∈ wsX3_struckOnes := by decide +kernel
set_option maxRecDepth 20000 in
theorem inX3_struckOnes_3 : ∀ w ∈ wsX30, w ∈ wsX3_struckOnes := by decide +kernel
set_option maxHeartbeats 4000000 in
set_option maxRecDepth 100000 in
theorem cX3_struckOnes_ok (l : Launch) (D : va_G) (cI cII : ClassId) (q : Nat → Nat) (a : RS) (post : Int32 → Prop) (h : wpX3_struckOnes a post) : Met l yX3_struckOnes wsX3_struckOnes ({ frames := 0, cells := 0, slots := 0, locals := 0 } : Room) (zPc [.ref (q 0)] D cI cII (wR cI q a)) (vp_Si post) 0 0 (fun _ => False) := by
  refine Met.ofW (cc := cX3_struckOnes) (maxL := 3) (ret := (some .int)) (by decide) rfl ?_
  intro p e s m args below meth c s₁ B hml hv
  obtain ⟨rfl, hP, hK⟩ := hv
  have hx := B.exec
  have hb := B.bytes
  have hr := B.returns
  have hts := atoms_spec (ws := wsX3_struckOnes) B.pre
  have hown : s.vm.findClass RX3 = some m.cls := findClass_of_methodNamed B.named
  have hlocks := B.notSynchronized
  have hl := lv_entry ([.ref (q 0)]) (n := 3) (Nat.le_of_ble_eq_true rfl)
  rw [lg_entry_eq]
  generalize (lg_sl ([.ref (q 0)]) ++ List.replicate (3 - (lg_sl ([.ref (q 0)])).length) Slot.unset).toArray = ls at hl ⊢
  have hl : lv_has ls 3 [(0, .ref (q 0))] := hl
  unfold wpX3_struckOnes at h
  refine lv_iconst (v := 0) hx hb dX3_struckOnes_0 (by decide) ?_
  refine lv_istore_n (lv' := [(1, .int 0), (0, .ref (q 0))]) hx hb dX3_struckOnes_1 rfl hl (by decide) rfl (fun ls hl => ?_)
  refine lv_iconst (v := 0) hx hb dX3_struckOnes_2 (by decide) ?_
  refine lv_istore_n (lv' := [(2, .int 0), (1, .int 0), (0, .ref (q 0))]) hx hb dX3_struckOnes_3 rfl hl (by decide) rfl (fun ls hl => ?_)
  have hL4 : ∀ (K4 : Int32 → Int32 → Prop) (hX : ∀ (x2_4 : Int32) (x1_4 : Int32), K4 x2_4 x1_4 → ∀ ls : Array Slot, lv_has ls 3 [(2, .int x2_4), (1, .int x1_4), (0, .ref (q 0))] → W p l e (headSpec wsX3_struckOnes ({ frames := 0, cells := 0, slots := 0, locals := 0 } : Room)).room s m ([.ref (q 0)] : List Value).toArray below meth c s.heap [] 0 0 (MQ below (vp_Si post) ([.ref (q 0)] : List Value).toArray s 0 0 (fun _ => False)) (F0 m 31 ls [])) (n : Nat) (x2_4 : Int32) (x1_4 : Int32), wpX3_struckOnes_L4 a K4 n x2_4 x1_4 → ∀ ls : Array Slot, lv_has ls 3 [(2, .int x2_4), (1, .int x1_4), (0, .ref (q 0))] → W p l e (headSpec wsX3_struckOnes ({ frames := 0, cells := 0, slots := 0, locals := 0 } : Room)).room s m ([.ref (q 0)] : List Value).toArray below meth c s.heap [] 0 0 (MQ below (vp_Si post) ([.ref (q 0)] : List Value).toArray s 0 0 (fun _ => False)) (F0 m 4 ls []) := by
    intro K4 hX n
    induction n with
    | zero => intro x2_4 x1_4 h; exact False.elim h
    | succ n ih =>
      intro x2_4 x1_4 h ls hl
      rw [wpX3_struckOnes_L4] at h
      refine lv_iload_n hx hb dX3_struckOnes_4 rfl (lv_at hl 0 rfl) ?_
      refine lv_aload_n hx hb dX3_struckOnes_5 rfl (lv_at hl 2 rfl) ?_
      refine va_get (D := D) (ci := 3) (v := .int (a 9 0)) (C := RX3) (T := TX3) (N := 8) hx hb hts inX3_struckOnes_3 hown hK hP 0 rfl rfl 7 (by decide) (hts (.fieldLink RX3 33 "CornLaws$Returns" "size" "I") wdX3_struckOnes_0) (fun _ h9 => h9) rfl dX3_struckOnes_6 ?_
      refine lv_icmp_ge (tgt := 31) hx hb dX3_struckOnes_9 (by decide) (fun c1 => ?_) (fun c1 => ?_)
      · replace h := h.1 c1
        exact hX x2_4 x1_4 h ls (lv_sub hl [0, 1, 2] rfl)
      · replace h := h.2 c1
        refine lv_aload_n hx hb dX3_struckOnes_12 rfl (lv_at hl 2 rfl) ?_
        refine va_get (D := D) (ci := 3) (v := .ref (q 7)) (C := RX3) (T := TX3) (N := 8) hx hb hts inX3_struckOnes_3 hown hK hP 0 rfl rfl 6 (by decide) (hts (.fieldLink RX3 30 "CornLaws$Returns" "struck" "[I") wdX3_struckOnes_1) (fun _ h9 => h9) rfl dX3_struckOnes_13 ?_
        refine lv_iload_n hx hb dX3_struckOnes_16 rfl (lv_at hl 0 rfl) ?_
        obtain ⟨hi2, h⟩ := h
        refine va_iald (f := a 6) hx hb hK hP 7 0 rfl rfl hi2 dX3_struckOnes_17 ?_
        refine lv_iconst (v := (-1)) hx hb dX3_struckOnes_18 (by decide) ?_
        refine lv_icmp_eq (tgt := 25) hx hb dX3_struckOnes_19 (by decide) (fun c3 => ?_) (fun c3 => ?_)
        · replace h := h.1 c3
          refine lv_iinc (v := (x2_4 + 1)) (lv' := [(2, .int (x2_4 + 1)), (1, .int x1_4), (0, .ref (q 0))]) hx hb dX3_struckOnes_25 hl (k := 0) rfl rfl (by decide) rfl (fun ls hl => ?_)
          refine lv_goto (tgt := 4) hx hb dX3_struckOnes_28 (by decide) ?_
          exact ih (x2_4 + 1) x1_4 h ls (lv_sub hl [0, 1, 2] rfl)
        · replace h := h.2 c3
          refine lv_iinc (v := (x1_4 + 1)) (lv' := [(1, .int (x1_4 + 1)), (2, .int x2_4), (0, .ref (q 0))]) hx hb dX3_struckOnes_22 hl (k := 1) rfl rfl (by decide) rfl (fun ls hl => ?_)
          refine lv_iinc (v := (x2_4 + 1)) (lv' := [(2, .int (x2_4 + 1)), (1, .int (x1_4 + 1)), (0, .ref (q 0))]) hx hb dX3_struckOnes_25 hl (k := 1) rfl rfl (by decide) rfl (fun ls hl => ?_)
          refine lv_goto (tgt := 4) hx hb dX3_struckOnes_28 (by decide) ?_
          exact ih (x2_4 + 1) (x1_4 + 1) h ls (lv_sub hl [0, 1, 2] rfl)
  obtain ⟨n, h⟩ := h
  refine hL4 _ (fun x2_4 x1_4 h ls hl => ?_) n 0 0 h ls hl
  refine lv_iload_n hx hb dX3_struckOnes_31 rfl (lv_at hl 1 rfl) ?_
  exact W.iret (v := x1_4) hx hb hr (fun t ht hW => ⟨x1_4, rfl, h, ht⟩) (fun _ h9 => by cases h9) dX3_struckOnes_32

/-! X3_isKnown -/
set_option maxRecDepth 20000 in
theorem wdX3_isKnown_0 : Cond.fieldLink RX3 27 "CornLaws$Returns" "sworn" "[I" ∈ wsX3_isKnown := by decide +kernel
set_option maxRecDepth 20000 in
theorem wdX3_isKnown_1 : Cond.fieldLink RX3 30 "CornLaws$Returns" "struck" "[I" ∈ wsX3_isKnown := by decide +kernel
set_option maxRecDepth 20000 in
theorem inX3_isKnown_3 : ∀ w ∈ wsX30, w ∈ wsX3_isKnown := by decide +kernel
set_option maxHeartbeats 4000000 in
set_option maxRecDepth 100000 in
theorem cX3_isKnown_ok (l : Launch) (D : va_G) (cI cII : ClassId) (q : Nat → Nat) (a : RS) (p1 : Int32) (p2 : Int32) (post : Int32 → Prop) (h : wpX3_isKnown a p1 p2 post) : Met l yX3_isKnown wsX3_isKnown ({ frames := 0, cells := 0, slots := 0, locals := 0 } : Room) (zPc [.ref (q 0), .int p1, .int p2] D cI cII (wR cI q a)) (vp_Si post) 0 0 (fun _ => False) := by
  refine Met.ofW (cc := cX3_isKnown) (maxL := 3) (ret := (some .boolean)) (by decide) rfl ?_
  intro p e s m args below meth c s₁ B hml hv
  obtain ⟨rfl, hP, hK⟩ := hv
  have hx := B.exec
  have hb := B.bytes
  have hr := B.returns
  have hts := atoms_spec (ws := wsX3_isKnown) B.pre
  have hown : s.vm.findClass RX3 = some m.cls := findClass_of_methodNamed B.named
  have hlocks := B.notSynchronized
  have hl := lv_entry ([.ref (q 0), .int p1, .int p2]) (n := 3) (Nat.le_of_ble_eq_true rfl)
  rw [lg_entry_eq]
  generalize (lg_sl ([.ref (q 0), .int p1, .int p2]) ++ List.replicate (3 - (lg_sl ([.ref (q 0), .int p1, .int p2])).length) Slot.unset).toArray = ls at hl ⊢
  have hl : lv_has ls 3 [(0, .ref (q 0)), (1, .int p1), (2, .int p2)] := hl
  unfold wpX3_isKnown at h
  refine lv_aload_n hx hb dX3_isKnown_0 rfl (lv_at hl 0 rfl) ?_
  refine va_get (D := D) (ci := 3) (v := .ref (q 6)) (C := RX3) (T := TX3) (N := 8) hx hb hts inX3_isKnown_3 hown hK hP 0 rfl rfl 5 (by decide) (hts (.fieldLink RX3 27 "CornLaws$Returns" "sworn" "[I") wdX3_isKnown_0) (fun _ h9 => h9) rfl dX3_isKnown_1 ?_
  refine lv_iload_n hx hb dX3_isKnown_4 rfl (lv_at hl 1 rfl) ?_
  obtain ⟨hi1, h⟩ := h
  refine va_iald (f := a 5) hx hb hK hP 6 0 rfl rfl hi1 dX3_isKnown_5 ?_
  refine lv_iload_n hx hb dX3_isKnown_6 rfl (lv_at hl 2 rfl) ?_
  refine lv_icmp_gt (tgt := 34) hx hb dX3_isKnown_7 (by decide) (fun c2 => ?_) (fun c2 => ?_)
  · replace h := h.1 c2
    refine lv_iconst (v := 0) hx hb dX3_isKnown_34 (by decide) ?_
    exact W.zret (v := 0) (ty := .boolean) hx hb hr (by decide) (fun t ht hW => ⟨0, rfl, h, ht⟩) (fun _ h9 => by cases h9) dX3_isKnown_35
  · replace h := h.2 c2
    refine lv_aload_n hx hb dX3_isKnown_10 rfl (lv_at hl 0 rfl) ?_
    refine va_get (D := D) (ci := 3) (v := .ref (q 7)) (C := RX3) (T := TX3) (N := 8) hx hb hts inX3_isKnown_3 hown hK hP 0 rfl rfl 6 (by decide) (hts (.fieldLink RX3 30 "CornLaws$Returns" "struck" "[I") wdX3_isKnown_1) (fun _ h9 => h9) rfl dX3_isKnown_11 ?_
    refine lv_iload_n hx hb dX3_isKnown_14 rfl (lv_at hl 1 rfl) ?_
    refine va_iald (f := a 6) hx hb hK hP 7 0 rfl rfl hi1 dX3_isKnown_15 ?_
    refine lv_iconst (v := (-1)) hx hb dX3_isKnown_16 (by decide) ?_
    refine lv_icmp_eq (tgt := 30) hx hb dX3_isKnown_17 (by decide) (fun c3 => ?_) (fun c3 => ?_)
    · replace h := h.1 c3
      refine lv_iconst (v := 1) hx hb dX3_isKnown_30 (by decide) ?_
      refine lv_goto (tgt := 35) hx hb dX3_isKnown_31 (by decide) ?_
      exact W.zret (v := 1) (ty := .boolean) hx hb hr (by decide) (fun t ht hW => ⟨1, rfl, h, ht⟩) (fun _ h9 => by cases h9) dX3_isKnown_35
    · replace h := h.2 c3
      refine lv_aload_n hx hb dX3_isKnown_20 rfl (lv_at hl 0 rfl) ?_
      refine va_get (D := D) (ci := 3) (v := .ref (q 7)) (C := RX3) (T := TX3) (N := 8) hx hb hts inX3_isKnown_3 hown hK hP 0 rfl rfl 6 (by decide) (hts (.fieldLink RX3 30 "CornLaws$Returns" "struck" "[I") wdX3_isKnown_1) (fun _ h9 => h9) rfl dX3_isKnown_21 ?_
      refine lv_iload_n hx hb dX3_isKnown_24 rfl (lv_at hl 1 rfl) ?_
      refine va_iald (f := a 6) hx hb hK hP 7 0 rfl rfl hi1 dX3_isKnown_25 ?_
      refine lv_iload_n hx hb dX3_isKnown_26 rfl (lv_at hl 2 rfl) ?_
      refine lv_icmp_le (tgt := 34) hx hb dX3_isKnown_27 (by decide) (fun c4 => ?_) (fun c4 => ?_)
      · replace h := h.1 c4
        refine lv_iconst (v := 0) hx hb dX3_isKnown_34 (by decide) ?_
        exact W.zret (v := 0) (ty := .boolean) hx hb hr (by decide) (fun t ht hW => ⟨0, rfl, h, ht⟩) (fun _ h9 => by cases h9) dX3_isKnown_35
      · replace h := h.2 c4
        refine lv_iconst (v := 1) hx hb dX3_isKnown_30 (by decide) ?_
        refine lv_goto (tgt := 35) hx hb dX3_isKnown_31 (by decide) ?_
        exact W.zret (v := 1) (ty := .boolean) hx hb hr (by decide) (fun t ht hW => ⟨1, rfl, h, ht⟩) (fun _ h9 => by cases h9) dX3_isKnown_35

/-! X3_weeklyKnown -/
set_option maxRecDepth 20000 in
theorem wdX3_weeklyKnown_0 : Cond.fieldLink RX3 33 "CornLaws$Returns" "size" "I" ∈ wsX3_weeklyKnown := by decide +kernel
set_option maxRecDepth 20000 in
theorem wdX3_weeklyKnown_1 : Cond.fieldLink RX3 15 "CornLaws$Returns" "grain" "[I" ∈ wsX3_weeklyKnown := by decide +kernel
set_option maxRecDepth 20000 in
theorem wdX3_weeklyKnown_2 : Cond.fieldLink RX3 18 "CornLaws$Returns" "week" "[I" ∈ wsX3_weeklyKnown := by decide +kernel
set_option maxRecDepth 20000 in
theorem wdX3_weeklyKnown_3 : Cond.fieldLink RX3 24 "CornLaws$Returns" "price" "[I" ∈ wsX3_weeklyKnown := by decide +kernel
set_option maxRecDepth 20000 in
theorem wdX3_weeklyKnown_4 : Cond.fieldLink RX3 21 "CornLaws$Returns" "quarters" "[I" ∈ wsX3_weeklyKnown := by decide +kernel
set_option maxRecDepth 20000 in
theorem inX3_weeklyKnown_3 : ∀ w ∈ wsX30, w ∈ wsX3_weeklyKnown := by decide +kernel
set_option maxHeartbeats 4000000 in
set_option maxRecDepth 100000 in
theorem cX3_weeklyKnown_ok (l : Launch) (D : va_G) (cI cII : ClassId) (q : Nat → Nat) (a : RS) (p1 : Int32) (p2 : Int32) (p3 : Int32) (p4 : Int32) (post : Int32 → Prop) (h : wpX3_weeklyKnown a p1 p2 p3 p4 post) : Met l yX3_weeklyKnown wsX3_weeklyKnown ({ frames := 1, cells := 0, slots := 0, locals := 22 } : Room) (zPc [.ref (q 0), .int p1, .int p2, .int p3, .int p4] D cI cII (wR cI q a)) (vp_Si post) 0 0 (fun _ => False) := by
  refine Met.ofW (cc := cX3_weeklyKnown) (maxL := 9) (ret := (some .int)) (by decide) rfl ?_
  intro p e s m args below meth c s₁ B hml hv
  obtain ⟨rfl, hP, hK⟩ := hv
  have hx := B.exec
  have hb := B.bytes
  have hr := B.returns
  have hts := atoms_spec (ws := wsX3_weeklyKnown) B.pre
  have hown : s.vm.findClass RX3 = some m.cls := findClass_of_methodNamed B.named
  have hlocks := B.notSynchronized
  have hl := lv_entry ([.ref (q 0), .int p1, .int p2, .int p3, .int p4]) (n := 9) (Nat.le_of_ble_eq_true rfl)
  rw [lg_entry_eq]
  generalize (lg_sl ([.ref (q 0), .int p1, .int p2, .int p3, .int p4]) ++ List.replicate (9 - (lg_sl ([.ref (q 0), .int p1, .int p2, .int p3, .int p4])).length) Slot.unset).toArray = ls at hl ⊢
  have hl : lv_has ls 9 [(0, .ref (q 0)), (1, .int p1), (2, .int p2), (3, .int p3), (4, .int p4)] := hl
  unfold wpX3_weeklyKnown at h
  refine lv_iconst (v := (-1)) hx hb dX3_weeklyKnown_0 (by decide) ?_
  refine lv_istore (lv' := [(5, .int (-1)), (0, .ref (q 0)), (1, .int p1), (2, .int p2), (3, .int p3), (4, .int p4)]) hx hb dX3_weeklyKnown_1 hl (by decide) rfl (fun ls hl => ?_)
  refine lv_iconst (v := 0) hx hb dX3_weeklyKnown_3 (by decide) ?_
  refine lv_istore (lv' := [(6, .int 0), (5, .int (-1)), (0, .ref (q 0)), (1, .int p1), (2, .int p2), (3, .int p3), (4, .int p4)]) hx hb dX3_weeklyKnown_4 hl (by decide) rfl (fun ls hl => ?_)
  refine lv_iconst (v := 0) hx hb dX3_weeklyKnown_6 (by decide) ?_
  refine lv_istore (lv' := [(7, .int 0), (6, .int 0), (5, .int (-1)), (0, .ref (q 0)), (1, .int p1), (2, .int p2), (3, .int p3), (4, .int p4)]) hx hb dX3_weeklyKnown_7 hl (by decide) rfl (fun ls hl => ?_)
  refine lv_iconst (v := 0) hx hb dX3_weeklyKnown_9 (by decide) ?_
  refine lv_istore (lv' := [(8, .int 0), (7, .int 0), (6, .int 0), (5, .int (-1)), (0, .ref (q 0)), (1, .int p1), (2, .int p2), (3, .int p3), (4, .int p4)]) hx hb dX3_weeklyKnown_10 hl (by decide) rfl (fun ls hl => ?_)
  have hL12 : ∀ (K12 : Int32 → Int32 → Int32 → Int32 → Prop) (hX : ∀ (x8_12 : Int32) (x7_12 : Int32) (x6_12 : Int32) (x5_12 : Int32), K12 x8_12 x7_12 x6_12 x5_12 → ∀ ls : Array Slot, lv_has ls 9 [(8, .int x8_12), (7, .int x7_12), (6, .int x6_12), (5, .int x5_12), (0, .ref (q 0)), (1, .int p1), (2, .int p2), (3, .int p3), (4, .int p4)] → W p l e (headSpec wsX3_weeklyKnown ({ frames := 1, cells := 0, slots := 0, locals := 22 } : Room)).room s m ([.ref (q 0), .int p1, .int p2, .int p3, .int p4] : List Value).toArray below meth c s.heap [] 0 0 (MQ below (vp_Si post) ([.ref (q 0), .int p1, .int p2, .int p3, .int p4] : List Value).toArray s 0 0 (fun _ => False)) (F0 m 140 ls [])) (n : Nat) (x8_12 : Int32) (x7_12 : Int32) (x6_12 : Int32) (x5_12 : Int32), wpX3_weeklyKnown_L12 a p1 p2 p3 p4 K12 n x8_12 x7_12 x6_12 x5_12 → ∀ ls : Array Slot, lv_has ls 9 [(8, .int x8_12), (7, .int x7_12), (6, .int x6_12), (5, .int x5_12), (0, .ref (q 0)), (1, .int p1), (2, .int p2), (3, .int p3), (4, .int p4)] → W p l e (headSpec wsX3_weeklyKnown ({ frames := 1, cells := 0, slots := 0, locals := 22 } : Room)).room s m ([.ref (q 0), .int p1, .int p2, .int p3, .int p4] : List Value).toArray below meth c s.heap [] 0 0 (MQ below (vp_Si post) ([.ref (q 0), .int p1, .int p2, .int p3, .int p4] : List Value).toArray s 0 0 (fun _ => False)) (F0 m 12 ls []) := by
    intro K12 hX n
    induction n with
    | zero => intro x8_12 x7_12 x6_12 x5_12 h; exact False.elim h
    | succ n ih =>
      intro x8_12 x7_12 x6_12 x5_12 h ls hl
      rw [wpX3_weeklyKnown_L12] at h
      refine lv_iload hx hb dX3_weeklyKnown_12 (lv_at hl 0 rfl) ?_
      refine lv_aload_n hx hb dX3_weeklyKnown_14 rfl (lv_at hl 4 rfl) ?_
      refine va_get (D := D) (ci := 3) (v := .int (a 9 0)) (C := RX3) (T := TX3) (N := 8) hx hb hts inX3_weeklyKnown_3 hown hK hP 0 rfl rfl 7 (by decide) (hts (.fieldLink RX3 33 "CornLaws$Returns" "size" "I") wdX3_weeklyKnown_0) (fun _ h9 => h9) rfl dX3_weeklyKnown_15 ?_
      refine lv_icmp_ge (tgt := 140) hx hb dX3_weeklyKnown_18 (by decide) (fun c1 => ?_) (fun c1 => ?_)
      · replace h := h.1 c1
        exact hX x8_12 x7_12 x6_12 x5_12 h ls (lv_sub hl [0, 1, 2, 3, 4, 5, 6, 7, 8] rfl)
      · replace h := h.2 c1
        refine lv_aload_n hx hb dX3_weeklyKnown_21 rfl (lv_at hl 4 rfl) ?_
        refine va_get (D := D) (ci := 3) (v := .ref (q 2)) (C := RX3) (T := TX3) (N := 8) hx hb hts inX3_weeklyKnown_3 hown hK hP 0 rfl rfl 1 (by decide) (hts (.fieldLink RX3 15 "CornLaws$Returns" "grain" "[I") wdX3_weeklyKnown_1) (fun _ h9 => h9) rfl dX3_weeklyKnown_22 ?_
        refine lv_iload hx hb dX3_weeklyKnown_25 (lv_at hl 0 rfl) ?_
        obtain ⟨hi2, h⟩ := h
        refine va_iald (f := a 1) hx hb hK hP 2 0 rfl rfl hi2 dX3_weeklyKnown_27 ?_
        refine lv_iload_n hx hb dX3_weeklyKnown_28 rfl (lv_at hl 5 rfl) ?_
        refine lv_icmp_ne (tgt := 134) hx hb dX3_weeklyKnown_29 (by decide) (fun c3 => ?_) (fun c3 => ?_)
        · replace h := h.1 c3
          refine lv_iinc (v := (x8_12 + 1)) (lv' := [(8, .int (x8_12 + 1)), (7, .int x7_12), (6, .int x6_12), (5, .int x5_12), (0, .ref (q 0)), (1, .int p1), (2, .int p2), (3, .int p3), (4, .int p4)]) hx hb dX3_weeklyKnown_134 hl (k := 0) rfl rfl (by decide) rfl (fun ls hl => ?_)
          refine lv_goto (tgt := 12) hx hb dX3_weeklyKnown_137 (by decide) ?_
          exact ih (x8_12 + 1) x7_12 x6_12 x5_12 h ls (lv_sub hl [0, 1, 2, 3, 4, 5, 6, 7, 8] rfl)
        · replace h := h.2 c3
          refine lv_aload_n hx hb dX3_weeklyKnown_32 rfl (lv_at hl 4 rfl) ?_
          refine va_get (D := D) (ci := 3) (v := .ref (q 3)) (C := RX3) (T := TX3) (N := 8) hx hb hts inX3_weeklyKnown_3 hown hK hP 0 rfl rfl 2 (by decide) (hts (.fieldLink RX3 18 "CornLaws$Returns" "week" "[I") wdX3_weeklyKnown_2) (fun _ h9 => h9) rfl dX3_weeklyKnown_33 ?_
          refine lv_iload hx hb dX3_weeklyKnown_36 (lv_at hl 0 rfl) ?_
          refine va_iald (f := a 2) hx hb hK hP 3 0 rfl rfl hi2 dX3_weeklyKnown_38 ?_
          refine lv_iload_n hx hb dX3_weeklyKnown_39 rfl (lv_at hl 6 rfl) ?_
          refine lv_icmp_gt (tgt := 134) hx hb dX3_weeklyKnown_40 (by decide) (fun c4 => ?_) (fun c4 => ?_)
          · replace h := h.1 c4
            refine lv_iinc (v := (x8_12 + 1)) (lv' := [(8, .int (x8_12 + 1)), (7, .int x7_12), (6, .int x6_12), (5, .int x5_12), (0, .ref (q 0)), (1, .int p1), (2, .int p2), (3, .int p3), (4, .int p4)]) hx hb dX3_weeklyKnown_134 hl (k := 0) rfl rfl (by decide) rfl (fun ls hl => ?_)
            refine lv_goto (tgt := 12) hx hb dX3_weeklyKnown_137 (by decide) ?_
            exact ih (x8_12 + 1) x7_12 x6_12 x5_12 h ls (lv_sub hl [0, 1, 2, 3, 4, 5, 6, 7, 8] rfl)
          · replace h := h.2 c4
            refine lv_aload_n hx hb dX3_weeklyKnown_43 rfl (lv_at hl 4 rfl) ?_
            refine va_get (D := D) (ci := 3) (v := .ref (q 3)) (C := RX3) (T := TX3) (N := 8) hx hb hts inX3_weeklyKnown_3 hown hK hP 0 rfl rfl 2 (by decide) (hts (.fieldLink RX3 18 "CornLaws$Returns" "week" "[I") wdX3_weeklyKnown_2) (fun _ h9 => h9) rfl dX3_weeklyKnown_44 ?_
            refine lv_iload hx hb dX3_weeklyKnown_47 (lv_at hl 0 rfl) ?_
            refine va_iald (f := a 2) hx hb hK hP 3 0 rfl rfl hi2 dX3_weeklyKnown_49 ?_
            refine lv_iload hx hb dX3_weeklyKnown_50 (lv_at hl 3 rfl) ?_
            refine lv_icmp_lt (tgt := 134) hx hb dX3_weeklyKnown_52 (by decide) (fun c5 => ?_) (fun c5 => ?_)
            · replace h := h.1 c5
              refine lv_iinc (v := (x8_12 + 1)) (lv' := [(8, .int (x8_12 + 1)), (7, .int x7_12), (6, .int x6_12), (5, .int x5_12), (0, .ref (q 0)), (1, .int p1), (2, .int p2), (3, .int p3), (4, .int p4)]) hx hb dX3_weeklyKnown_134 hl (k := 0) rfl rfl (by decide) rfl (fun ls hl => ?_)
              refine lv_goto (tgt := 12) hx hb dX3_weeklyKnown_137 (by decide) ?_
              exact ih (x8_12 + 1) x7_12 x6_12 x5_12 h ls (lv_sub hl [0, 1, 2, 3, 4, 5, 6, 7, 8] rfl)
            · replace h := h.2 c5
              refine lv_iload hx hb dX3_weeklyKnown_55 (lv_at hl 0 rfl) ?_
              refine lv_iload hx hb dX3_weeklyKnown_57 (lv_at hl 8 rfl) ?_
              refine lv_icmp_eq (tgt := 134) hx hb dX3_weeklyKnown_59 (by decide) (fun c6 => ?_) (fun c6 => ?_)
              · replace h := h.1 c6
                refine lv_iinc (v := (x8_12 + 1)) (lv' := [(8, .int (x8_12 + 1)), (7, .int x7_12), (6, .int x6_12), (5, .int x5_12), (0, .ref (q 0)), (1, .int p1), (2, .int p2), (3, .int p3), (4, .int p4)]) hx hb dX3_weeklyKnown_134 hl (k := 0) rfl rfl (by decide) rfl (fun ls hl => ?_)
                refine lv_goto (tgt := 12) hx hb dX3_weeklyKnown_137 (by decide) ?_
                exact ih (x8_12 + 1) x7_12 x6_12 x5_12 h ls (lv_sub hl [0, 1, 2, 3, 4, 5, 6, 7, 8] rfl)
              · replace h := h.2 c6
                refine lv_aload_n hx hb dX3_weeklyKnown_62 rfl (lv_at hl 4 rfl) ?_
                refine lv_iload hx hb dX3_weeklyKnown_63 (lv_at hl 0 rfl) ?_
                refine lv_iload_n hx hb dX3_weeklyKnown_65 rfl (lv_at hl 7 rfl) ?_
                refine vp_callSi (W.runV (C := RX3) (As := [.int x8_12, .int p3]) (rest := []) ⟨hx, hb, hml, hown, hts⟩ (cX3_isKnown_ok l D cI cII q a x8_12 p3 _ h) (cwV 2 hts gX3_weeklyKnown_X3_isKnown rfl rfl rfl (by decide +kernel) ⟨Nat.le_of_ble_eq_true rfl, Nat.le_of_ble_eq_true rfl⟩) (z_preV hK hP rfl rfl) rfl rfl hl.1 rfl (lv_room (Nat.le_of_ble_eq_true rfl)) dX3_weeklyKnown_66 ⟨Nat.le_of_ble_eq_true rfl, Nat.le_of_ble_eq_true rfl⟩) (fun r7 h => ?_)
                refine lv_if_ne (tgt := 75) hx hb dX3_weeklyKnown_69 (by decide) (fun c8 => ?_) (fun c8 => ?_)
                · replace h := h.1 c8
                  refine lv_aload_n hx hb dX3_weeklyKnown_75 rfl (lv_at hl 4 rfl) ?_
                  refine va_get (D := D) (ci := 3) (v := .ref (q 3)) (C := RX3) (T := TX3) (N := 8) hx hb hts inX3_weeklyKnown_3 hown hK hP 0 rfl rfl 2 (by decide) (hts (.fieldLink RX3 18 "CornLaws$Returns" "week" "[I") wdX3_weeklyKnown_2) (fun _ h9 => h9) rfl dX3_weeklyKnown_76 ?_
                  refine lv_iload hx hb dX3_weeklyKnown_79 (lv_at hl 0 rfl) ?_
                  refine va_iald (f := a 2) hx hb hK hP 3 0 rfl rfl hi2 dX3_weeklyKnown_81 ?_
                  refine lv_iload hx hb dX3_weeklyKnown_82 (lv_at hl 3 rfl) ?_
                  refine lv_icmp_le (tgt := 102) hx hb dX3_weeklyKnown_84 (by decide) (fun c9 => ?_) (fun c9 => ?_)
                  · replace h := h.1 c9
                    refine lv_iload hx hb dX3_weeklyKnown_102 (lv_at hl 2 rfl) ?_
                    refine lv_aload_n hx hb dX3_weeklyKnown_104 rfl (lv_at hl 4 rfl) ?_
                    refine va_get (D := D) (ci := 3) (v := .ref (q 5)) (C := RX3) (T := TX3) (N := 8) hx hb hts inX3_weeklyKnown_3 hown hK hP 0 rfl rfl 4 (by decide) (hts (.fieldLink RX3 24 "CornLaws$Returns" "price" "[I") wdX3_weeklyKnown_3) (fun _ h9 => h9) rfl dX3_weeklyKnown_105 ?_
                    refine lv_iload hx hb dX3_weeklyKnown_108 (lv_at hl 0 rfl) ?_
                    refine va_iald (f := a 4) hx hb hK hP 5 0 rfl rfl hi2 dX3_weeklyKnown_110 ?_
                    refine lv_aload_n hx hb dX3_weeklyKnown_111 rfl (lv_at hl 4 rfl) ?_
                    refine va_get (D := D) (ci := 3) (v := .ref (q 4)) (C := RX3) (T := TX3) (N := 8) hx hb hts inX3_weeklyKnown_3 hown hK hP 0 rfl rfl 3 (by decide) (hts (.fieldLink RX3 21 "CornLaws$Returns" "quarters" "[I") wdX3_weeklyKnown_4) (fun _ h9 => h9) rfl dX3_weeklyKnown_112 ?_
                    refine lv_iload hx hb dX3_weeklyKnown_115 (lv_at hl 0 rfl) ?_
                    refine va_iald (f := a 3) hx hb hK hP 4 0 rfl rfl hi2 dX3_weeklyKnown_117 ?_
                    refine lv_imul hx hb dX3_weeklyKnown_118 ?_
                    refine lv_iadd hx hb dX3_weeklyKnown_119 ?_
                    refine lv_istore (lv' := [(6, .int (x6_12 + ((a 4 x8_12.toNatClampNeg) * (a 3 x8_12.toNatClampNeg)))), (8, .int x8_12), (7, .int x7_12), (5, .int x5_12), (0, .ref (q 0)), (1, .int p1), (2, .int p2), (3, .int p3), (4, .int p4)]) hx hb dX3_weeklyKnown_120 hl (by decide) rfl (fun ls hl => ?_)
                    refine lv_iload hx hb dX3_weeklyKnown_122 (lv_at hl 2 rfl) ?_
                    refine lv_aload_n hx hb dX3_weeklyKnown_124 rfl (lv_at hl 4 rfl) ?_
                    refine va_get (D := D) (ci := 3) (v := .ref (q 4)) (C := RX3) (T := TX3) (N := 8) hx hb hts inX3_weeklyKnown_3 hown hK hP 0 rfl rfl 3 (by decide) (hts (.fieldLink RX3 21 "CornLaws$Returns" "quarters" "[I") wdX3_weeklyKnown_4) (fun _ h9 => h9) rfl dX3_weeklyKnown_125 ?_
                    refine lv_iload hx hb dX3_weeklyKnown_128 (lv_at hl 1 rfl) ?_
                    refine va_iald (f := a 3) hx hb hK hP 4 0 rfl rfl hi2 dX3_weeklyKnown_130 ?_
                    refine lv_iadd hx hb dX3_weeklyKnown_131 ?_
                    refine lv_istore (lv' := [(7, .int (x7_12 + (a 3 x8_12.toNatClampNeg))), (6, .int (x6_12 + ((a 4 x8_12.toNatClampNeg) * (a 3 x8_12.toNatClampNeg)))), (8, .int x8_12), (5, .int x5_12), (0, .ref (q 0)), (1, .int p1), (2, .int p2), (3, .int p3), (4, .int p4)]) hx hb dX3_weeklyKnown_132 hl (by decide) rfl (fun ls hl => ?_)
                    refine lv_iinc (v := (x8_12 + 1)) (lv' := [(8, .int (x8_12 + 1)), (7, .int (x7_12 + (a 3 x8_12.toNatClampNeg))), (6, .int (x6_12 + ((a 4 x8_12.toNatClampNeg) * (a 3 x8_12.toNatClampNeg)))), (5, .int x5_12), (0, .ref (q 0)), (1, .int p1), (2, .int p2), (3, .int p3), (4, .int p4)]) hx hb dX3_weeklyKnown_134 hl (k := 2) rfl rfl (by decide) rfl (fun ls hl => ?_)
                    refine lv_goto (tgt := 12) hx hb dX3_weeklyKnown_137 (by decide) ?_
                    exact ih (x8_12 + 1) (x7_12 + (a 3 x8_12.toNatClampNeg)) (x6_12 + ((a 4 x8_12.toNatClampNeg) * (a 3 x8_12.toNatClampNeg))) x5_12 h ls (lv_sub hl [0, 1, 2, 3, 4, 5, 6, 7, 8] rfl)
                  · replace h := h.2 c9
                    refine lv_aload_n hx hb dX3_weeklyKnown_87 rfl (lv_at hl 4 rfl) ?_
                    refine va_get (D := D) (ci := 3) (v := .ref (q 3)) (C := RX3) (T := TX3) (N := 8) hx hb hts inX3_weeklyKnown_3 hown hK hP 0 rfl rfl 2 (by decide) (hts (.fieldLink RX3 18 "CornLaws$Returns" "week" "[I") wdX3_weeklyKnown_2) (fun _ h9 => h9) rfl dX3_weeklyKnown_88 ?_
                    refine lv_iload hx hb dX3_weeklyKnown_91 (lv_at hl 0 rfl) ?_
                    refine va_iald (f := a 2) hx hb hK hP 3 0 rfl rfl hi2 dX3_weeklyKnown_93 ?_
                    refine lv_istore (lv' := [(5, .int (a 2 x8_12.toNatClampNeg)), (8, .int x8_12), (7, .int x7_12), (6, .int x6_12), (0, .ref (q 0)), (1, .int p1), (2, .int p2), (3, .int p3), (4, .int p4)]) hx hb dX3_weeklyKnown_94 hl (by decide) rfl (fun ls hl => ?_)
                    refine lv_iconst (v := 0) hx hb dX3_weeklyKnown_96 (by decide) ?_
                    refine lv_istore (lv' := [(6, .int 0), (5, .int (a 2 x8_12.toNatClampNeg)), (8, .int x8_12), (7, .int x7_12), (0, .ref (q 0)), (1, .int p1), (2, .int p2), (3, .int p3), (4, .int p4)]) hx hb dX3_weeklyKnown_97 hl (by decide) rfl (fun ls hl => ?_)
                    refine lv_iconst (v := 0) hx hb dX3_weeklyKnown_99 (by decide) ?_
                    refine lv_istore (lv' := [(7, .int 0), (6, .int 0), (5, .int (a 2 x8_12.toNatClampNeg)), (8, .int x8_12), (0, .ref (q 0)), (1, .int p1), (2, .int p2), (3, .int p3), (4, .int p4)]) hx hb dX3_weeklyKnown_100 hl (by decide) rfl (fun ls hl => ?_)
                    refine lv_iload hx hb dX3_weeklyKnown_102 (lv_at hl 1 rfl) ?_
                    refine lv_aload_n hx hb dX3_weeklyKnown_104 rfl (lv_at hl 4 rfl) ?_
                    refine va_get (D := D) (ci := 3) (v := .ref (q 5)) (C := RX3) (T := TX3) (N := 8) hx hb hts inX3_weeklyKnown_3 hown hK hP 0 rfl rfl 4 (by decide) (hts (.fieldLink RX3 24 "CornLaws$Returns" "price" "[I") wdX3_weeklyKnown_3) (fun _ h9 => h9) rfl dX3_weeklyKnown_105 ?_
                    refine lv_iload hx hb dX3_weeklyKnown_108 (lv_at hl 3 rfl) ?_
                    refine va_iald (f := a 4) hx hb hK hP 5 0 rfl rfl hi2 dX3_weeklyKnown_110 ?_
                    refine lv_aload_n hx hb dX3_weeklyKnown_111 rfl (lv_at hl 4 rfl) ?_
                    refine va_get (D := D) (ci := 3) (v := .ref (q 4)) (C := RX3) (T := TX3) (N := 8) hx hb hts inX3_weeklyKnown_3 hown hK hP 0 rfl rfl 3 (by decide) (hts (.fieldLink RX3 21 "CornLaws$Returns" "quarters" "[I") wdX3_weeklyKnown_4) (fun _ h9 => h9) rfl dX3_weeklyKnown_112 ?_
                    refine lv_iload hx hb dX3_weeklyKnown_115 (lv_at hl 3 rfl) ?_
                    refine va_iald (f := a 3) hx hb hK hP 4 0 rfl rfl hi2 dX3_weeklyKnown_117 ?_
                    refine lv_imul hx hb dX3_weeklyKnown_118 ?_
                    refine lv_iadd hx hb dX3_weeklyKnown_119 ?_
                    refine lv_istore (lv' := [(6, .int (0 + ((a 4 x8_12.toNatClampNeg) * (a 3 x8_12.toNatClampNeg)))), (7, .int 0), (5, .int (a 2 x8_12.toNatClampNeg)), (8, .int x8_12), (0, .ref (q 0)), (1, .int p1), (2, .int p2), (3, .int p3), (4, .int p4)]) hx hb dX3_weeklyKnown_120 hl (by decide) rfl (fun ls hl => ?_)
                    refine lv_iload hx hb dX3_weeklyKnown_122 (lv_at hl 1 rfl) ?_
                    refine lv_aload_n hx hb dX3_weeklyKnown_124 rfl (lv_at hl 4 rfl) ?_
                    refine va_get (D := D) (ci := 3) (v := .ref (q 4)) (C := RX3) (T := TX3) (N := 8) hx hb hts inX3_weeklyKnown_3 hown hK hP 0 rfl rfl 3 (by decide) (hts (.fieldLink RX3 21 "CornLaws$Returns" "quarters" "[I") wdX3_weeklyKnown_4) (fun _ h9 => h9) rfl dX3_weeklyKnown_125 ?_
                    refine lv_iload hx hb dX3_weeklyKnown_128 (lv_at hl 3 rfl) ?_
                    refine va_iald (f := a 3) hx hb hK hP 4 0 rfl rfl hi2 dX3_weeklyKnown_130 ?_
                    refine lv_iadd hx hb dX3_weeklyKnown_131 ?_
                    refine lv_istore (lv' := [(7, .int (0 + (a 3 x8_12.toNatClampNeg))), (6, .int (0 + ((a 4 x8_12.toNatClampNeg) * (a 3 x8_12.toNatClampNeg)))), (5, .int (a 2 x8_12.toNatClampNeg)), (8, .int x8_12), (0, .ref (q 0)), (1, .int p1), (2, .int p2), (3, .int p3), (4, .int p4)]) hx hb dX3_weeklyKnown_132 hl (by decide) rfl (fun ls hl => ?_)
                    refine lv_iinc (v := (x8_12 + 1)) (lv' := [(8, .int (x8_12 + 1)), (7, .int (0 + (a 3 x8_12.toNatClampNeg))), (6, .int (0 + ((a 4 x8_12.toNatClampNeg) * (a 3 x8_12.toNatClampNeg)))), (5, .int (a 2 x8_12.toNatClampNeg)), (0, .ref (q 0)), (1, .int p1), (2, .int p2), (3, .int p3), (4, .int p4)]) hx hb dX3_weeklyKnown_134 hl (k := 3) rfl rfl (by decide) rfl (fun ls hl => ?_)
                    refine lv_goto (tgt := 12) hx hb dX3_weeklyKnown_137 (by decide) ?_
                    exact ih (x8_12 + 1) (0 + (a 3 x8_12.toNatClampNeg)) (0 + ((a 4 x8_12.toNatClampNeg) * (a 3 x8_12.toNatClampNeg))) (a 2 x8_12.toNatClampNeg) h ls (lv_sub hl [0, 1, 2, 3, 4, 5, 6, 7, 8] rfl)
                · replace h := h.2 c8
                  refine lv_goto (tgt := 134) hx hb dX3_weeklyKnown_72 (by decide) ?_
                  refine lv_iinc (v := (x8_12 + 1)) (lv' := [(8, .int (x8_12 + 1)), (7, .int x7_12), (6, .int x6_12), (5, .int x5_12), (0, .ref (q 0)), (1, .int p1), (2, .int p2), (3, .int p3), (4, .int p4)]) hx hb dX3_weeklyKnown_134 hl (k := 0) rfl rfl (by decide) rfl (fun ls hl => ?_)
                  refine lv_goto (tgt := 12) hx hb dX3_weeklyKnown_137 (by decide) ?_
                  exact ih (x8_12 + 1) x7_12 x6_12 x5_12 h ls (lv_sub hl [0, 1, 2, 3, 4, 5, 6, 7, 8] rfl)
  obtain ⟨n, h⟩ := h
  refine hL12 _ (fun x8_12 x7_12 x6_12 x5_12 h ls hl => ?_) n 0 0 0 (-1) h ls hl
  refine lv_iload hx hb dX3_weeklyKnown_140 (lv_at hl 1 rfl) ?_
  refine lv_if_ne (tgt := 149) hx hb dX3_weeklyKnown_142 (by decide) (fun c10 => ?_) (fun c10 => ?_)
  · replace h := h.1 c10
    refine lv_iload hx hb dX3_weeklyKnown_149 (lv_at hl 2 rfl) ?_
    refine lv_iload hx hb dX3_weeklyKnown_151 (lv_at hl 1 rfl) ?_
    obtain ⟨hdiv, h⟩ := h
    refine lv_idiv hx hb dX3_weeklyKnown_153 hdiv ?_
    exact W.iret (v := (x6_12 / x7_12)) hx hb hr (fun t ht hW => ⟨(x6_12 / x7_12), rfl, h, ht⟩) (fun _ h9 => by cases h9) dX3_weeklyKnown_154
  · replace h := h.2 c10
    refine lv_iconst (v := (-1)) hx hb dX3_weeklyKnown_145 (by decide) ?_
    refine lv_goto (tgt := 154) hx hb dX3_weeklyKnown_146 (by decide) ?_
    exact W.iret (v := (-1)) hx hb hr (fun t ht hW => ⟨(-1), rfl, h, ht⟩) (fun _ h9 => by cases h9) dX3_weeklyKnown_154

/-! X3_averageKnown -/
set_option maxHeartbeats 4000000 in
set_option maxRecDepth 100000 in
theorem cX3_averageKnown_ok (l : Launch) (D : va_G) (cI cII : ClassId) (q : Nat → Nat) (a : RS) (p1 : Int32) (p2 : Int32) (p3 : Int32) (post : Int32 → Prop) (h : wpX3_averageKnown a p1 p2 p3 post) : Met l yX3_averageKnown wsX3_averageKnown ({ frames := 2, cells := 0, slots := 0, locals := 50 } : Room) (zPc [.ref (q 0), .int p1, .int p2, .int p3] D cI cII (wR cI q a)) (vp_Si post) 0 0 (fun _ => False) := by
  refine Met.ofW (cc := cX3_averageKnown) (maxL := 7) (ret := (some .int)) (by decide) rfl ?_
  intro p e s m args below meth c s₁ B hml hv
  obtain ⟨rfl, hP, hK⟩ := hv
  have hx := B.exec
  have hb := B.bytes
  have hr := B.returns
  have hts := atoms_spec (ws := wsX3_averageKnown) B.pre
  have hown : s.vm.findClass RX3 = some m.cls := findClass_of_methodNamed B.named
  have hlocks := B.notSynchronized
  have hl := lv_entry ([.ref (q 0), .int p1, .int p2, .int p3]) (n := 7) (Nat.le_of_ble_eq_true rfl)
  rw [lg_entry_eq]
  generalize (lg_sl ([.ref (q 0), .int p1, .int p2, .int p3]) ++ List.replicate (7 - (lg_sl ([.ref (q 0), .int p1, .int p2, .int p3])).length) Slot.unset).toArray = ls at hl ⊢
  have hl : lv_has ls 7 [(0, .ref (q 0)), (1, .int p1), (2, .int p2), (3, .int p3)] := hl
  unfold wpX3_averageKnown at h
  refine lv_iconst (v := 0) hx hb dX3_averageKnown_0 (by decide) ?_
  refine lv_istore (lv' := [(4, .int 0), (0, .ref (q 0)), (1, .int p1), (2, .int p2), (3, .int p3)]) hx hb dX3_averageKnown_1 hl (by decide) rfl (fun ls hl => ?_)
  refine lv_iload_n hx hb dX3_averageKnown_3 rfl (lv_at hl 3 rfl) ?_
  refine lv_bipush (v := 6) hx hb dX3_averageKnown_4 (by decide) ?_
  refine lv_isub hx hb dX3_averageKnown_6 ?_
  refine lv_istore (lv' := [(5, .int (p2 - 6)), (4, .int 0), (0, .ref (q 0)), (1, .int p1), (2, .int p2), (3, .int p3)]) hx hb dX3_averageKnown_7 hl (by decide) rfl (fun ls hl => ?_)
  have hL9 : ∀ (K9 : Int32 → Int32 → Prop) (hX : ∀ (x5_9 : Int32) (x4_9 : Int32), K9 x5_9 x4_9 → ∀ ls : Array Slot, lv_has ls 7 [(5, .int x5_9), (4, .int x4_9), (0, .ref (q 0)), (1, .int p1), (2, .int p2), (3, .int p3)] → W p l e (headSpec wsX3_averageKnown ({ frames := 2, cells := 0, slots := 0, locals := 50 } : Room)).room s m ([.ref (q 0), .int p1, .int p2, .int p3] : List Value).toArray below meth c s.heap [] 0 0 (MQ below (vp_Si post) ([.ref (q 0), .int p1, .int p2, .int p3] : List Value).toArray s 0 0 (fun _ => False)) (F0 m 47 ls [])) (n : Nat) (x5_9 : Int32) (x4_9 : Int32), wpX3_averageKnown_L9 a p1 p2 p3 post K9 n x5_9 x4_9 → ∀ ls : Array Slot, lv_has ls 7 [(5, .int x5_9), (4, .int x4_9), (0, .ref (q 0)), (1, .int p1), (2, .int p2), (3, .int p3)] → W p l e (headSpec wsX3_averageKnown ({ frames := 2, cells := 0, slots := 0, locals := 50 } : Room)).room s m ([.ref (q 0), .int p1, .int p2, .int p3] : List Value).toArray below meth c s.heap [] 0 0 (MQ below (vp_Si post) ([.ref (q 0), .int p1, .int p2, .int p3] : List Value).toArray s 0 0 (fun _ => False)) (F0 m 9 ls []) := by
    intro K9 hX n
    induction n with
    | zero => intro x5_9 x4_9 h; exact False.elim h
    | succ n ih =>
      intro x5_9 x4_9 h ls hl
      rw [wpX3_averageKnown_L9] at h
      refine lv_iload hx hb dX3_averageKnown_9 (lv_at hl 0 rfl) ?_
      refine lv_iload_n hx hb dX3_averageKnown_11 rfl (lv_at hl 4 rfl) ?_
      refine lv_icmp_ge (tgt := 47) hx hb dX3_averageKnown_12 (by decide) (fun c1 => ?_) (fun c1 => ?_)
      · replace h := h.1 c1
        exact hX x5_9 x4_9 h ls (lv_sub hl [0, 1, 2, 3, 4, 5] rfl)
      · replace h := h.2 c1
        refine lv_aload_n hx hb dX3_averageKnown_15 rfl (lv_at hl 2 rfl) ?_
        refine lv_iload_n hx hb dX3_averageKnown_16 rfl (lv_at hl 3 rfl) ?_
        refine lv_iload hx hb dX3_averageKnown_17 (lv_at hl 0 rfl) ?_
        refine lv_iload_n hx hb dX3_averageKnown_19 rfl (lv_at hl 4 rfl) ?_
        refine lv_iload_n hx hb dX3_averageKnown_20 rfl (lv_at hl 5 rfl) ?_
        refine vp_callSi (W.runV (C := RX3) (As := [.int p1, .int x5_9, .int p2, .int p3]) (rest := []) ⟨hx, hb, hml, hown, hts⟩ (cX3_weeklyKnown_ok l D cI cII q a p1 x5_9 p2 p3 _ h) (cwV 4 hts gX3_averageKnown_X3_weeklyKnown rfl rfl rfl (by decide +kernel) ⟨Nat.le_of_ble_eq_true rfl, Nat.le_of_ble_eq_true rfl⟩) (z_preV hK hP rfl rfl) rfl rfl hl.1 rfl (lv_room (Nat.le_of_ble_eq_true rfl)) dX3_averageKnown_21 ⟨Nat.le_of_ble_eq_true rfl, Nat.le_of_ble_eq_true rfl⟩) (fun r2 h => ?_)
        refine lv_istore (lv' := [(6, .int r2), (5, .int x5_9), (4, .int x4_9), (0, .ref (q 0)), (1, .int p1), (2, .int p2), (3, .int p3)]) hx hb dX3_averageKnown_24 hl (by decide) rfl (fun ls hl => ?_)
        refine lv_iload hx hb dX3_averageKnown_26 (lv_at hl 0 rfl) ?_
        refine lv_iconst (v := (-1)) hx hb dX3_averageKnown_28 (by decide) ?_
        refine lv_icmp_ne (tgt := 34) hx hb dX3_averageKnown_29 (by decide) (fun c3 => ?_) (fun c3 => ?_)
        · replace h := h.1 c3
          refine lv_iload hx hb dX3_averageKnown_34 (lv_at hl 2 rfl) ?_
          refine lv_iload hx hb dX3_averageKnown_36 (lv_at hl 0 rfl) ?_
          refine lv_iadd hx hb dX3_averageKnown_38 ?_
          refine lv_istore (lv' := [(4, .int (x4_9 + r2)), (6, .int r2), (5, .int x5_9), (0, .ref (q 0)), (1, .int p1), (2, .int p2), (3, .int p3)]) hx hb dX3_averageKnown_39 hl (by decide) rfl (fun ls hl => ?_)
          refine lv_iinc (v := (x5_9 + 1)) (lv' := [(5, .int (x5_9 + 1)), (4, .int (x4_9 + r2)), (6, .int r2), (0, .ref (q 0)), (1, .int p1), (2, .int p2), (3, .int p3)]) hx hb dX3_averageKnown_41 hl (k := 2) rfl rfl (by decide) rfl (fun ls hl => ?_)
          refine lv_goto (tgt := 9) hx hb dX3_averageKnown_44 (by decide) ?_
          exact ih (x5_9 + 1) (x4_9 + r2) h ls (lv_sub hl [0, 1, 3, 4, 5, 6] rfl)
        · replace h := h.2 c3
          refine lv_iconst (v := (-1)) hx hb dX3_averageKnown_32 (by decide) ?_
          exact W.iret (v := (-1)) hx hb hr (fun t ht hW => ⟨(-1), rfl, h, ht⟩) (fun _ h9 => by cases h9) dX3_averageKnown_33
  obtain ⟨n, h⟩ := h
  refine hL9 _ (fun x5_9 x4_9 h ls hl => ?_) n (p2 - 6) 0 h ls hl
  refine lv_iload hx hb dX3_averageKnown_47 (lv_at hl 1 rfl) ?_
  refine lv_bipush (v := 6) hx hb dX3_averageKnown_49 (by decide) ?_
  refine lv_idiv hx hb dX3_averageKnown_51 (by decide) ?_
  exact W.iret (v := (x4_9 / 6)) hx hb hr (fun t ht hW => ⟨(x4_9 / 6), rfl, h, ht⟩) (fun _ h9 => by cases h9) dX3_averageKnown_52

/-! X3_townsKnown -/
set_option maxRecDepth 20000 in
theorem wdX3_townsKnown_0 : Cond.fieldLink RX3 33 "CornLaws$Returns" "size" "I" ∈ wsX3_townsKnown := by decide +kernel
set_option maxRecDepth 20000 in
theorem wdX3_townsKnown_1 : Cond.fieldLink RX3 18 "CornLaws$Returns" "week" "[I" ∈ wsX3_townsKnown := by decide +kernel
set_option maxRecDepth 20000 in
theorem wdX3_townsKnown_2 : Cond.fieldLink RX3 9 "CornLaws$Returns" "town" "[I" ∈ wsX3_townsKnown := by decide +kernel
set_option maxRecDepth 20000 in
theorem inX3_townsKnown_3 : ∀ w ∈ wsX30, w ∈ wsX3_townsKnown := by decide +kernel
set_option maxHeartbeats 4000000 in
set_option maxRecDepth 100000 in
theorem cX3_townsKnown_ok (l : Launch) (D : va_G) (cI cII : ClassId) (q : Nat → Nat) (a : RS) (p1 : Int32) (p2 : Int32) (post : Int32 → Prop) (h : wpX3_townsKnown a p1 p2 post) : Met l yX3_townsKnown wsX3_townsKnown ({ frames := 1, cells := 0, slots := 0, locals := 22 } : Room) (zPc [.ref (q 0), .int p1, .int p2] D cI cII (wR cI q a)) (vp_Si post) 0 0 (fun _ => False) := by
  refine Met.ofW (cc := cX3_townsKnown) (maxL := 5) (ret := (some .int)) (by decide) rfl ?_
  intro p e s m args below meth c s₁ B hml hv
  obtain ⟨rfl, hP, hK⟩ := hv
  have hx := B.exec
  have hb := B.bytes
  have hr := B.returns
  have hts := atoms_spec (ws := wsX3_townsKnown) B.pre
  have hown : s.vm.findClass RX3 = some m.cls := findClass_of_methodNamed B.named
  have hlocks := B.notSynchronized
  have hl := lv_entry ([.ref (q 0), .int p1, .int p2]) (n := 5) (Nat.le_of_ble_eq_true rfl)
  rw [lg_entry_eq]
  generalize (lg_sl ([.ref (q 0), .int p1, .int p2]) ++ List.replicate (5 - (lg_sl ([.ref (q 0), .int p1, .int p2])).length) Slot.unset).toArray = ls at hl ⊢
  have hl : lv_has ls 5 [(0, .ref (q 0)), (1, .int p1), (2, .int p2)] := hl
  unfold wpX3_townsKnown at h
  refine lv_iconst (v := 0) hx hb dX3_townsKnown_0 (by decide) ?_
  refine lv_istore_n (lv' := [(3, .int 0), (0, .ref (q 0)), (1, .int p1), (2, .int p2)]) hx hb dX3_townsKnown_1 rfl hl (by decide) rfl (fun ls hl => ?_)
  refine lv_iconst (v := 0) hx hb dX3_townsKnown_2 (by decide) ?_
  refine lv_istore (lv' := [(4, .int 0), (3, .int 0), (0, .ref (q 0)), (1, .int p1), (2, .int p2)]) hx hb dX3_townsKnown_3 hl (by decide) rfl (fun ls hl => ?_)
  have hL5 : ∀ (K5 : Int32 → Int32 → Prop) (hX : ∀ (x4_5 : Int32) (x3_5 : Int32), K5 x4_5 x3_5 → ∀ ls : Array Slot, lv_has ls 5 [(4, .int x4_5), (3, .int x3_5), (0, .ref (q 0)), (1, .int p1), (2, .int p2)] → W p l e (headSpec wsX3_townsKnown ({ frames := 1, cells := 0, slots := 0, locals := 22 } : Room)).room s m ([.ref (q 0), .int p1, .int p2] : List Value).toArray below meth c s.heap [] 0 0 (MQ below (vp_Si post) ([.ref (q 0), .int p1, .int p2] : List Value).toArray s 0 0 (fun _ => False)) (F0 m 53 ls [])) (n : Nat) (x4_5 : Int32) (x3_5 : Int32), wpX3_townsKnown_L5 a p1 p2 K5 n x4_5 x3_5 → ∀ ls : Array Slot, lv_has ls 5 [(4, .int x4_5), (3, .int x3_5), (0, .ref (q 0)), (1, .int p1), (2, .int p2)] → W p l e (headSpec wsX3_townsKnown ({ frames := 1, cells := 0, slots := 0, locals := 22 } : Room)).room s m ([.ref (q 0), .int p1, .int p2] : List Value).toArray below meth c s.heap [] 0 0 (MQ below (vp_Si post) ([.ref (q 0), .int p1, .int p2] : List Value).toArray s 0 0 (fun _ => False)) (F0 m 5 ls []) := by
    intro K5 hX n
    induction n with
    | zero => intro x4_5 x3_5 h; exact False.elim h
    | succ n ih =>
      intro x4_5 x3_5 h ls hl
      rw [wpX3_townsKnown_L5] at h
      refine lv_iload hx hb dX3_townsKnown_5 (lv_at hl 0 rfl) ?_
      refine lv_aload_n hx hb dX3_townsKnown_7 rfl (lv_at hl 2 rfl) ?_
      refine va_get (D := D) (ci := 3) (v := .int (a 9 0)) (C := RX3) (T := TX3) (N := 8) hx hb hts inX3_townsKnown_3 hown hK hP 0 rfl rfl 7 (by decide) (hts (.fieldLink RX3 33 "CornLaws$Returns" "size" "I") wdX3_townsKnown_0) (fun _ h9 => h9) rfl dX3_townsKnown_8 ?_
      refine lv_icmp_ge (tgt := 53) hx hb dX3_townsKnown_11 (by decide) (fun c1 => ?_) (fun c1 => ?_)
      · replace h := h.1 c1
        exact hX x4_5 x3_5 h ls (lv_sub hl [0, 1, 2, 3, 4] rfl)
      · replace h := h.2 c1
        refine lv_aload_n hx hb dX3_townsKnown_14 rfl (lv_at hl 2 rfl) ?_
        refine va_get (D := D) (ci := 3) (v := .ref (q 3)) (C := RX3) (T := TX3) (N := 8) hx hb hts inX3_townsKnown_3 hown hK hP 0 rfl rfl 2 (by decide) (hts (.fieldLink RX3 18 "CornLaws$Returns" "week" "[I") wdX3_townsKnown_1) (fun _ h9 => h9) rfl dX3_townsKnown_15 ?_
        refine lv_iload hx hb dX3_townsKnown_18 (lv_at hl 0 rfl) ?_
        obtain ⟨hi2, h⟩ := h
        refine va_iald (f := a 2) hx hb hK hP 3 0 rfl rfl hi2 dX3_townsKnown_20 ?_
        refine lv_iload_n hx hb dX3_townsKnown_21 rfl (lv_at hl 3 rfl) ?_
        refine lv_icmp_ne (tgt := 47) hx hb dX3_townsKnown_22 (by decide) (fun c3 => ?_) (fun c3 => ?_)
        · replace h := h.1 c3
          refine lv_iinc (v := (x4_5 + 1)) (lv' := [(4, .int (x4_5 + 1)), (3, .int x3_5), (0, .ref (q 0)), (1, .int p1), (2, .int p2)]) hx hb dX3_townsKnown_47 hl (k := 0) rfl rfl (by decide) rfl (fun ls hl => ?_)
          refine lv_goto (tgt := 5) hx hb dX3_townsKnown_50 (by decide) ?_
          exact ih (x4_5 + 1) x3_5 h ls (lv_sub hl [0, 1, 2, 3, 4] rfl)
        · replace h := h.2 c3
          refine lv_aload_n hx hb dX3_townsKnown_25 rfl (lv_at hl 2 rfl) ?_
          refine lv_iload hx hb dX3_townsKnown_26 (lv_at hl 0 rfl) ?_
          refine lv_iload_n hx hb dX3_townsKnown_28 rfl (lv_at hl 4 rfl) ?_
          refine vp_callSi (W.runV (C := RX3) (As := [.int x4_5, .int p2]) (rest := []) ⟨hx, hb, hml, hown, hts⟩ (cX3_isKnown_ok l D cI cII q a x4_5 p2 _ h) (cwV 2 hts gX3_townsKnown_X3_isKnown rfl rfl rfl (by decide +kernel) ⟨Nat.le_of_ble_eq_true rfl, Nat.le_of_ble_eq_true rfl⟩) (z_preV hK hP rfl rfl) rfl rfl hl.1 rfl (lv_room (Nat.le_of_ble_eq_true rfl)) dX3_townsKnown_29 ⟨Nat.le_of_ble_eq_true rfl, Nat.le_of_ble_eq_true rfl⟩) (fun r4 h => ?_)
          refine lv_if_eq (tgt := 47) hx hb dX3_townsKnown_32 (by decide) (fun c5 => ?_) (fun c5 => ?_)
          · replace h := h.1 c5
            refine lv_iinc (v := (x4_5 + 1)) (lv' := [(4, .int (x4_5 + 1)), (3, .int x3_5), (0, .ref (q 0)), (1, .int p1), (2, .int p2)]) hx hb dX3_townsKnown_47 hl (k := 0) rfl rfl (by decide) rfl (fun ls hl => ?_)
            refine lv_goto (tgt := 5) hx hb dX3_townsKnown_50 (by decide) ?_
            exact ih (x4_5 + 1) x3_5 h ls (lv_sub hl [0, 1, 2, 3, 4] rfl)
          · replace h := h.2 c5
            refine lv_iload_n hx hb dX3_townsKnown_35 rfl (lv_at hl 1 rfl) ?_
            refine lv_iconst (v := 1) hx hb dX3_townsKnown_36 (by decide) ?_
            refine lv_aload_n hx hb dX3_townsKnown_37 rfl (lv_at hl 2 rfl) ?_
            refine va_get (D := D) (ci := 3) (v := .ref (q 1)) (C := RX3) (T := TX3) (N := 8) hx hb hts inX3_townsKnown_3 hown hK hP 0 rfl rfl 0 (by decide) (hts (.fieldLink RX3 9 "CornLaws$Returns" "town" "[I") wdX3_townsKnown_2) (fun _ h9 => h9) rfl dX3_townsKnown_38 ?_
            refine lv_iload hx hb dX3_townsKnown_41 (lv_at hl 0 rfl) ?_
            refine va_iald (f := a 0) hx hb hK hP 1 0 rfl rfl hi2 dX3_townsKnown_43 ?_
            refine lv_ishl hx hb dX3_townsKnown_44 ?_
            refine lv_ior hx hb dX3_townsKnown_45 ?_
            refine lv_istore_n (lv' := [(3, .int (x3_5 ||| (1 <<< ((a 0 x4_5.toNatClampNeg) &&& 31)))), (4, .int x4_5), (0, .ref (q 0)), (1, .int p1), (2, .int p2)]) hx hb dX3_townsKnown_46 rfl hl (by decide) rfl (fun ls hl => ?_)
            refine lv_iinc (v := (x4_5 + 1)) (lv' := [(4, .int (x4_5 + 1)), (3, .int (x3_5 ||| (1 <<< ((a 0 x4_5.toNatClampNeg) &&& 31)))), (0, .ref (q 0)), (1, .int p1), (2, .int p2)]) hx hb dX3_townsKnown_47 hl (k := 1) rfl rfl (by decide) rfl (fun ls hl => ?_)
            refine lv_goto (tgt := 5) hx hb dX3_townsKnown_50 (by decide) ?_
            exact ih (x4_5 + 1) (x3_5 ||| (1 <<< ((a 0 x4_5.toNatClampNeg) &&& 31))) h ls (lv_sub hl [0, 1, 2, 3, 4] rfl)
  obtain ⟨n, h⟩ := h
  refine hL5 _ (fun x4_5 x3_5 h ls hl => ?_) n 0 0 h ls hl
  refine lv_iload_n hx hb dX3_townsKnown_53 rfl (lv_at hl 1 rfl) ?_
  refine vp_callSi (W.runS (As := [.int x3_5]) (rest := []) ⟨hx, hb, hml, hown, hts⟩ (cJ6_bitCount_0f7a4_ok l x3_5 _ h) (va_cwS 1 hts gX3_townsKnown_J6_bitCount_0f7a4 rfl rfl rfl (by decide +kernel) ⟨Nat.le_of_ble_eq_true rfl, Nat.le_of_ble_eq_true rfl⟩) z_preS rfl rfl hl.1 rfl (lv_room (Nat.le_of_ble_eq_true rfl)) dX3_townsKnown_54 ⟨Nat.le_of_ble_eq_true rfl, Nat.le_of_ble_eq_true rfl⟩) (fun r6 h => ?_)
  exact W.iret (v := r6) hx hb hr (fun t ht hW => ⟨r6, rfl, h, ht⟩) (fun _ h9 => by cases h9) dX3_townsKnown_57
