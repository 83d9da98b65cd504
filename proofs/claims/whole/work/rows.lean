section
-- ===== PART A: goes FIRST, ahead of the names: the tables' words, and 'selects' of the private methods out of them =====
/-- a private method of a class that the tables say can be made, by its rows of tables_1 -/
def lw_okq (q : MethodName × Nat) : Prop := (q.1.cls ≠ "java/lang/invoke/MethodHandle" ∧ q.1.cls ≠ "java/lang/invoke/VarHandle") ∧ Cond.instantiable q.1.cls q.2 ∈ tables_1 ∧ Cond.privateMethod q.1 ∈ tables_1 ∧ Cond.instanceMethod q.1 ∈ tables_1
theorem lw_p0 : lw_okq (⟨"CornLaws", "dutyAt", "(IIII)I"⟩, 8) := ⟨⟨by decide +kernel, by decide +kernel⟩, List.mem_of_getElem? (i := 10) (by decide +kernel), List.mem_of_getElem? (i := 326) (by decide +kernel), List.mem_of_getElem? (i := 327) (by decide +kernel)⟩
theorem lw_p1 : lw_okq (⟨"CornLaws", "chestAnew", "(II)J"⟩, 8) := ⟨⟨by decide +kernel, by decide +kernel⟩, List.mem_of_getElem? (i := 10) (by decide +kernel), List.mem_of_getElem? (i := 391) (by decide +kernel), List.mem_of_getElem? (i := 392) (by decide +kernel)⟩
theorem lw_p2 : lw_okq (⟨"CornLaws", "gainAt", "(III)J"⟩, 8) := ⟨⟨by decide +kernel, by decide +kernel⟩, List.mem_of_getElem? (i := 10) (by decide +kernel), List.mem_of_getElem? (i := 403) (by decide +kernel), List.mem_of_getElem? (i := 404) (by decide +kernel)⟩
theorem lw_p3 : lw_okq (⟨"CornLawsModel", "weeklyAt", "(III)I"⟩, 34) := ⟨⟨by decide +kernel, by decide +kernel⟩, List.mem_of_getElem? (i := 423) (by decide +kernel), List.mem_of_getElem? (i := 558) (by decide +kernel), List.mem_of_getElem? (i := 559) (by decide +kernel)⟩
theorem lw_p4 : lw_okq (⟨"CornLawsModel", "isKnown", "(II)Z"⟩, 34) := ⟨⟨by decide +kernel, by decide +kernel⟩, List.mem_of_getElem? (i := 423) (by decide +kernel), List.mem_of_getElem? (i := 562) (by decide +kernel), List.mem_of_getElem? (i := 563) (by decide +kernel)⟩
theorem lw_p5 : lw_okq (⟨"CornLawsModel", "averageAt", "(III)I"⟩, 34) := ⟨⟨by decide +kernel, by decide +kernel⟩, List.mem_of_getElem? (i := 423) (by decide +kernel), List.mem_of_getElem? (i := 570) (by decide +kernel), List.mem_of_getElem? (i := 571) (by decide +kernel)⟩
theorem lw_p6 : lw_okq (⟨"CornLawsModel", "isScale", "(I)Z"⟩, 34) := ⟨⟨by decide +kernel, by decide +kernel⟩, List.mem_of_getElem? (i := 423) (by decide +kernel), List.mem_of_getElem? (i := 586) (by decide +kernel), List.mem_of_getElem? (i := 587) (by decide +kernel)⟩
theorem lw_p7 : lw_okq (⟨"CornLawsModel", "forceAt", "(II)I"⟩, 34) := ⟨⟨by decide +kernel, by decide +kernel⟩, List.mem_of_getElem? (i := 423) (by decide +kernel), List.mem_of_getElem? (i := 602) (by decide +kernel), List.mem_of_getElem? (i := 603) (by decide +kernel)⟩
theorem lw_p8 : lw_okq (⟨"CornLawsModel", "dutyAt", "(III)I"⟩, 34) := ⟨⟨by decide +kernel, by decide +kernel⟩, List.mem_of_getElem? (i := 423) (by decide +kernel), List.mem_of_getElem? (i := 610) (by decide +kernel), List.mem_of_getElem? (i := 611) (by decide +kernel)⟩
theorem lw_p9 : lw_okq (⟨"CornLawsModel", "ownDuty", "(III)I"⟩, 34) := ⟨⟨by decide +kernel, by decide +kernel⟩, List.mem_of_getElem? (i := 423) (by decide +kernel), List.mem_of_getElem? (i := 614) (by decide +kernel), List.mem_of_getElem? (i := 615) (by decide +kernel)⟩
theorem lw_p10 : lw_okq (⟨"CornLawsModel", "isCargo", "(I)Z"⟩, 34) := ⟨⟨by decide +kernel, by decide +kernel⟩, List.mem_of_getElem? (i := 423) (by decide +kernel), List.mem_of_getElem? (i := 630) (by decide +kernel), List.mem_of_getElem? (i := 631) (by decide +kernel)⟩
theorem lw_p11 : lw_okq (⟨"CornLawsModel", "paidAnew", "()J"⟩, 34) := ⟨⟨by decide +kernel, by decide +kernel⟩, List.mem_of_getElem? (i := 423) (by decide +kernel), List.mem_of_getElem? (i := 654) (by decide +kernel), List.mem_of_getElem? (i := 655) (by decide +kernel)⟩
theorem lw_p12 : lw_okq (⟨"CornLawsModel", "gainAt", "(III)J"⟩, 34) := ⟨⟨by decide +kernel, by decide +kernel⟩, List.mem_of_getElem? (i := 423) (by decide +kernel), List.mem_of_getElem? (i := 666) (by decide +kernel), List.mem_of_getElem? (i := 667) (by decide +kernel)⟩
def lw_privs_1 : List (MethodName × Nat) := [(⟨"CornLaws", "dutyAt", "(IIII)I"⟩, 8), (⟨"CornLaws", "chestAnew", "(II)J"⟩, 8), (⟨"CornLaws", "gainAt", "(III)J"⟩, 8), (⟨"CornLawsModel", "weeklyAt", "(III)I"⟩, 34), (⟨"CornLawsModel", "isKnown", "(II)Z"⟩, 34), (⟨"CornLawsModel", "averageAt", "(III)I"⟩, 34), (⟨"CornLawsModel", "isScale", "(I)Z"⟩, 34), (⟨"CornLawsModel", "forceAt", "(II)I"⟩, 34), (⟨"CornLawsModel", "dutyAt", "(III)I"⟩, 34), (⟨"CornLawsModel", "ownDuty", "(III)I"⟩, 34), (⟨"CornLawsModel", "isCargo", "(I)Z"⟩, 34), (⟨"CornLawsModel", "paidAnew", "()J"⟩, 34), (⟨"CornLawsModel", "gainAt", "(III)J"⟩, 34)]
theorem lw_r1 : ∀ q ∈ lw_privs_1, lw_okq q := List.forall_mem_cons.mpr ⟨lw_p0, List.forall_mem_cons.mpr ⟨lw_p1, List.forall_mem_cons.mpr ⟨lw_p2, List.forall_mem_cons.mpr ⟨lw_p3, List.forall_mem_cons.mpr ⟨lw_p4, List.forall_mem_cons.mpr ⟨lw_p5, List.forall_mem_cons.mpr ⟨lw_p6, List.forall_mem_cons.mpr ⟨lw_p7, List.forall_mem_cons.mpr ⟨lw_p8, List.forall_mem_cons.mpr ⟨lw_p9, List.forall_mem_cons.mpr ⟨lw_p10, List.forall_mem_cons.mpr ⟨lw_p11, List.forall_mem_cons.mpr ⟨lw_p12, fun _ h => absurd h List.not_mem_nil⟩⟩⟩⟩⟩⟩⟩⟩⟩⟩⟩⟩⟩
def lw_privs : List (MethodName × Nat) := lw_privs_1
def lw_tbl : List Cond := k2_sels lw_privs ++ tables_1
theorem lw_privs_ok : ∀ q ∈ lw_privs, lw_okq q := lw_r1
/-! ===== BEGIN words of one list among another's, by their places ===== -/
theorem goodIn_r {big : List Cond} (ws : List Cond) (ps : List Nat) (hp : ws = ps.filterMap (fun i => big[i]?)) (h : ws.all goodWord = true) : GoodIn big ws := by
  intro w hw
  have h1 := List.all_eq_true.mp h w hw
  rw [hp] at hw
  obtain ⟨i, -, hi⟩ := List.mem_filterMap.mp hw
  have hm : w ∈ big := by first | exact List.mem_of_getElem? hi | exact List.getElem?_mem hi
  exact ⟨hm, good_of_word h1⟩
theorem goodIn_app {big a b : List Cond} (ha : GoodIn big a) (hb : GoodIn big b) : GoodIn big (a ++ b) := fun w h => (List.mem_append.mp h).elim (ha w) (hb w)
theorem goodIn_ca {big a b : List Cond} {c : Cond} (ha : GoodIn big (c :: a)) (hb : GoodIn big b) : GoodIn big (c :: (a ++ b)) := fun w h => (List.mem_cons.mp h).elim (fun e => ha w (List.mem_cons.mpr (Or.inl e))) (fun h => (List.mem_append.mp h).elim (fun h => ha w (List.mem_cons.mpr (Or.inr h))) (hb w))
theorem goodIn_sub {big ws : List Cond} (hm : ∀ w ∈ ws, w ∈ big) (h : ws.all goodWord = true) : GoodIn big ws := fun w hw => ⟨hm w hw, good_of_word (List.all_eq_true.mp h w hw)⟩
/-! ===== END ===== -/

/-! ===== BEGIN new T[n][m]: the outer array a place, the inner ones among the pooled ===== -/
/-- f, but v at every address of l -/
def vr_up {α : Type} (f : Nat → α) (l : List Nat) (v : α) : Nat → α := fun a => if a ∈ l then v else f a
theorem vr_up_in {α : Type} {f : Nat → α} {l : List Nat} {v : α} {a : Nat} (h : a ∈ l) : vr_up f l v a = v := if_pos h
theorem vr_up_ne {α : Type} {f : Nat → α} {l : List Nat} {v : α} {a : Nat} (h : a ∉ l) : vr_up f l v a = f a := if_neg h
theorem vr_rows {L l : List Nat} {f : Nat → va_E} {e : va_E} (h : ∀ a, a ∈ l → a ∉ L) : va_pl L f ++ l.map (fun a => (a, e)) = va_pl (L ++ l) (vr_up f l e) := by
  unfold va_pl
  rw [List.map_append]
  congr 1
  · apply List.map_congr_left
    intro a ha
    rw [vr_up_ne (fun q => h a q ha)]
  · apply List.map_congr_left
    intro a ha
    rw [vr_up_in ha]
theorem vr_lay {X rows : va_W} {x : Nat × va_E} {pl : va_W} {D : va_G} {cl : List vw_C} {H : Heap} (hP : va_P D cl (((X ++ pl) ++ [x]) ++ rows) H) : va_P D cl ((X ++ [x]) ++ (pl ++ rows)) H := by
  rw [List.append_assoc (X ++ pl)] at hP
  have h := va_P.swap hP
  rw [← List.append_assoc X] at h
  have h2 := va_P.swap h
  rw [List.append_assoc (X ++ [x])] at h2
  exact h2
theorem vr_layD {X rows : va_W} {x : Nat × va_E} {pl : va_W} {A : Nat → Prop} (hD : va_D A (((X ++ pl) ++ [x]) ++ rows)) : va_D A ((X ++ [x]) ++ (pl ++ rows)) := by
  rw [List.append_assoc (X ++ pl)] at hD
  have h := va_D.swap hD
  rw [← List.append_assoc X] at h
  have h2 := va_D.swap h
  rw [List.append_assoc (X ++ [x])] at h2
  exact h2
theorem vr_outer (c : ClassId) (N h0 : Nat) : ∀ i : Nat, Jvm.Free.Multi.outerC c N h0 i = arrV c N (fun j => va_rf (if j < i then some (h0 + 1 + j) else none))
  | 0 => by
    show ({ cls := c, slots := Array.replicate N .null, vm := .none } : Cell) = _
    rw [arrV_new]
    refine congrArg (arrV c N) (funext fun j => ?_)
    simp [va_rf]
  | i + 1 => by
    show (Jvm.Free.Multi.outerC c N h0 i).setSlot i (.ref (h0 + 1 + i)) = _
    rw [vr_outer c N h0 i, arrV_store]
    refine congrArg (arrV c N) (funext fun j => ?_)
    by_cases e : j = i
    · subst e
      simp [updV, va_rf]
    · by_cases h : j < i
      · simp [updV, e, h, Nat.lt_succ_of_lt h]
      · simp [updV, e, h, show ¬ j < i + 1 by omega]
def va_AOA (ty : FieldType) (U : State) : Prop := (Cond.arrayOver (.array ty)).before #[] U = true
theorem va_AOA.of {ty : FieldType} {A : Array Value} {U : State} (h : (Cond.arrayOver (.array ty)).before A U = true) : va_AOA ty U := h
theorem va_AOA.use {ty : FieldType} {A : Array Value} {U : State} (h : va_AOA ty U) : (Cond.arrayOver (.array ty)).before A U = true := h
section VGM
variable {p : Program} {l : Launch} {e : Env} {R : Room} {s : State} {m : MethodId} {args : Array Value} {below : List Frame} {meth : Method} {c : Code} {H : Heap} {locs : List Loc} {cells slots : Nat} {Q : State → Prop}
variable {cc : ByteArray} {pc : Nat} {ls : Array Slot} {rest : List Value} {D : va_G} {cl : List vw_C} {A : Nat → Prop} {a : Nat} {tys : List (ClassId × FieldType)} {ws : va_W} {H0 : Heap}
theorem va_mna {X : va_W} {L : List Nat} {f : Nat → va_E} {cc : ByteArray} (hexec : p.tables.exec = Jvm.exec) (hb : c.code = cc) {own : String} {index : Nat} {ty : FieldType} {cy : ClassId} (hown : s.vm.findClass own = some m.cls) (hclink : (Cond.classLink own index ("[" ++ (FieldType.array ty).toString)).before args s = true) (hover : va_AOA ty s) (harr : (Cond.arrayClass ty).before args s = true) (hcy : s.vm.findClass (FieldType.array ty).toString = some cy)
    (hK : va_K D cl tys s) (hP : va_P D cl (X ++ va_pl L f) H) (hD : va_D A (X ++ va_pl L f)) (hS : va_S A H0 H locs) (hA : ∀ q, H0.size ≤ q → A q) {n k : Int32} {N' K' : Nat} {z : vp_A} (hn : ¬ n < 0) (hk : ¬ k < 0) (hN : n.toNatClampNeg = N') (hM : k.toNatClampNeg = K')
    (hb1 : N' * 4 ≤ 536870912) (hb2 : K' * componentBytes ty ≤ 536870912) (hb3 : K' ≤ 536870912) (hdf : fits ty (defaultValue ty) = true) (hdd : (defaultValue ty).isDefault = true) (hcells : cells + (1 + N') ≤ R.cells) (hslots : slots + (N' + N' * K') ≤ R.slots) (hz : ∀ c : ClassId, Jvm.Free.Multi.innerC c K' (defaultValue ty) = vp_cell c z) (hdg : decode cc pc = .ok (.multianewarray index 2, 4))
    (kk : ∀ (q : Nat) (r : Nat → Nat) (cA : ClassId) (H1 : Heap), (∀ i j : Nat, i < N' → j < N' → r i = r j → i = j) → (∀ i : Nat, i < N' → r i ∉ L) → va_K D cl (tys ++ [(cA, .array ty)]) s →
      va_P D cl ((X ++ [(q, .inl (cA, N', .inr (.inr (.inr (.inr (fun i => if i < N' then some (r i) else none))))))]) ++ va_pl (L ++ (List.range N').map r) (vr_up f ((List.range N').map r) (.inl (cy, z)))) H1 → va_D A ((X ++ [(q, .inl (cA, N', .inr (.inr (.inr (.inr (fun i => if i < N' then some (r i) else none))))))]) ++ va_pl (L ++ (List.range N').map r) (vr_up f ((List.range N').map r) (.inl (cy, z)))) → va_S A H0 H1 locs →
      W p l e R s m args below meth c H1 locs (cells + 1 + N') (slots + N' + N' * K') Q (F0 m (pc + 4) ls (.ref q :: rest))) : W p l e R s m args below meth c H locs cells slots Q (F0 m pc ls (.int k :: .int n :: rest)) := by
  subst hN
  subst hM
  intro T hT Xs
  obtain ⟨vm₁, cA, comp, -, fA, fC, hO, -, X', step⟩ := Xs.multianewarray2F hexec hown hclink (va_AOA.use hover) harr (g := F0 m pc ls (.int k :: .int n :: rest)) rfl (by rw [hb]; exact hdg) rfl hn hk hb1 hb2 hb3 hdf hdd hcells hslots
  have ec : some cy = some comp := hcy.symm.trans fC
  cases ec
  generalize hF : Jvm.Free.Multi.fill (T.setVm vm₁) cA cy n.toNatClampNeg k.toNatClampNeg (defaultValue ty) n.toNatClampNeg = F at X' step
  have hTh : (T.setVm vm₁).heap = H := hT
  obtain ⟨f1, f2, -, -⟩ := Jvm.Free.Multi.fill_facts (T.setVm vm₁) cA cy n.toNatClampNeg k.toNatClampNeg (defaultValue ty) n.toNatClampNeg
  rw [hF, hTh] at f1 f2
  have hold : ∀ x : Nat, x < H.size → F.heap[x]? = H[x]? := fun x hx => by
    have := Jvm.Free.Multi.fill_old (T.setVm vm₁) cA cy n.toNatClampNeg k.toNatClampNeg (defaultValue ty) (a := x) (by rw [hTh]; exact hx) n.toNatClampNeg
    rw [hF, hTh] at this
    exact this
  have hrow : ∀ j : Nat, j < n.toNatClampNeg → F.heap[H.size + 1 + j]? = some (vp_cell cy z) := fun j hj => by
    have := Jvm.Free.Multi.fill_inner (T.setVm vm₁) cA cy n.toNatClampNeg k.toNatClampNeg (defaultValue ty) n.toNatClampNeg j hj
    rw [hF, hTh, hz] at this
    exact this
  have hout : Jvm.Free.Multi.outerC cA n.toNatClampNeg H.size n.toNatClampNeg = vp_cell cA (n.toNatClampNeg, .inr (.inr (.inr (.inr (fun i => if i < n.toNatClampNeg then some (H.size + 1 + i) else none))))) := by
    rw [vp_cell_q]
    exact vr_outer cA n.toNatClampNeg H.size n.toNatClampNeg
  rw [hout] at f2
  have hlt : ∀ a, a ∈ L → a < H.size := fun a ha => by
    obtain ⟨k9, hk9⟩ := va_pl_get (X := X) (f := f) ha
    exact (hP k9 _ hk9).lt
  have hnl : ∀ i : Nat, i < n.toNatClampNeg → H.size + 1 + i ∉ L := fun i _ h => by
    have := hlt _ h
    omega
  have hnm : ∀ a, a ∈ (List.range n.toNatClampNeg).map (fun i => H.size + 1 + i) → a ∉ L := fun a ha h => by
    obtain ⟨i, -, rfl⟩ := List.mem_map.mp ha
    have := hlt _ h
    omega
  have hP0 : va_P D cl (X ++ va_pl L f) F.heap := hP.kept (fun k9 x hx => hold x.1 ((hP k9 x hx).lt))
  have hP1 : va_P D cl ((X ++ va_pl L f) ++ [(H.size, .inl (cA, n.toNatClampNeg, .inr (.inr (.inr (.inr (fun i => if i < n.toNatClampNeg then some (H.size + 1 + i) else none))))))]) F.heap := hP0.app (fun k9 x hx => by
    have h0 : k9 < 1 := (List.getElem?_eq_some_iff.mp hx).1
    rw [show k9 = 0 by omega] at hx
    cases hx
    exact f2)
  have hP2 : va_P D cl (((X ++ va_pl L f) ++ [(H.size, .inl (cA, n.toNatClampNeg, .inr (.inr (.inr (.inr (fun i => if i < n.toNatClampNeg then some (H.size + 1 + i) else none))))))]) ++ ((List.range n.toNatClampNeg).map (fun i => H.size + 1 + i)).map (fun a => (a, .inl (cy, z)))) F.heap := hP1.app (fun k9 x hx => by
    obtain ⟨a, ha, rfl⟩ := List.mem_map.mp (List.mem_of_getElem? hx)
    obtain ⟨i, hi, rfl⟩ := List.mem_map.mp ha
    exact hrow i (List.mem_range.mp hi))
  have hD2 : va_D A (((X ++ va_pl L f) ++ [(H.size, .inl (cA, n.toNatClampNeg, .inr (.inr (.inr (.inr (fun i => if i < n.toNatClampNeg then some (H.size + 1 + i) else none))))))]) ++ ((List.range n.toNatClampNeg).map (fun i => H.size + 1 + i)).map (fun a => (a, .inl (cy, z)))) := by
    have hD1 := hD.push (e := .inl (cA, n.toNatClampNeg, .inr (.inr (.inr (.inr (fun i => if i < n.toNatClampNeg then some (H.size + 1 + i) else none)))))) hP rfl (hA _ hS.1)
    generalize hW1 : (X ++ va_pl L f) ++ [(H.size, .inl (cA, n.toNatClampNeg, .inr (.inr (.inr (.inr (fun i => if i < n.toNatClampNeg then some (H.size + 1 + i) else none))))))] = W1 at hD1 hP1 ⊢
    have hle : ∀ (k9 : Nat) (x : Nat × va_E), W1[k9]? = some x → x.1 ≤ H.size := fun k9 x hx => by
      rw [← hW1] at hx
      by_cases hl : k9 < (X ++ va_pl L f).length
      · rw [List.getElem?_append_left hl] at hx
        exact Nat.le_of_lt ((hP k9 x hx).lt)
      · rw [List.getElem?_append_right (by omega)] at hx
        have h0 : k9 - (X ++ va_pl L f).length < 1 := (List.getElem?_eq_some_iff.mp hx).1
        rw [show k9 - (X ++ va_pl L f).length = 0 by omega] at hx
        cases hx
        exact Nat.le_refl _
    have hr : ∀ (k9 : Nat) (x : Nat × va_E), (((List.range n.toNatClampNeg).map (fun i => H.size + 1 + i)).map (fun a => ((a, .inl (cy, z)) : Nat × va_E)))[k9]? = some x → x.1 = H.size + 1 + k9 := fun k9 x hx => by
      rw [List.getElem?_map, List.getElem?_map] at hx
      by_cases h9 : k9 < n.toNatClampNeg
      · rw [List.getElem?_range h9] at hx
        cases hx
        rfl
      · have hn0 : (List.range n.toNatClampNeg)[k9]? = none := List.getElem?_eq_none (by rw [List.length_range]; omega)
        rw [hn0] at hx
        cases hx
    refine ⟨fun i j x y hi hj hxy => ?_, fun k9 x hx => ?_⟩
    · by_cases h1 : i < W1.length <;> by_cases h2 : j < W1.length
      · rw [List.getElem?_append_left h1] at hi
        rw [List.getElem?_append_left h2] at hj
        exact hD1.1 i j x y hi hj hxy
      · rw [List.getElem?_append_left h1] at hi
        rw [List.getElem?_append_right (by omega)] at hj
        have := hle _ _ hi
        have := hr _ _ hj
        omega
      · rw [List.getElem?_append_right (by omega)] at hi
        rw [List.getElem?_append_left h2] at hj
        have := hle _ _ hj
        have := hr _ _ hi
        omega
      · rw [List.getElem?_append_right (by omega)] at hi hj
        have := hr _ _ hi
        have := hr _ _ hj
        omega
    · by_cases h1 : k9 < W1.length
      · rw [List.getElem?_append_left h1] at hx
        exact hD1.2 k9 x hx
      · rw [List.getElem?_append_right (by omega)] at hx
        have := hr _ _ hx
        exact hA _ (by have := hS.1; omega)
  have hAr : ArrOfT s cA (.array ty) := fun N9 z9 => by
    obtain ⟨-, k9, hk9, cm9, hkk9⟩ := (hO 0 0 0).1
    exact ⟨(fun q hq => by cases hq), k9, hk9, cm9, hkk9⟩
  have hK2 : va_K D cl (tys ++ [(cA, .array ty)]) s := ⟨hK.1, fun k9 x hx => by
    by_cases hl : k9 < tys.length
    · rw [List.getElem?_append_left hl] at hx
      exact hK.2 k9 x hx
    · rw [List.getElem?_append_right (by omega)] at hx
      have h0 : k9 - tys.length < 1 := (List.getElem?_eq_some_iff.mp hx).1
      rw [show k9 - tys.length = 0 by omega] at hx
      cases hx
      exact ⟨hAr, fA⟩⟩
  obtain ⟨t, a1, b1⟩ := kk H.size (fun i => H.size + 1 + i) cA F.heap (fun i j _ _ h => by have h9 : H.size + 1 + i = H.size + 1 + j := h; omega) hnl hK2 (by rw [← vr_rows hnm]; exact vr_lay hP2) (by rw [← vr_rows hnm]; exact vr_layD hD2) ⟨by rw [f1]; have := hS.1; omega, fun x h1 h2 => (hold x (Nat.lt_of_lt_of_le h1 hS.1)).trans (hS.2.1 x h1 h2), hS.2.2⟩ F rfl X'
  refine ⟨t, step t ?_, b1⟩
  have e : T.heap.size = H.size := by rw [hT]
  rw [e]
  exact a1
end VGM
/-! ===== END ===== -/
end
section
/-! ===== BEGIN printed: names, fields, word lists, decode rows ===== -/
def RX0 : String := "CornLaws$Cargoes"
def TX0 : u_T := fun k => match k with
  | 0 => ("CornLaws$Cargoes", "grain", "[I", true)
  | 1 => ("CornLaws$Cargoes", "inBond", "[I", true)
  | 2 => ("CornLaws$Cargoes", "out", "[I", true)
  | 3 => ("CornLaws$Cargoes", "shipped", "[I", true)
  | 4 => ("CornLaws$Cargoes", "spoilt", "[I", true)
  | 5 => ("CornLaws$Cargoes", "came", "[I", true)
  | _ => ("CornLaws$Cargoes", "size", "I", false)
def tyX0 : Nat → FieldType := fun k => match k with
  | 0 => .array .int
  | 1 => .array .int
  | 2 => .array .int
  | 3 => .array .int
  | 4 => .array .int
  | 5 => .array .int
  | _ => .int
abbrev wsX00 : List Cond := u_ws RX0 TX0 7
theorem nmX0 : ∀ a, a < 7 → ∀ b, b < 7 → a ≠ b → (TX0 a).2.1 ≠ (TX0 b).2.1 := by decide +kernel
theorem tyX0_ok : ∀ k, k < 7 → parseFieldDescriptor (TX0 k).2.2.1 = some (tyX0 k) := by decide +kernel
abbrev cX0_init : ByteArray := prog_2_method_1_code
def yX0_init : MethodName := ⟨RX0, "<init>", "()V"⟩
abbrev cX0_has : ByteArray := prog_2_method_2_code
def yX0_has : MethodName := ⟨RX0, "has", "(I)Z"⟩
abbrev cX0_add : ByteArray := prog_2_method_3_code
def yX0_add : MethodName := ⟨RX0, "add", "(III)I"⟩
abbrev cX0_lossOf : ByteArray := prog_2_method_4_code
def yX0_lossOf : MethodName := ⟨RX0, "lossOf", "(II)I"⟩
abbrev cX0_spoilAll : ByteArray := prog_2_method_5_code
def yX0_spoilAll : MethodName := ⟨RX0, "spoilAll", "(I)V"⟩
abbrev cX0_leftAfter : ByteArray := prog_2_method_6_code
def yX0_leftAfter : MethodName := ⟨RX0, "leftAfter", "(III)I"⟩
def RX1 : String := "CornLaws$Hangings"
def TX1 : u_T := fun k => match k with
  | 0 => ("CornLaws$Hangings", "on", "[I", true)
  | 1 => ("CornLaws$Hangings", "up", "[I", true)
  | _ => ("CornLaws$Hangings", "low", "[I", true)
def tyX1 : Nat → FieldType := fun k => match k with
  | 0 => .array .int
  | 1 => .array .int
  | _ => .array .int
abbrev wsX10 : List Cond := u_ws RX1 TX1 3
theorem nmX1 : ∀ a, a < 3 → ∀ b, b < 3 → a ≠ b → (TX1 a).2.1 ≠ (TX1 b).2.1 := by decide +kernel
theorem tyX1_ok : ∀ k, k < 3 → parseFieldDescriptor (TX1 k).2.2.1 = some (tyX1 k) := by decide +kernel
abbrev cX1_init : ByteArray := prog_3_method_1_code
def yX1_init : MethodName := ⟨RX1, "<init>", "()V"⟩
abbrev cX1_hangs : ByteArray := prog_3_method_2_code
def yX1_hangs : MethodName := ⟨RX1, "hangs", "(I)Z"⟩
abbrev cX1_bearsOne : ByteArray := prog_3_method_3_code
def yX1_bearsOne : MethodName := ⟨RX1, "bearsOne", "(I)Z"⟩
abbrev cX1_put : ByteArray := prog_3_method_4_code
def yX1_put : MethodName := ⟨RX1, "put", "(IIII)V"⟩
abbrev cX1_take : ByteArray := prog_3_method_5_code
def yX1_take : MethodName := ⟨RX1, "take", "(I)V"⟩
abbrev cX1_rulingOver : ByteArray := prog_3_method_6_code
def yX1_rulingOver : MethodName := ⟨RX1, "rulingOver", "(I)I"⟩
abbrev cX1_inProportion : ByteArray := prog_3_method_7_code
def yX1_inProportion : MethodName := ⟨RX1, "inProportion", "(II)I"⟩
def RX2 : String := "CornLaws$Lettings"
def TX2 : u_T := fun k => match k with
  | 0 => ("CornLaws$Lettings", "grain", "[I", true)
  | 1 => ("CornLaws$Lettings", "quarters", "[I", true)
  | 2 => ("CornLaws$Lettings", "week", "[I", true)
  | _ => ("CornLaws$Lettings", "size", "I", false)
def tyX2 : Nat → FieldType := fun k => match k with
  | 0 => .array .int
  | 1 => .array .int
  | 2 => .array .int
  | _ => .int
abbrev wsX20 : List Cond := u_ws RX2 TX2 4
theorem nmX2 : ∀ a, a < 4 → ∀ b, b < 4 → a ≠ b → (TX2 a).2.1 ≠ (TX2 b).2.1 := by decide +kernel
theorem tyX2_ok : ∀ k, k < 4 → parseFieldDescriptor (TX2 k).2.2.1 = some (tyX2 k) := by decide +kernel
abbrev cX2_init : ByteArray := prog_4_method_1_code
def yX2_init : MethodName := ⟨RX2, "<init>", "()V"⟩
abbrev cX2_add : ByteArray := prog_4_method_2_code
def yX2_add : MethodName := ⟨RX2, "add", "(III)V"⟩
def RX3 : String := "CornLaws$Returns"
def TX3 : u_T := fun k => match k with
  | 0 => ("CornLaws$Returns", "town", "[I", true)
  | 1 => ("CornLaws$Returns", "grain", "[I", true)
  | 2 => ("CornLaws$Returns", "week", "[I", true)
  | 3 => ("CornLaws$Returns", "quarters", "[I", true)
  | 4 => ("CornLaws$Returns", "price", "[I", true)
  | 5 => ("CornLaws$Returns", "sworn", "[I", true)
  | 6 => ("CornLaws$Returns", "struck", "[I", true)
  | _ => ("CornLaws$Returns", "size", "I", false)
def tyX3 : Nat → FieldType := fun k => match k with
  | 0 => .array .int
  | 1 => .array .int
  | 2 => .array .int
  | 3 => .array .int
  | 4 => .array .int
  | 5 => .array .int
  | 6 => .array .int
  | _ => .int
abbrev wsX30 : List Cond := u_ws RX3 TX3 8
theorem nmX3 : ∀ a, a < 8 → ∀ b, b < 8 → a ≠ b → (TX3 a).2.1 ≠ (TX3 b).2.1 := by decide +kernel
theorem tyX3_ok : ∀ k, k < 8 → parseFieldDescriptor (TX3 k).2.2.1 = some (tyX3 k) := by decide +kernel
abbrev cX3_init : ByteArray := prog_5_method_1_code
def yX3_init : MethodName := ⟨RX3, "<init>", "()V"⟩
abbrev cX3_has : ByteArray := prog_5_method_2_code
def yX3_has : MethodName := ⟨RX3, "has", "(I)Z"⟩
abbrev cX3_add : ByteArray := prog_5_method_3_code
def yX3_add : MethodName := ⟨RX3, "add", "(IIIIII)I"⟩
abbrev cX3_struckOnes : ByteArray := prog_5_method_4_code
def yX3_struckOnes : MethodName := ⟨RX3, "struckOnes", "()I"⟩
abbrev cX3_isKnown : ByteArray := prog_5_method_5_code
def yX3_isKnown : MethodName := ⟨RX3, "isKnown", "(II)Z"⟩
abbrev cX3_weeklyKnown : ByteArray := prog_5_method_6_code
def yX3_weeklyKnown : MethodName := ⟨RX3, "weeklyKnown", "(IIII)I"⟩
abbrev cX3_averageKnown : ByteArray := prog_5_method_7_code
def yX3_averageKnown : MethodName := ⟨RX3, "averageKnown", "(III)I"⟩
abbrev cX3_townsKnown : ByteArray := prog_5_method_8_code
def yX3_townsKnown : MethodName := ⟨RX3, "townsKnown", "(II)I"⟩
def RX4 : String := "CornLaws$Scales"
def TX4 : u_T := fun k => match k with
  | 0 => ("CornLaws$Scales", "grain", "[I", true)
  | 1 => ("CornLaws$Scales", "week", "[I", true)
  | 2 => ("CornLaws$Scales", "told", "[I", true)
  | 3 => ("CornLaws$Scales", "steps", "[I", true)
  | 4 => ("CornLaws$Scales", "stepPrice", "[[I", true)
  | 5 => ("CornLaws$Scales", "stepDuty", "[[I", true)
  | _ => ("CornLaws$Scales", "size", "I", false)
def tyX4 : Nat → FieldType := fun k => match k with
  | 0 => .array .int
  | 1 => .array .int
  | 2 => .array .int
  | 3 => .array .int
  | 4 => .array (.array .int)
  | 5 => .array (.array .int)
  | _ => .int
abbrev wsX40 : List Cond := u_ws RX4 TX4 7
theorem nmX4 : ∀ a, a < 7 → ∀ b, b < 7 → a ≠ b → (TX4 a).2.1 ≠ (TX4 b).2.1 := by decide +kernel
theorem tyX4_ok : ∀ k, k < 7 → parseFieldDescriptor (TX4 k).2.2.1 = some (tyX4 k) := by decide +kernel
abbrev cX4_init : ByteArray := prog_6_method_1_code
def yX4_init : MethodName := ⟨RX4, "<init>", "()V"⟩
abbrev cX4_has : ByteArray := prog_6_method_2_code
def yX4_has : MethodName := ⟨RX4, "has", "(I)Z"⟩
abbrev cX4_isOf : ByteArray := prog_6_method_3_code
def yX4_isOf : MethodName := ⟨RX4, "isOf", "(II)Z"⟩
abbrev cX4_add : ByteArray := prog_6_method_4_code
def yX4_add : MethodName := ⟨RX4, "add", "(III)I"⟩
abbrev cX4_lastPrice : ByteArray := prog_6_method_5_code
def yX4_lastPrice : MethodName := ⟨RX4, "lastPrice", "(I)I"⟩
abbrev cX4_isSettled : ByteArray := prog_6_method_6_code
def yX4_isSettled : MethodName := ⟨RX4, "isSettled", "(II)Z"⟩
abbrev cX4_addStep : ByteArray := prog_6_method_7_code
def yX4_addStep : MethodName := ⟨RX4, "addStep", "(III)I"⟩
abbrev cX4_inForce : ByteArray := prog_6_method_8_code
def yX4_inForce : MethodName := ⟨RX4, "inForce", "(II)I"⟩
abbrev cX4_dutyBy : ByteArray := prog_6_method_9_code
def yX4_dutyBy : MethodName := ⟨RX4, "dutyBy", "(II)I"⟩
def RX5 : String := "CornLaws"
def TX5 : u_T := fun k => match k with
  | 0 => ("CornLaws", "returns", "LCornLaws$Returns;", true)
  | 1 => ("CornLaws", "scales", "LCornLaws$Scales;", true)
  | 2 => ("CornLaws", "hangings", "LCornLaws$Hangings;", true)
  | 3 => ("CornLaws", "cargoes", "LCornLaws$Cargoes;", true)
  | 4 => ("CornLaws", "lettings", "LCornLaws$Lettings;", true)
  | 5 => ("CornLaws", "now", "I", false)
  | 6 => ("CornLaws", "spoilRate", "I", false)
  | _ => ("CornLaws", "paid", "J", false)
def tyX5 : Nat → FieldType := fun k => match k with
  | 0 => .object "CornLaws$Returns"
  | 1 => .object "CornLaws$Scales"
  | 2 => .object "CornLaws$Hangings"
  | 3 => .object "CornLaws$Cargoes"
  | 4 => .object "CornLaws$Lettings"
  | 5 => .int
  | 6 => .int
  | _ => .long
abbrev wsX50 : List Cond := u_ws RX5 TX5 8
theorem nmX5 : ∀ a, a < 8 → ∀ b, b < 8 → a ≠ b → (TX5 a).2.1 ≠ (TX5 b).2.1 := by decide +kernel
theorem tyX5_ok : ∀ k, k < 8 → parseFieldDescriptor (TX5 k).2.2.1 = some (tyX5 k) := by decide +kernel
abbrev cX5_init : ByteArray := prog_1_method_1_code
def yX5_init : MethodName := ⟨RX5, "<init>", "()V"⟩
abbrev cX5_weeks : ByteArray := prog_1_method_2_code
def yX5_weeks : MethodName := ⟨RX5, "weeks", "(I)I"⟩
abbrev cX5_sale : ByteArray := prog_1_method_3_code
def yX5_sale : MethodName := ⟨RX5, "sale", "(IIIII)I"⟩
abbrev cX5_strike : ByteArray := prog_1_method_4_code
def yX5_strike : MethodName := ⟨RX5, "strike", "(I)I"⟩
abbrev cX5_sold : ByteArray := prog_1_method_5_code
def yX5_sold : MethodName := ⟨RX5, "sold", "(II)I"⟩
abbrev cX5_weekly : ByteArray := prog_1_method_6_code
def yX5_weekly : MethodName := ⟨RX5, "weekly", "(III)I"⟩
abbrev cX5_average : ByteArray := prog_1_method_7_code
def yX5_average : MethodName := ⟨RX5, "average", "(II)I"⟩
abbrev cX5_towns : ByteArray := prog_1_method_8_code
def yX5_towns : MethodName := ⟨RX5, "towns", "(II)I"⟩
abbrev cX5_scale : ByteArray := prog_1_method_9_code
def yX5_scale : MethodName := ⟨RX5, "scale", "(II)I"⟩
abbrev cX5_step : ByteArray := prog_1_method_10_code
def yX5_step : MethodName := ⟨RX5, "step", "(III)I"⟩
abbrev cX5_hang : ByteArray := prog_1_method_11_code
def yX5_hang : MethodName := ⟨RX5, "hang", "(IIII)I"⟩
abbrev cX5_unhang : ByteArray := prog_1_method_12_code
def yX5_unhang : MethodName := ⟨RX5, "unhang", "(I)I"⟩
abbrev cX5_force : ByteArray := prog_1_method_13_code
def yX5_force : MethodName := ⟨RX5, "force", "(II)I"⟩
abbrev cX5_duty : ByteArray := prog_1_method_14_code
def yX5_duty : MethodName := ⟨RX5, "duty", "(II)I"⟩
abbrev cX5_cargo : ByteArray := prog_1_method_15_code
def yX5_cargo : MethodName := ⟨RX5, "cargo", "(II)I"⟩
abbrev cX5_spoil : ByteArray := prog_1_method_16_code
def yX5_spoil : MethodName := ⟨RX5, "spoil", "(I)I"⟩
abbrev cX5_letOut : ByteArray := prog_1_method_17_code
def yX5_letOut : MethodName := ⟨RX5, "letOut", "(II)J"⟩
abbrev cX5_ship : ByteArray := prog_1_method_18_code
def yX5_ship : MethodName := ⟨RX5, "ship", "(II)I"⟩
abbrev cX5_bond : ByteArray := prog_1_method_19_code
def yX5_bond : MethodName := ⟨RX5, "bond", "(II)I"⟩
abbrev cX5_chest : ByteArray := prog_1_method_20_code
def yX5_chest : MethodName := ⟨RX5, "chest", "()J"⟩
abbrev cX5_worth : ByteArray := prog_1_method_21_code
def yX5_worth : MethodName := ⟨RX5, "worth", "(I)J"⟩
abbrev cX5_other : ByteArray := prog_1_method_22_code
def yX5_other : MethodName := ⟨RX5, "other", "(I)J"⟩
abbrev cX5_gain : ByteArray := prog_1_method_23_code
def yX5_gain : MethodName := ⟨RX5, "gain", "(III)J"⟩
abbrev cX5_best : ByteArray := prog_1_method_24_code
def yX5_best : MethodName := ⟨RX5, "best", "(III)I"⟩
abbrev cX5_count : ByteArray := prog_1_method_25_code
def yX5_count : MethodName := ⟨RX5, "count", "(I)I"⟩
abbrev cX5_isOutside : ByteArray := prog_1_method_26_code
def yX5_isOutside : MethodName := ⟨RX5, "isOutside", "(III)Z"⟩
abbrev cX5_isNoGrain : ByteArray := prog_1_method_27_code
def yX5_isNoGrain : MethodName := ⟨RX5, "isNoGrain", "(I)Z"⟩
abbrev cX5_dutyAt : ByteArray := prog_1_method_28_code
def yX5_dutyAt : MethodName := ⟨RX5, "dutyAt", "(IIII)I"⟩
abbrev cX5_chestAnew : ByteArray := prog_1_method_29_code
def yX5_chestAnew : MethodName := ⟨RX5, "chestAnew", "(II)J"⟩
abbrev cX5_gainAt : ByteArray := prog_1_method_30_code
def yX5_gainAt : MethodName := ⟨RX5, "gainAt", "(III)J"⟩
def RX6 : String := "CornLawsModel"
def TX6 : u_T := fun k => match k with
  | 0 => ("CornLawsModel", "week", "I", false)
  | 1 => ("CornLawsModel", "returns", "I", false)
  | 2 => ("CornLawsModel", "town", "[I", true)
  | 3 => ("CornLawsModel", "grain", "[I", true)
  | 4 => ("CornLawsModel", "forWeek", "[I", true)
  | 5 => ("CornLawsModel", "quarters", "[I", true)
  | 6 => ("CornLawsModel", "price", "[I", true)
  | 7 => ("CornLawsModel", "sworn", "[I", true)
  | 8 => ("CornLawsModel", "struck", "[I", true)
  | 9 => ("CornLawsModel", "scales", "I", false)
  | 10 => ("CornLawsModel", "scaleGrain", "[I", true)
  | 11 => ("CornLawsModel", "scaleWeek", "[I", true)
  | 12 => ("CornLawsModel", "scaleTold", "[I", true)
  | 13 => ("CornLawsModel", "stepMany", "[I", true)
  | 14 => ("CornLawsModel", "stepPrice", "[I", true)
  | 15 => ("CornLawsModel", "stepDuty", "[I", true)
  | 16 => ("CornLawsModel", "hangsOn", "[I", true)
  | 17 => ("CornLawsModel", "hangUp", "[I", true)
  | 18 => ("CornLawsModel", "hangLow", "[I", true)
  | 19 => ("CornLawsModel", "cargoes", "I", false)
  | 20 => ("CornLawsModel", "cargoGrain", "[I", true)
  | 21 => ("CornLawsModel", "cargoBond", "[I", true)
  | 22 => ("CornLawsModel", "cargoOut", "[I", true)
  | 23 => ("CornLawsModel", "cargoShipped", "[I", true)
  | 24 => ("CornLawsModel", "cargoSpoilt", "[I", true)
  | 25 => ("CornLawsModel", "cargoWeek", "[I", true)
  | 26 => ("CornLawsModel", "spoils", "I", false)
  | 27 => ("CornLawsModel", "lettings", "I", false)
  | 28 => ("CornLawsModel", "letGrain", "[I", true)
  | 29 => ("CornLawsModel", "letWeek", "[I", true)
  | 30 => ("CornLawsModel", "letMany", "[I", true)
  | 31 => ("CornLawsModel", "chest", "J", false)
  | 32 => ("CornLawsModel", "without", "I", false)
  | _ => ("CornLawsModel", "always", "I", false)
def tyX6 : Nat → FieldType := fun k => match k with
  | 0 => .int
  | 1 => .int
  | 2 => .array .int
  | 3 => .array .int
  | 4 => .array .int
  | 5 => .array .int
  | 6 => .array .int
  | 7 => .array .int
  | 8 => .array .int
  | 9 => .int
  | 10 => .array .int
  | 11 => .array .int
  | 12 => .array .int
  | 13 => .array .int
  | 14 => .array .int
  | 15 => .array .int
  | 16 => .array .int
  | 17 => .array .int
  | 18 => .array .int
  | 19 => .int
  | 20 => .array .int
  | 21 => .array .int
  | 22 => .array .int
  | 23 => .array .int
  | 24 => .array .int
  | 25 => .array .int
  | 26 => .int
  | 27 => .int
  | 28 => .array .int
  | 29 => .array .int
  | 30 => .array .int
  | 31 => .long
  | 32 => .int
  | _ => .int
abbrev wsX60 : List Cond := u_ws RX6 TX6 34
theorem nmX6 : ∀ a, a < 34 → ∀ b, b < 34 → a ≠ b → (TX6 a).2.1 ≠ (TX6 b).2.1 := by decide +kernel
theorem tyX6_ok : ∀ k, k < 34 → parseFieldDescriptor (TX6 k).2.2.1 = some (tyX6 k) := by decide +kernel
abbrev cX6_init : ByteArray := prog_8_method_1_code
def yX6_init : MethodName := ⟨RX6, "<init>", "()V"⟩
abbrev cX6_in : ByteArray := prog_8_method_2_code
def yX6_in : MethodName := ⟨RX6, "in", "(III)Z"⟩
abbrev cX6_isGrain : ByteArray := prog_8_method_3_code
def yX6_isGrain : MethodName := ⟨RX6, "isGrain", "(I)Z"⟩
abbrev cX6_weeks : ByteArray := prog_8_method_4_code
def yX6_weeks : MethodName := ⟨RX6, "weeks", "(I)I"⟩
abbrev cX6_sale : ByteArray := prog_8_method_5_code
def yX6_sale : MethodName := ⟨RX6, "sale", "(IIIII)I"⟩
abbrev cX6_strike : ByteArray := prog_8_method_6_code
def yX6_strike : MethodName := ⟨RX6, "strike", "(I)I"⟩
abbrev cX6_sold : ByteArray := prog_8_method_7_code
def yX6_sold : MethodName := ⟨RX6, "sold", "(II)I"⟩
abbrev cX6_isKnown : ByteArray := prog_8_method_8_code
def yX6_isKnown : MethodName := ⟨RX6, "isKnown", "(II)Z"⟩
abbrev cX6_weeklyAt : ByteArray := prog_8_method_9_code
def yX6_weeklyAt : MethodName := ⟨RX6, "weeklyAt", "(III)I"⟩
abbrev cX6_weekly : ByteArray := prog_8_method_10_code
def yX6_weekly : MethodName := ⟨RX6, "weekly", "(III)I"⟩
abbrev cX6_averageAt : ByteArray := prog_8_method_11_code
def yX6_averageAt : MethodName := ⟨RX6, "averageAt", "(III)I"⟩
abbrev cX6_average : ByteArray := prog_8_method_12_code
def yX6_average : MethodName := ⟨RX6, "average", "(II)I"⟩
abbrev cX6_towns : ByteArray := prog_8_method_13_code
def yX6_towns : MethodName := ⟨RX6, "towns", "(II)I"⟩
abbrev cX6_scale : ByteArray := prog_8_method_14_code
def yX6_scale : MethodName := ⟨RX6, "scale", "(II)I"⟩
abbrev cX6_isScale : ByteArray := prog_8_method_15_code
def yX6_isScale : MethodName := ⟨RX6, "isScale", "(I)Z"⟩
abbrev cX6_step : ByteArray := prog_8_method_16_code
def yX6_step : MethodName := ⟨RX6, "step", "(III)I"⟩
abbrev cX6_hang : ByteArray := prog_8_method_17_code
def yX6_hang : MethodName := ⟨RX6, "hang", "(IIII)I"⟩
abbrev cX6_unhang : ByteArray := prog_8_method_18_code
def yX6_unhang : MethodName := ⟨RX6, "unhang", "(I)I"⟩
abbrev cX6_forceAt : ByteArray := prog_8_method_19_code
def yX6_forceAt : MethodName := ⟨RX6, "forceAt", "(II)I"⟩
abbrev cX6_force : ByteArray := prog_8_method_20_code
def yX6_force : MethodName := ⟨RX6, "force", "(II)I"⟩
abbrev cX6_ownDuty : ByteArray := prog_8_method_21_code
def yX6_ownDuty : MethodName := ⟨RX6, "ownDuty", "(III)I"⟩
abbrev cX6_dutyAt : ByteArray := prog_8_method_22_code
def yX6_dutyAt : MethodName := ⟨RX6, "dutyAt", "(III)I"⟩
abbrev cX6_duty : ByteArray := prog_8_method_23_code
def yX6_duty : MethodName := ⟨RX6, "duty", "(II)I"⟩
abbrev cX6_cargo : ByteArray := prog_8_method_24_code
def yX6_cargo : MethodName := ⟨RX6, "cargo", "(II)I"⟩
abbrev cX6_isCargo : ByteArray := prog_8_method_25_code
def yX6_isCargo : MethodName := ⟨RX6, "isCargo", "(I)Z"⟩
abbrev cX6_spoil : ByteArray := prog_8_method_26_code
def yX6_spoil : MethodName := ⟨RX6, "spoil", "(I)I"⟩
abbrev cX6_letOut : ByteArray := prog_8_method_27_code
def yX6_letOut : MethodName := ⟨RX6, "letOut", "(II)J"⟩
abbrev cX6_ship : ByteArray := prog_8_method_28_code
def yX6_ship : MethodName := ⟨RX6, "ship", "(II)I"⟩
abbrev cX6_bond : ByteArray := prog_8_method_29_code
def yX6_bond : MethodName := ⟨RX6, "bond", "(II)I"⟩
abbrev cX6_chest : ByteArray := prog_8_method_30_code
def yX6_chest : MethodName := ⟨RX6, "chest", "()J"⟩
abbrev cX6_paidAnew : ByteArray := prog_8_method_31_code
def yX6_paidAnew : MethodName := ⟨RX6, "paidAnew", "()J"⟩
abbrev cX6_worth : ByteArray := prog_8_method_32_code
def yX6_worth : MethodName := ⟨RX6, "worth", "(I)J"⟩
abbrev cX6_other : ByteArray := prog_8_method_33_code
def yX6_other : MethodName := ⟨RX6, "other", "(I)J"⟩
abbrev cX6_gainAt : ByteArray := prog_8_method_34_code
def yX6_gainAt : MethodName := ⟨RX6, "gainAt", "(III)J"⟩
abbrev cX6_gain : ByteArray := prog_8_method_35_code
def yX6_gain : MethodName := ⟨RX6, "gain", "(III)J"⟩
abbrev cX6_best : ByteArray := prog_8_method_36_code
def yX6_best : MethodName := ⟨RX6, "best", "(III)I"⟩
abbrev cX6_count : ByteArray := prog_8_method_37_code
def yX6_count : MethodName := ⟨RX6, "count", "(I)I"⟩
def RJ6 : String := "java/lang/Integer"
def TJ6 : u_T := fun k => match k with
  | _ => ("", "", "", false)
def tyJ6 : Nat → FieldType := fun k => match k with
  | _ => .int
abbrev wsJ60 : List Cond := u_ws RJ6 TJ6 0
theorem nmJ6 : ∀ a, a < 0 → ∀ b, b < 0 → a ≠ b → (TJ6 a).2.1 ≠ (TJ6 b).2.1 := by decide +kernel
theorem tyJ6_ok : ∀ k, k < 0 → parseFieldDescriptor (TJ6 k).2.2.1 = some (tyJ6 k) := by decide +kernel
abbrev cJ6_bitCount_0f7a4 : ByteArray := prog_9_method_49_code
def yJ6_bitCount_0f7a4 : MethodName := ⟨RJ6, "bitCount", "(I)I"⟩
def RL : String := "CornLawsLaw"
abbrev cL_law : ByteArray := code
def yL_law : MethodName := ⟨RL, "law", "([I)Z"⟩
def wsX0_init : List Cond := .code yX0_init cX0_init 1 none :: ([.methodLink RX0 3 objectInit, .instanceMethod objectInit, .code objectInit ⟨#[0xb1]⟩ 1 none, .arrayClass .int, .fieldLink RX0 9 "CornLaws$Cargoes" "grain" "[I", .fieldLink RX0 15 "CornLaws$Cargoes" "inBond" "[I", .fieldLink RX0 18 "CornLaws$Cargoes" "out" "[I", .fieldLink RX0 21 "CornLaws$Cargoes" "shipped" "[I", .fieldLink RX0 24 "CornLaws$Cargoes" "spoilt" "[I", .fieldLink RX0 27 "CornLaws$Cargoes" "came" "[I"] ++ wsX00)
def wsX0_has : List Cond := .code yX0_has cX0_has 2 (some .boolean) :: ([.fieldLink RX0 30 "CornLaws$Cargoes" "size" "I"] ++ wsX00)
def wsX0_add : List Cond := .code yX0_add cX0_add 5 (some .int) :: ([.fieldLink RX0 30 "CornLaws$Cargoes" "size" "I", .fieldLink RX0 9 "CornLaws$Cargoes" "grain" "[I", .fieldLink RX0 15 "CornLaws$Cargoes" "inBond" "[I", .fieldLink RX0 27 "CornLaws$Cargoes" "came" "[I"] ++ wsX00)
def wsX0_lossOf : List Cond := .code yX0_lossOf cX0_lossOf 2 (some .int) :: ([])
def wsX0_spoilAll : List Cond := .code yX0_spoilAll cX0_spoilAll 4 none :: ([.fieldLink RX0 30 "CornLaws$Cargoes" "size" "I", .fieldLink RX0 15 "CornLaws$Cargoes" "inBond" "[I", .fieldLink RX0 24 "CornLaws$Cargoes" "spoilt" "[I", .methodLink RX0 34 yX0_lossOf, .static yX0_lossOf, .initialized RX0, .code yX0_lossOf cX0_lossOf 2 (some .int)] ++ wsX00)
def wsX0_leftAfter : List Cond := .code yX0_leftAfter cX0_leftAfter 6 (some .int) :: ([.fieldLink RX0 15 "CornLaws$Cargoes" "inBond" "[I", .methodLink RX0 34 yX0_lossOf, .static yX0_lossOf, .initialized RX0, .code yX0_lossOf cX0_lossOf 2 (some .int)] ++ wsX00)
def wsX1_init : List Cond := .code yX1_init cX1_init 1 none :: ([.methodLink RX1 3 objectInit, .instanceMethod objectInit, .code objectInit ⟨#[0xb1]⟩ 1 none, .arrayClass .int, .fieldLink RX1 9 "CornLaws$Hangings" "on" "[I", .fieldLink RX1 15 "CornLaws$Hangings" "up" "[I", .fieldLink RX1 18 "CornLaws$Hangings" "low" "[I"] ++ wsX10)
def wsX1_hangs : List Cond := .code yX1_hangs cX1_hangs 2 (some .boolean) :: ([.fieldLink RX1 18 "CornLaws$Hangings" "low" "[I"] ++ wsX10)
def wsX1_bearsOne : List Cond := .code yX1_bearsOne cX1_bearsOne 3 (some .boolean) :: ([.fieldLink RX1 9 "CornLaws$Hangings" "on" "[I", .methodLink RX1 21 yX1_hangs, .instanceMethod yX1_hangs, .selects RX1 yX1_hangs yX1_hangs, .initialized RX1, .code yX1_hangs cX1_hangs 2 (some .boolean), .fieldLink RX1 18 "CornLaws$Hangings" "low" "[I"] ++ wsX10)
def wsX1_put : List Cond := .code yX1_put cX1_put 5 none :: ([.fieldLink RX1 9 "CornLaws$Hangings" "on" "[I", .fieldLink RX1 15 "CornLaws$Hangings" "up" "[I", .fieldLink RX1 18 "CornLaws$Hangings" "low" "[I"] ++ wsX10)
def wsX1_take : List Cond := .code yX1_take cX1_take 2 none :: ([.fieldLink RX1 18 "CornLaws$Hangings" "low" "[I"] ++ wsX10)
def wsX1_rulingOver : List Cond := .code yX1_rulingOver cX1_rulingOver 2 (some .int) :: ([.fieldLink RX1 9 "CornLaws$Hangings" "on" "[I", .methodLink RX1 21 yX1_hangs, .instanceMethod yX1_hangs, .selects RX1 yX1_hangs yX1_hangs, .initialized RX1, .code yX1_hangs cX1_hangs 2 (some .boolean), .fieldLink RX1 18 "CornLaws$Hangings" "low" "[I"] ++ wsX10)
def wsX1_inProportion : List Cond := .code yX1_inProportion cX1_inProportion 3 (some .int) :: ([.fieldLink RX1 15 "CornLaws$Hangings" "up" "[I", .fieldLink RX1 18 "CornLaws$Hangings" "low" "[I", .methodLink RX1 21 yX1_hangs, .instanceMethod yX1_hangs, .selects RX1 yX1_hangs yX1_hangs, .initialized RX1, .code yX1_hangs cX1_hangs 2 (some .boolean)] ++ wsX10)
def wsX2_init : List Cond := .code yX2_init cX2_init 1 none :: ([.methodLink RX2 3 objectInit, .instanceMethod objectInit, .code objectInit ⟨#[0xb1]⟩ 1 none, .arrayClass .int, .fieldLink RX2 9 "CornLaws$Lettings" "grain" "[I", .fieldLink RX2 15 "CornLaws$Lettings" "quarters" "[I", .fieldLink RX2 18 "CornLaws$Lettings" "week" "[I"] ++ wsX20)
def wsX2_add : List Cond := .code yX2_add cX2_add 4 none :: ([.fieldLink RX2 9 "CornLaws$Lettings" "grain" "[I", .fieldLink RX2 21 "CornLaws$Lettings" "size" "I", .fieldLink RX2 15 "CornLaws$Lettings" "quarters" "[I", .fieldLink RX2 18 "CornLaws$Lettings" "week" "[I"] ++ wsX20)
def wsX3_init : List Cond := .code yX3_init cX3_init 1 none :: ([.methodLink RX3 3 objectInit, .instanceMethod objectInit, .code objectInit ⟨#[0xb1]⟩ 1 none, .arrayClass .int, .fieldLink RX3 9 "CornLaws$Returns" "town" "[I", .fieldLink RX3 15 "CornLaws$Returns" "grain" "[I", .fieldLink RX3 18 "CornLaws$Returns" "week" "[I", .fieldLink RX3 21 "CornLaws$Returns" "quarters" "[I", .fieldLink RX3 24 "CornLaws$Returns" "price" "[I", .fieldLink RX3 27 "CornLaws$Returns" "sworn" "[I", .fieldLink RX3 30 "CornLaws$Returns" "struck" "[I"] ++ wsX30)
def wsX3_has : List Cond := .code yX3_has cX3_has 2 (some .boolean) :: ([.fieldLink RX3 33 "CornLaws$Returns" "size" "I"] ++ wsX30)
def wsX3_add : List Cond := .code yX3_add cX3_add 8 (some .int) :: ([.fieldLink RX3 33 "CornLaws$Returns" "size" "I", .fieldLink RX3 9 "CornLaws$Returns" "town" "[I", .fieldLink RX3 15 "CornLaws$Returns" "grain" "[I", .fieldLink RX3 18 "CornLaws$Returns" "week" "[I", .fieldLink RX3 21 "CornLaws$Returns" "quarters" "[I", .fieldLink RX3 24 "CornLaws$Returns" "price" "[I", .fieldLink RX3 27 "CornLaws$Returns" "sworn" "[I", .fieldLink RX3 30 "CornLaws$Returns" "struck" "[I"] ++ wsX30)
def wsX3_struckOnes : List Cond := .code yX3_struckOnes cX3_struckOnes 3 (some .int) :: ([.fieldLink RX3 33 "CornLaws$Returns" "size" "I", .fieldLink RX3 30 "CornLaws$Returns" "struck" "[I"] ++ wsX30)
def wsX3_isKnown : List Cond := .code yX3_isKnown cX3_isKnown 3 (some .boolean) :: ([.fieldLink RX3 27 "CornLaws$Returns" "sworn" "[I", .fieldLink RX3 30 "CornLaws$Returns" "struck" "[I"] ++ wsX30)
def wsX3_weeklyKnown : List Cond := .code yX3_weeklyKnown cX3_weeklyKnown 9 (some .int) :: ([.fieldLink RX3 33 "CornLaws$Returns" "size" "I", .fieldLink RX3 15 "CornLaws$Returns" "grain" "[I", .fieldLink RX3 18 "CornLaws$Returns" "week" "[I", .fieldLink RX3 24 "CornLaws$Returns" "price" "[I", .fieldLink RX3 21 "CornLaws$Returns" "quarters" "[I", .methodLink RX3 37 yX3_isKnown, .instanceMethod yX3_isKnown, .selects RX3 yX3_isKnown yX3_isKnown, .initialized RX3, .code yX3_isKnown cX3_isKnown 3 (some .boolean), .fieldLink RX3 27 "CornLaws$Returns" "sworn" "[I", .fieldLink RX3 30 "CornLaws$Returns" "struck" "[I"] ++ wsX30)
def wsX3_averageKnown : List Cond := .code yX3_averageKnown cX3_averageKnown 7 (some .int) :: ([.methodLink RX3 41 yX3_weeklyKnown, .instanceMethod yX3_weeklyKnown, .selects RX3 yX3_weeklyKnown yX3_weeklyKnown, .initialized RX3, .code yX3_weeklyKnown cX3_weeklyKnown 9 (some .int), .fieldLink RX3 33 "CornLaws$Returns" "size" "I", .fieldLink RX3 15 "CornLaws$Returns" "grain" "[I", .fieldLink RX3 18 "CornLaws$Returns" "week" "[I", .fieldLink RX3 24 "CornLaws$Returns" "price" "[I", .fieldLink RX3 21 "CornLaws$Returns" "quarters" "[I", .methodLink RX3 37 yX3_isKnown, .instanceMethod yX3_isKnown, .selects RX3 yX3_isKnown yX3_isKnown, .code yX3_isKnown cX3_isKnown 3 (some .boolean), .fieldLink RX3 27 "CornLaws$Returns" "sworn" "[I", .fieldLink RX3 30 "CornLaws$Returns" "struck" "[I"] ++ wsX30)
def wsJ6_bitCount_0f7a4 : List Cond := .code yJ6_bitCount_0f7a4 cJ6_bitCount_0f7a4 1 (some .int) :: ([.constant RJ6 265 (1431655765), .constant RJ6 266 (858993459), .constant RJ6 267 (252645135)])
def wsX3_townsKnown : List Cond := .code yX3_townsKnown cX3_townsKnown 5 (some .int) :: ([.fieldLink RX3 33 "CornLaws$Returns" "size" "I", .fieldLink RX3 18 "CornLaws$Returns" "week" "[I", .fieldLink RX3 9 "CornLaws$Returns" "town" "[I", .methodLink RX3 37 yX3_isKnown, .instanceMethod yX3_isKnown, .selects RX3 yX3_isKnown yX3_isKnown, .initialized RX3, .code yX3_isKnown cX3_isKnown 3 (some .boolean), .fieldLink RX3 27 "CornLaws$Returns" "sworn" "[I", .fieldLink RX3 30 "CornLaws$Returns" "struck" "[I", .methodLink RX3 45 yJ6_bitCount_0f7a4, .static yJ6_bitCount_0f7a4, .initialized RJ6, .code yJ6_bitCount_0f7a4 cJ6_bitCount_0f7a4 1 (some .int), .constant RJ6 265 (1431655765), .constant RJ6 266 (858993459), .constant RJ6 267 (252645135)] ++ wsX30)
def wsX4_init : List Cond := .code yX4_init cX4_init 1 none :: ([.methodLink RX4 3 objectInit, .instanceMethod objectInit, .code objectInit ⟨#[0xb1]⟩ 1 none, .arrayClass .int, .fieldLink RX4 9 "CornLaws$Scales" "grain" "[I", .fieldLink RX4 15 "CornLaws$Scales" "week" "[I", .fieldLink RX4 18 "CornLaws$Scales" "told" "[I", .fieldLink RX4 21 "CornLaws$Scales" "steps" "[I", .classLink RX4 24 "[[I", .fieldLink RX4 26 "CornLaws$Scales" "stepPrice" "[[I", .fieldLink RX4 29 "CornLaws$Scales" "stepDuty" "[[I"] ++ wsX40)
def wsX4_has : List Cond := .code yX4_has cX4_has 2 (some .boolean) :: ([.fieldLink RX4 32 "CornLaws$Scales" "size" "I"] ++ wsX40)
def wsX4_isOf : List Cond := .code yX4_isOf cX4_isOf 3 (some .boolean) :: ([.fieldLink RX4 9 "CornLaws$Scales" "grain" "[I", .methodLink RX4 36 yX4_has, .instanceMethod yX4_has, .selects RX4 yX4_has yX4_has, .initialized RX4, .code yX4_has cX4_has 2 (some .boolean), .fieldLink RX4 32 "CornLaws$Scales" "size" "I"] ++ wsX40)
def wsX4_add : List Cond := .code yX4_add cX4_add 5 (some .int) :: ([.fieldLink RX4 32 "CornLaws$Scales" "size" "I", .fieldLink RX4 9 "CornLaws$Scales" "grain" "[I", .fieldLink RX4 15 "CornLaws$Scales" "week" "[I", .fieldLink RX4 18 "CornLaws$Scales" "told" "[I"] ++ wsX40)
def wsX4_lastPrice : List Cond := .code yX4_lastPrice cX4_lastPrice 2 (some .int) :: ([.fieldLink RX4 21 "CornLaws$Scales" "steps" "[I", .fieldLink RX4 26 "CornLaws$Scales" "stepPrice" "[[I"] ++ wsX40)
def wsX4_isSettled : List Cond := .code yX4_isSettled cX4_isSettled 3 (some .boolean) :: ([.fieldLink RX4 15 "CornLaws$Scales" "week" "[I", .fieldLink RX4 18 "CornLaws$Scales" "told" "[I"] ++ wsX40)
def wsX4_addStep : List Cond := .code yX4_addStep cX4_addStep 4 (some .int) :: ([.fieldLink RX4 26 "CornLaws$Scales" "stepPrice" "[[I", .fieldLink RX4 21 "CornLaws$Scales" "steps" "[I", .fieldLink RX4 29 "CornLaws$Scales" "stepDuty" "[[I"] ++ wsX40)
def wsX4_inForce : List Cond := .code yX4_inForce cX4_inForce 6 (some .int) :: ([.fieldLink RX4 32 "CornLaws$Scales" "size" "I", .fieldLink RX4 9 "CornLaws$Scales" "grain" "[I", .fieldLink RX4 21 "CornLaws$Scales" "steps" "[I", .fieldLink RX4 15 "CornLaws$Scales" "week" "[I"] ++ wsX40)
def wsX4_dutyBy : List Cond := .code yX4_dutyBy cX4_dutyBy 5 (some .int) :: ([.fieldLink RX4 21 "CornLaws$Scales" "steps" "[I", .fieldLink RX4 29 "CornLaws$Scales" "stepDuty" "[[I", .fieldLink RX4 26 "CornLaws$Scales" "stepPrice" "[[I", .methodLink RX4 36 yX4_has, .instanceMethod yX4_has, .selects RX4 yX4_has yX4_has, .initialized RX4, .code yX4_has cX4_has 2 (some .boolean), .fieldLink RX4 32 "CornLaws$Scales" "size" "I"] ++ wsX40)
def wsX5_init_r1 : List Cond := [Cond.methodLink RX5 3 objectInit, Cond.instanceMethod objectInit, Cond.code objectInit ⟨#[0xb1]⟩ 1 none, Cond.classLink RX5 9 RX3, Cond.instantiable RX3 8, Cond.initialized RX3, Cond.fieldLink RX5 12 "CornLaws" "returns" "LCornLaws$Returns;", Cond.classLink RX5 16 RX4, Cond.instantiable RX4 7, Cond.initialized RX4, Cond.fieldLink RX5 19 "CornLaws" "scales" "LCornLaws$Scales;", Cond.classLink RX5 23 RX1, Cond.instantiable RX1 3, Cond.initialized RX1, Cond.fieldLink RX5 26 "CornLaws" "hangings" "LCornLaws$Hangings;", Cond.classLink RX5 30 RX0, Cond.instantiable RX0 7, Cond.initialized RX0, Cond.fieldLink RX5 33 "CornLaws" "cargoes" "LCornLaws$Cargoes;", Cond.classLink RX5 37 RX2, Cond.instantiable RX2 4, Cond.initialized RX2, Cond.fieldLink RX5 40 "CornLaws" "lettings" "LCornLaws$Lettings;", Cond.instanceMethod yX3_init]
def wsX5_init_r2 : List Cond := [Cond.code yX3_init cX3_init 1 none, Cond.methodLink RX3 3 objectInit, Cond.arrayClass .int, Cond.fieldLink RX3 9 "CornLaws$Returns" "town" "[I", Cond.fieldLink RX3 15 "CornLaws$Returns" "grain" "[I", Cond.fieldLink RX3 18 "CornLaws$Returns" "week" "[I", Cond.fieldLink RX3 21 "CornLaws$Returns" "quarters" "[I", Cond.fieldLink RX3 24 "CornLaws$Returns" "price" "[I", Cond.fieldLink RX3 27 "CornLaws$Returns" "sworn" "[I", Cond.fieldLink RX3 30 "CornLaws$Returns" "struck" "[I", Cond.instanceMethod yX4_init, Cond.code yX4_init cX4_init 1 none, Cond.methodLink RX4 3 objectInit, Cond.fieldLink RX4 9 "CornLaws$Scales" "grain" "[I", Cond.fieldLink RX4 15 "CornLaws$Scales" "week" "[I", Cond.fieldLink RX4 18 "CornLaws$Scales" "told" "[I", Cond.fieldLink RX4 21 "CornLaws$Scales" "steps" "[I", Cond.classLink RX4 24 "[[I", Cond.fieldLink RX4 26 "CornLaws$Scales" "stepPrice" "[[I", Cond.fieldLink RX4 29 "CornLaws$Scales" "stepDuty" "[[I", Cond.instanceMethod yX1_init, Cond.code yX1_init cX1_init 1 none, Cond.methodLink RX1 3 objectInit, Cond.fieldLink RX1 9 "CornLaws$Hangings" "on" "[I"]
def wsX5_init_r3 : List Cond := [Cond.fieldLink RX1 15 "CornLaws$Hangings" "up" "[I", Cond.fieldLink RX1 18 "CornLaws$Hangings" "low" "[I", Cond.instanceMethod yX0_init, Cond.code yX0_init cX0_init 1 none, Cond.methodLink RX0 3 objectInit, Cond.fieldLink RX0 9 "CornLaws$Cargoes" "grain" "[I", Cond.fieldLink RX0 15 "CornLaws$Cargoes" "inBond" "[I", Cond.fieldLink RX0 18 "CornLaws$Cargoes" "out" "[I", Cond.fieldLink RX0 21 "CornLaws$Cargoes" "shipped" "[I", Cond.fieldLink RX0 24 "CornLaws$Cargoes" "spoilt" "[I", Cond.fieldLink RX0 27 "CornLaws$Cargoes" "came" "[I", Cond.instanceMethod yX2_init, Cond.code yX2_init cX2_init 1 none, Cond.methodLink RX2 3 objectInit, Cond.fieldLink RX2 9 "CornLaws$Lettings" "grain" "[I", Cond.fieldLink RX2 15 "CornLaws$Lettings" "quarters" "[I", Cond.fieldLink RX2 18 "CornLaws$Lettings" "week" "[I"]
def wsX5_init : List Cond := .code yX5_init cX5_init 1 none :: ((wsX5_init_r1 ++ (wsX5_init_r2 ++ wsX5_init_r3)) ++ wsX30 ++ wsX50 ++ wsX40 ++ wsX10 ++ wsX00 ++ wsX20)
def wsX5_isOutside : List Cond := .code yX5_isOutside cX5_isOutside 3 (some .boolean) :: ([])
def wsX5_weeks : List Cond := .code yX5_weeks cX5_weeks 3 (some .int) :: ([.fieldLink RX5 48 "CornLaws" "now" "I", .fieldLink RX5 33 "CornLaws" "cargoes" "LCornLaws$Cargoes;", .fieldLink RX5 52 "CornLaws" "spoilRate" "I", .methodLink RX5 44 yX5_isOutside, .static yX5_isOutside, .initialized RX5, .code yX5_isOutside cX5_isOutside 3 (some .boolean), .methodLink RX5 55 yX0_spoilAll, .instanceMethod yX0_spoilAll, .selects RX0 yX0_spoilAll yX0_spoilAll, .initialized RX0, .code yX0_spoilAll cX0_spoilAll 4 none, .fieldLink RX0 30 "CornLaws$Cargoes" "size" "I", .fieldLink RX0 15 "CornLaws$Cargoes" "inBond" "[I", .fieldLink RX0 24 "CornLaws$Cargoes" "spoilt" "[I", .methodLink RX0 34 yX0_lossOf, .static yX0_lossOf, .code yX0_lossOf cX0_lossOf 2 (some .int)] ++ wsX50 ++ wsX00)
def wsX5_isNoGrain : List Cond := .code yX5_isNoGrain cX5_isNoGrain 1 (some .boolean) :: ([.methodLink RX5 44 yX5_isOutside, .static yX5_isOutside, .initialized RX5, .code yX5_isOutside cX5_isOutside 3 (some .boolean)])
def wsX5_sale : List Cond := .code yX5_sale cX5_sale 6 (some .int) :: ([.fieldLink RX5 48 "CornLaws" "now" "I", .fieldLink RX5 12 "CornLaws" "returns" "LCornLaws$Returns;", .fieldLink RX5 63 "CornLaws$Returns" "size" "I", .methodLink RX5 44 yX5_isOutside, .static yX5_isOutside, .initialized RX5, .code yX5_isOutside cX5_isOutside 3 (some .boolean), .methodLink RX5 59 yX5_isNoGrain, .static yX5_isNoGrain, .code yX5_isNoGrain cX5_isNoGrain 1 (some .boolean), .methodLink RX5 66 yX3_add, .instanceMethod yX3_add, .selects RX3 yX3_add yX3_add, .initialized RX3, .code yX3_add cX3_add 8 (some .int), .fieldLink RX3 33 "CornLaws$Returns" "size" "I", .fieldLink RX3 9 "CornLaws$Returns" "town" "[I", .fieldLink RX3 15 "CornLaws$Returns" "grain" "[I", .fieldLink RX3 18 "CornLaws$Returns" "week" "[I", .fieldLink RX3 21 "CornLaws$Returns" "quarters" "[I", .fieldLink RX3 24 "CornLaws$Returns" "price" "[I", .fieldLink RX3 27 "CornLaws$Returns" "sworn" "[I", .fieldLink RX3 30 "CornLaws$Returns" "struck" "[I"] ++ wsX50 ++ wsX30)
def wsX5_strike : List Cond := .code yX5_strike cX5_strike 2 (some .int) :: ([.fieldLink RX5 12 "CornLaws" "returns" "LCornLaws$Returns;", .fieldLink RX5 73 "CornLaws$Returns" "struck" "[I", .fieldLink RX5 48 "CornLaws" "now" "I", .methodLink RX5 70 yX3_has, .instanceMethod yX3_has, .selects RX3 yX3_has yX3_has, .initialized RX3, .code yX3_has cX3_has 2 (some .boolean), .fieldLink RX3 33 "CornLaws$Returns" "size" "I"] ++ wsX50 ++ wsX30)
def wsX5_sold : List Cond := .code yX5_sold cX5_sold 3 (some .int) :: ([.fieldLink RX5 12 "CornLaws" "returns" "LCornLaws$Returns;", .fieldLink RX5 77 "CornLaws$Returns" "town" "[I", .fieldLink RX5 80 "CornLaws$Returns" "grain" "[I", .fieldLink RX5 83 "CornLaws$Returns" "week" "[I", .fieldLink RX5 86 "CornLaws$Returns" "quarters" "[I", .fieldLink RX5 89 "CornLaws$Returns" "price" "[I", .fieldLink RX5 92 "CornLaws$Returns" "sworn" "[I", .fieldLink RX5 73 "CornLaws$Returns" "struck" "[I", .methodLink RX5 70 yX3_has, .instanceMethod yX3_has, .selects RX3 yX3_has yX3_has, .initialized RX3, .code yX3_has cX3_has 2 (some .boolean), .fieldLink RX3 33 "CornLaws$Returns" "size" "I"] ++ wsX50 ++ wsX30)
def wsX5_weekly : List Cond := .code yX5_weekly cX5_weekly 4 (some .int) :: ([.fieldLink RX5 12 "CornLaws" "returns" "LCornLaws$Returns;", .methodLink RX5 59 yX5_isNoGrain, .static yX5_isNoGrain, .initialized RX5, .code yX5_isNoGrain cX5_isNoGrain 1 (some .boolean), .methodLink RX5 44 yX5_isOutside, .static yX5_isOutside, .code yX5_isOutside cX5_isOutside 3 (some .boolean), .methodLink RX5 95 yX3_weeklyKnown, .instanceMethod yX3_weeklyKnown, .selects RX3 yX3_weeklyKnown yX3_weeklyKnown, .initialized RX3, .code yX3_weeklyKnown cX3_weeklyKnown 9 (some .int), .fieldLink RX3 33 "CornLaws$Returns" "size" "I", .fieldLink RX3 15 "CornLaws$Returns" "grain" "[I", .fieldLink RX3 18 "CornLaws$Returns" "week" "[I", .fieldLink RX3 24 "CornLaws$Returns" "price" "[I", .fieldLink RX3 21 "CornLaws$Returns" "quarters" "[I", .methodLink RX3 37 yX3_isKnown, .instanceMethod yX3_isKnown, .selects RX3 yX3_isKnown yX3_isKnown, .code yX3_isKnown cX3_isKnown 3 (some .boolean), .fieldLink RX3 27 "CornLaws$Returns" "sworn" "[I", .fieldLink RX3 30 "CornLaws$Returns" "struck" "[I"] ++ wsX50 ++ wsX30)
def wsX5_average_r1 : List Cond := [Cond.fieldLink RX5 12 "CornLaws" "returns" "LCornLaws$Returns;", Cond.methodLink RX5 59 yX5_isNoGrain, Cond.static yX5_isNoGrain, Cond.initialized RX5, Cond.code yX5_isNoGrain cX5_isNoGrain 1 (some .boolean), Cond.methodLink RX5 44 yX5_isOutside, Cond.static yX5_isOutside, Cond.code yX5_isOutside cX5_isOutside 3 (some .boolean), Cond.methodLink RX5 99 yX3_averageKnown, Cond.instanceMethod yX3_averageKnown, Cond.selects RX3 yX3_averageKnown yX3_averageKnown, Cond.initialized RX3, Cond.code yX3_averageKnown cX3_averageKnown 7 (some .int), Cond.methodLink RX3 41 yX3_weeklyKnown, Cond.instanceMethod yX3_weeklyKnown, Cond.selects RX3 yX3_weeklyKnown yX3_weeklyKnown, Cond.code yX3_weeklyKnown cX3_weeklyKnown 9 (some .int), Cond.fieldLink RX3 33 "CornLaws$Returns" "size" "I", Cond.fieldLink RX3 15 "CornLaws$Returns" "grain" "[I", Cond.fieldLink RX3 18 "CornLaws$Returns" "week" "[I", Cond.fieldLink RX3 24 "CornLaws$Returns" "price" "[I", Cond.fieldLink RX3 21 "CornLaws$Returns" "quarters" "[I", Cond.methodLink RX3 37 yX3_isKnown, Cond.instanceMethod yX3_isKnown]
def wsX5_average_r2 : List Cond := [Cond.selects RX3 yX3_isKnown yX3_isKnown, Cond.code yX3_isKnown cX3_isKnown 3 (some .boolean), Cond.fieldLink RX3 27 "CornLaws$Returns" "sworn" "[I", Cond.fieldLink RX3 30 "CornLaws$Returns" "struck" "[I"]
def wsX5_average : List Cond := .code yX5_average cX5_average 3 (some .int) :: ((wsX5_average_r1 ++ wsX5_average_r2) ++ wsX50 ++ wsX30)
def wsX5_towns_r1 : List Cond := [Cond.fieldLink RX5 12 "CornLaws" "returns" "LCornLaws$Returns;", Cond.methodLink RX5 44 yX5_isOutside, Cond.static yX5_isOutside, Cond.initialized RX5, Cond.code yX5_isOutside cX5_isOutside 3 (some .boolean), Cond.methodLink RX5 103 yX3_townsKnown, Cond.instanceMethod yX3_townsKnown, Cond.selects RX3 yX3_townsKnown yX3_townsKnown, Cond.initialized RX3, Cond.code yX3_townsKnown cX3_townsKnown 5 (some .int), Cond.fieldLink RX3 33 "CornLaws$Returns" "size" "I", Cond.fieldLink RX3 18 "CornLaws$Returns" "week" "[I", Cond.fieldLink RX3 9 "CornLaws$Returns" "town" "[I", Cond.methodLink RX3 37 yX3_isKnown, Cond.instanceMethod yX3_isKnown, Cond.selects RX3 yX3_isKnown yX3_isKnown, Cond.code yX3_isKnown cX3_isKnown 3 (some .boolean), Cond.fieldLink RX3 27 "CornLaws$Returns" "sworn" "[I", Cond.fieldLink RX3 30 "CornLaws$Returns" "struck" "[I", Cond.methodLink RX3 45 yJ6_bitCount_0f7a4, Cond.static yJ6_bitCount_0f7a4, Cond.initialized RJ6, Cond.code yJ6_bitCount_0f7a4 cJ6_bitCount_0f7a4 1 (some .int), Cond.constant RJ6 265 (1431655765)]
def wsX5_towns_r2 : List Cond := [Cond.constant RJ6 266 (858993459), Cond.constant RJ6 267 (252645135)]
def wsX5_towns : List Cond := .code yX5_towns cX5_towns 3 (some .int) :: ((wsX5_towns_r1 ++ wsX5_towns_r2) ++ wsX50 ++ wsX30)
def wsX5_scale : List Cond := .code yX5_scale cX5_scale 3 (some .int) :: ([.fieldLink RX5 48 "CornLaws" "now" "I", .fieldLink RX5 19 "CornLaws" "scales" "LCornLaws$Scales;", .fieldLink RX5 107 "CornLaws$Scales" "size" "I", .methodLink RX5 59 yX5_isNoGrain, .static yX5_isNoGrain, .initialized RX5, .code yX5_isNoGrain cX5_isNoGrain 1 (some .boolean), .methodLink RX5 44 yX5_isOutside, .static yX5_isOutside, .code yX5_isOutside cX5_isOutside 3 (some .boolean), .methodLink RX5 108 yX4_add, .instanceMethod yX4_add, .selects RX4 yX4_add yX4_add, .initialized RX4, .code yX4_add cX4_add 5 (some .int), .fieldLink RX4 32 "CornLaws$Scales" "size" "I", .fieldLink RX4 9 "CornLaws$Scales" "grain" "[I", .fieldLink RX4 15 "CornLaws$Scales" "week" "[I", .fieldLink RX4 18 "CornLaws$Scales" "told" "[I"] ++ wsX50 ++ wsX40)
def wsX5_step_r1 : List Cond := [Cond.fieldLink RX5 19 "CornLaws" "scales" "LCornLaws$Scales;", Cond.fieldLink RX5 48 "CornLaws" "now" "I", Cond.fieldLink RX5 119 "CornLaws$Scales" "steps" "[I", Cond.methodLink RX5 110 yX4_has, Cond.instanceMethod yX4_has, Cond.selects RX4 yX4_has yX4_has, Cond.initialized RX4, Cond.code yX4_has cX4_has 2 (some .boolean), Cond.fieldLink RX4 32 "CornLaws$Scales" "size" "I", Cond.methodLink RX5 44 yX5_isOutside, Cond.static yX5_isOutside, Cond.initialized RX5, Cond.code yX5_isOutside cX5_isOutside 3 (some .boolean), Cond.methodLink RX5 111 yX4_lastPrice, Cond.instanceMethod yX4_lastPrice, Cond.selects RX4 yX4_lastPrice yX4_lastPrice, Cond.code yX4_lastPrice cX4_lastPrice 2 (some .int), Cond.fieldLink RX4 21 "CornLaws$Scales" "steps" "[I", Cond.fieldLink RX4 26 "CornLaws$Scales" "stepPrice" "[[I", Cond.methodLink RX5 115 yX4_isSettled, Cond.instanceMethod yX4_isSettled, Cond.selects RX4 yX4_isSettled yX4_isSettled, Cond.code yX4_isSettled cX4_isSettled 3 (some .boolean), Cond.fieldLink RX4 15 "CornLaws$Scales" "week" "[I"]
def wsX5_step_r2 : List Cond := [Cond.fieldLink RX4 18 "CornLaws$Scales" "told" "[I", Cond.methodLink RX5 122 yX4_addStep, Cond.instanceMethod yX4_addStep, Cond.selects RX4 yX4_addStep yX4_addStep, Cond.code yX4_addStep cX4_addStep 4 (some .int), Cond.fieldLink RX4 29 "CornLaws$Scales" "stepDuty" "[[I"]
def wsX5_step : List Cond := .code yX5_step cX5_step 4 (some .int) :: ((wsX5_step_r1 ++ wsX5_step_r2) ++ wsX50 ++ wsX40)
def wsX5_hang_r1 : List Cond := [Cond.fieldLink RX5 26 "CornLaws" "hangings" "LCornLaws$Hangings;", Cond.methodLink RX5 59 yX5_isNoGrain, Cond.static yX5_isNoGrain, Cond.initialized RX5, Cond.code yX5_isNoGrain cX5_isNoGrain 1 (some .boolean), Cond.methodLink RX5 44 yX5_isOutside, Cond.static yX5_isOutside, Cond.code yX5_isOutside cX5_isOutside 3 (some .boolean), Cond.methodLink RX5 125 yX1_hangs, Cond.instanceMethod yX1_hangs, Cond.selects RX1 yX1_hangs yX1_hangs, Cond.initialized RX1, Cond.code yX1_hangs cX1_hangs 2 (some .boolean), Cond.fieldLink RX1 18 "CornLaws$Hangings" "low" "[I", Cond.methodLink RX5 128 yX1_bearsOne, Cond.instanceMethod yX1_bearsOne, Cond.selects RX1 yX1_bearsOne yX1_bearsOne, Cond.code yX1_bearsOne cX1_bearsOne 3 (some .boolean), Cond.fieldLink RX1 9 "CornLaws$Hangings" "on" "[I", Cond.methodLink RX1 21 yX1_hangs, Cond.methodLink RX5 131 yX1_put, Cond.instanceMethod yX1_put, Cond.selects RX1 yX1_put yX1_put, Cond.code yX1_put cX1_put 5 none]
def wsX5_hang_r2 : List Cond := [Cond.fieldLink RX1 15 "CornLaws$Hangings" "up" "[I"]
def wsX5_hang : List Cond := .code yX5_hang cX5_hang 5 (some .int) :: ((wsX5_hang_r1 ++ wsX5_hang_r2) ++ wsX50 ++ wsX10)
def wsX5_unhang : List Cond := .code yX5_unhang cX5_unhang 2 (some .int) :: ([.fieldLink RX5 26 "CornLaws" "hangings" "LCornLaws$Hangings;", .methodLink RX5 59 yX5_isNoGrain, .static yX5_isNoGrain, .initialized RX5, .code yX5_isNoGrain cX5_isNoGrain 1 (some .boolean), .methodLink RX5 44 yX5_isOutside, .static yX5_isOutside, .code yX5_isOutside cX5_isOutside 3 (some .boolean), .methodLink RX5 125 yX1_hangs, .instanceMethod yX1_hangs, .selects RX1 yX1_hangs yX1_hangs, .initialized RX1, .code yX1_hangs cX1_hangs 2 (some .boolean), .fieldLink RX1 18 "CornLaws$Hangings" "low" "[I", .methodLink RX5 135 yX1_take, .instanceMethod yX1_take, .selects RX1 yX1_take yX1_take, .code yX1_take cX1_take 2 none] ++ wsX50 ++ wsX10)
def wsX5_force : List Cond := .code yX5_force cX5_force 3 (some .int) :: ([.fieldLink RX5 19 "CornLaws" "scales" "LCornLaws$Scales;", .methodLink RX5 59 yX5_isNoGrain, .static yX5_isNoGrain, .initialized RX5, .code yX5_isNoGrain cX5_isNoGrain 1 (some .boolean), .methodLink RX5 44 yX5_isOutside, .static yX5_isOutside, .code yX5_isOutside cX5_isOutside 3 (some .boolean), .methodLink RX5 138 yX4_inForce, .instanceMethod yX4_inForce, .selects RX4 yX4_inForce yX4_inForce, .initialized RX4, .code yX4_inForce cX4_inForce 6 (some .int), .fieldLink RX4 32 "CornLaws$Scales" "size" "I", .fieldLink RX4 9 "CornLaws$Scales" "grain" "[I", .fieldLink RX4 21 "CornLaws$Scales" "steps" "[I", .fieldLink RX4 15 "CornLaws$Scales" "week" "[I"] ++ wsX50 ++ wsX40)
def wsX5_dutyAt_r1 : List Cond := [Cond.fieldLink RX5 26 "CornLaws" "hangings" "LCornLaws$Hangings;", Cond.fieldLink RX5 19 "CornLaws" "scales" "LCornLaws$Scales;", Cond.fieldLink RX5 12 "CornLaws" "returns" "LCornLaws$Returns;", Cond.methodLink RX5 191 yX1_rulingOver, Cond.instanceMethod yX1_rulingOver, Cond.selects RX1 yX1_rulingOver yX1_rulingOver, Cond.initialized RX1, Cond.code yX1_rulingOver cX1_rulingOver 2 (some .int), Cond.fieldLink RX1 9 "CornLaws$Hangings" "on" "[I", Cond.methodLink RX1 21 yX1_hangs, Cond.instanceMethod yX1_hangs, Cond.selects RX1 yX1_hangs yX1_hangs, Cond.code yX1_hangs cX1_hangs 2 (some .boolean), Cond.fieldLink RX1 18 "CornLaws$Hangings" "low" "[I", Cond.methodLink RX5 194 yX4_isOf, Cond.instanceMethod yX4_isOf, Cond.selects RX4 yX4_isOf yX4_isOf, Cond.initialized RX4, Cond.code yX4_isOf cX4_isOf 3 (some .boolean), Cond.fieldLink RX4 9 "CornLaws$Scales" "grain" "[I", Cond.methodLink RX4 36 yX4_has, Cond.instanceMethod yX4_has, Cond.selects RX4 yX4_has yX4_has, Cond.code yX4_has cX4_has 2 (some .boolean)]
def wsX5_dutyAt_r2 : List Cond := [Cond.fieldLink RX4 32 "CornLaws$Scales" "size" "I", Cond.methodLink RX5 138 yX4_inForce, Cond.instanceMethod yX4_inForce, Cond.selects RX4 yX4_inForce yX4_inForce, Cond.code yX4_inForce cX4_inForce 6 (some .int), Cond.fieldLink RX4 21 "CornLaws$Scales" "steps" "[I", Cond.fieldLink RX4 15 "CornLaws$Scales" "week" "[I", Cond.methodLink RX5 99 yX3_averageKnown, Cond.instanceMethod yX3_averageKnown, Cond.selects RX3 yX3_averageKnown yX3_averageKnown, Cond.initialized RX3, Cond.code yX3_averageKnown cX3_averageKnown 7 (some .int), Cond.methodLink RX3 41 yX3_weeklyKnown, Cond.instanceMethod yX3_weeklyKnown, Cond.selects RX3 yX3_weeklyKnown yX3_weeklyKnown, Cond.code yX3_weeklyKnown cX3_weeklyKnown 9 (some .int), Cond.fieldLink RX3 33 "CornLaws$Returns" "size" "I", Cond.fieldLink RX3 15 "CornLaws$Returns" "grain" "[I", Cond.fieldLink RX3 18 "CornLaws$Returns" "week" "[I", Cond.fieldLink RX3 24 "CornLaws$Returns" "price" "[I", Cond.fieldLink RX3 21 "CornLaws$Returns" "quarters" "[I", Cond.methodLink RX3 37 yX3_isKnown, Cond.instanceMethod yX3_isKnown, Cond.selects RX3 yX3_isKnown yX3_isKnown]
def wsX5_dutyAt_r3 : List Cond := [Cond.code yX3_isKnown cX3_isKnown 3 (some .boolean), Cond.fieldLink RX3 27 "CornLaws$Returns" "sworn" "[I", Cond.fieldLink RX3 30 "CornLaws$Returns" "struck" "[I", Cond.methodLink RX5 197 yX4_dutyBy, Cond.instanceMethod yX4_dutyBy, Cond.selects RX4 yX4_dutyBy yX4_dutyBy, Cond.code yX4_dutyBy cX4_dutyBy 5 (some .int), Cond.fieldLink RX4 29 "CornLaws$Scales" "stepDuty" "[[I", Cond.fieldLink RX4 26 "CornLaws$Scales" "stepPrice" "[[I", Cond.methodLink RX5 200 yX1_inProportion, Cond.instanceMethod yX1_inProportion, Cond.selects RX1 yX1_inProportion yX1_inProportion, Cond.code yX1_inProportion cX1_inProportion 3 (some .int), Cond.fieldLink RX1 15 "CornLaws$Hangings" "up" "[I"]
def wsX5_dutyAt : List Cond := .code yX5_dutyAt cX5_dutyAt 8 (some .int) :: ((wsX5_dutyAt_r1 ++ (wsX5_dutyAt_r2 ++ wsX5_dutyAt_r3)) ++ wsX50 ++ wsX10 ++ wsX40 ++ wsX30)
def wsX5_duty_r1 : List Cond := [Cond.methodLink RX5 59 yX5_isNoGrain, Cond.static yX5_isNoGrain, Cond.initialized RX5, Cond.code yX5_isNoGrain cX5_isNoGrain 1 (some .boolean), Cond.methodLink RX5 44 yX5_isOutside, Cond.static yX5_isOutside, Cond.code yX5_isOutside cX5_isOutside 3 (some .boolean), Cond.methodLink RX5 141 yX5_dutyAt, Cond.instanceMethod yX5_dutyAt, Cond.selects RX5 yX5_dutyAt yX5_dutyAt, Cond.code yX5_dutyAt cX5_dutyAt 8 (some .int), Cond.fieldLink RX5 26 "CornLaws" "hangings" "LCornLaws$Hangings;", Cond.fieldLink RX5 19 "CornLaws" "scales" "LCornLaws$Scales;", Cond.fieldLink RX5 12 "CornLaws" "returns" "LCornLaws$Returns;", Cond.methodLink RX5 191 yX1_rulingOver, Cond.instanceMethod yX1_rulingOver, Cond.selects RX1 yX1_rulingOver yX1_rulingOver, Cond.initialized RX1, Cond.code yX1_rulingOver cX1_rulingOver 2 (some .int), Cond.fieldLink RX1 9 "CornLaws$Hangings" "on" "[I", Cond.methodLink RX1 21 yX1_hangs, Cond.instanceMethod yX1_hangs, Cond.selects RX1 yX1_hangs yX1_hangs, Cond.code yX1_hangs cX1_hangs 2 (some .boolean)]
def wsX5_duty_r2 : List Cond := [Cond.fieldLink RX1 18 "CornLaws$Hangings" "low" "[I", Cond.methodLink RX5 194 yX4_isOf, Cond.instanceMethod yX4_isOf, Cond.selects RX4 yX4_isOf yX4_isOf, Cond.initialized RX4, Cond.code yX4_isOf cX4_isOf 3 (some .boolean), Cond.fieldLink RX4 9 "CornLaws$Scales" "grain" "[I", Cond.methodLink RX4 36 yX4_has, Cond.instanceMethod yX4_has, Cond.selects RX4 yX4_has yX4_has, Cond.code yX4_has cX4_has 2 (some .boolean), Cond.fieldLink RX4 32 "CornLaws$Scales" "size" "I", Cond.methodLink RX5 138 yX4_inForce, Cond.instanceMethod yX4_inForce, Cond.selects RX4 yX4_inForce yX4_inForce, Cond.code yX4_inForce cX4_inForce 6 (some .int), Cond.fieldLink RX4 21 "CornLaws$Scales" "steps" "[I", Cond.fieldLink RX4 15 "CornLaws$Scales" "week" "[I", Cond.methodLink RX5 99 yX3_averageKnown, Cond.instanceMethod yX3_averageKnown, Cond.selects RX3 yX3_averageKnown yX3_averageKnown, Cond.initialized RX3, Cond.code yX3_averageKnown cX3_averageKnown 7 (some .int), Cond.methodLink RX3 41 yX3_weeklyKnown]
def wsX5_duty_r3 : List Cond := [Cond.instanceMethod yX3_weeklyKnown, Cond.selects RX3 yX3_weeklyKnown yX3_weeklyKnown, Cond.code yX3_weeklyKnown cX3_weeklyKnown 9 (some .int), Cond.fieldLink RX3 33 "CornLaws$Returns" "size" "I", Cond.fieldLink RX3 15 "CornLaws$Returns" "grain" "[I", Cond.fieldLink RX3 18 "CornLaws$Returns" "week" "[I", Cond.fieldLink RX3 24 "CornLaws$Returns" "price" "[I", Cond.fieldLink RX3 21 "CornLaws$Returns" "quarters" "[I", Cond.methodLink RX3 37 yX3_isKnown, Cond.instanceMethod yX3_isKnown, Cond.selects RX3 yX3_isKnown yX3_isKnown, Cond.code yX3_isKnown cX3_isKnown 3 (some .boolean), Cond.fieldLink RX3 27 "CornLaws$Returns" "sworn" "[I", Cond.fieldLink RX3 30 "CornLaws$Returns" "struck" "[I", Cond.methodLink RX5 197 yX4_dutyBy, Cond.instanceMethod yX4_dutyBy, Cond.selects RX4 yX4_dutyBy yX4_dutyBy, Cond.code yX4_dutyBy cX4_dutyBy 5 (some .int), Cond.fieldLink RX4 29 "CornLaws$Scales" "stepDuty" "[[I", Cond.fieldLink RX4 26 "CornLaws$Scales" "stepPrice" "[[I", Cond.methodLink RX5 200 yX1_inProportion, Cond.instanceMethod yX1_inProportion, Cond.selects RX1 yX1_inProportion yX1_inProportion, Cond.code yX1_inProportion cX1_inProportion 3 (some .int)]
def wsX5_duty_r4 : List Cond := [Cond.fieldLink RX1 15 "CornLaws$Hangings" "up" "[I"]
def wsX5_duty : List Cond := .code yX5_duty cX5_duty 3 (some .int) :: ((wsX5_duty_r1 ++ (wsX5_duty_r2 ++ (wsX5_duty_r3 ++ wsX5_duty_r4))) ++ wsX50 ++ wsX10 ++ wsX40 ++ wsX30)
def wsX5_cargo : List Cond := .code yX5_cargo cX5_cargo 3 (some .int) :: ([.fieldLink RX5 33 "CornLaws" "cargoes" "LCornLaws$Cargoes;", .fieldLink RX5 144 "CornLaws$Cargoes" "size" "I", .fieldLink RX5 48 "CornLaws" "now" "I", .methodLink RX5 59 yX5_isNoGrain, .static yX5_isNoGrain, .initialized RX5, .code yX5_isNoGrain cX5_isNoGrain 1 (some .boolean), .methodLink RX5 44 yX5_isOutside, .static yX5_isOutside, .code yX5_isOutside cX5_isOutside 3 (some .boolean), .methodLink RX5 145 yX0_add, .instanceMethod yX0_add, .selects RX0 yX0_add yX0_add, .initialized RX0, .code yX0_add cX0_add 5 (some .int), .fieldLink RX0 30 "CornLaws$Cargoes" "size" "I", .fieldLink RX0 9 "CornLaws$Cargoes" "grain" "[I", .fieldLink RX0 15 "CornLaws$Cargoes" "inBond" "[I", .fieldLink RX0 27 "CornLaws$Cargoes" "came" "[I"] ++ wsX50 ++ wsX00)
def wsX5_spoil : List Cond := .code yX5_spoil cX5_spoil 3 (some .int) :: ([.fieldLink RX5 52 "CornLaws" "spoilRate" "I", .methodLink RX5 44 yX5_isOutside, .static yX5_isOutside, .initialized RX5, .code yX5_isOutside cX5_isOutside 3 (some .boolean)] ++ wsX50)
def wsX5_letOut_r1 : List Cond := [Cond.fieldLink RX5 33 "CornLaws" "cargoes" "LCornLaws$Cargoes;", Cond.constantLong RX5 147 (-2), Cond.fieldLink RX5 149 "CornLaws$Cargoes" "inBond" "[I", Cond.constantLong RX5 152 (-3), Cond.fieldLink RX5 40 "CornLaws" "lettings" "LCornLaws$Lettings;", Cond.fieldLink RX5 154 "CornLaws$Lettings" "size" "I", Cond.constantLong RX5 155 (-4), Cond.fieldLink RX5 157 "CornLaws$Cargoes" "grain" "[I", Cond.fieldLink RX5 48 "CornLaws" "now" "I", Cond.fieldLink RX5 158 "CornLaws$Cargoes" "out" "[I", Cond.fieldLink RX5 164 "CornLaws" "paid" "J", Cond.methodLink RX5 146 yX0_has, Cond.instanceMethod yX0_has, Cond.selects RX0 yX0_has yX0_has, Cond.initialized RX0, Cond.code yX0_has cX0_has 2 (some .boolean), Cond.fieldLink RX0 30 "CornLaws$Cargoes" "size" "I", Cond.methodLink RX5 44 yX5_isOutside, Cond.static yX5_isOutside, Cond.initialized RX5, Cond.code yX5_isOutside cX5_isOutside 3 (some .boolean), Cond.methodLink RX5 141 yX5_dutyAt, Cond.instanceMethod yX5_dutyAt, Cond.selects RX5 yX5_dutyAt yX5_dutyAt]
def wsX5_letOut_r2 : List Cond := [Cond.code yX5_dutyAt cX5_dutyAt 8 (some .int), Cond.fieldLink RX5 26 "CornLaws" "hangings" "LCornLaws$Hangings;", Cond.fieldLink RX5 19 "CornLaws" "scales" "LCornLaws$Scales;", Cond.fieldLink RX5 12 "CornLaws" "returns" "LCornLaws$Returns;", Cond.methodLink RX5 191 yX1_rulingOver, Cond.instanceMethod yX1_rulingOver, Cond.selects RX1 yX1_rulingOver yX1_rulingOver, Cond.initialized RX1, Cond.code yX1_rulingOver cX1_rulingOver 2 (some .int), Cond.fieldLink RX1 9 "CornLaws$Hangings" "on" "[I", Cond.methodLink RX1 21 yX1_hangs, Cond.instanceMethod yX1_hangs, Cond.selects RX1 yX1_hangs yX1_hangs, Cond.code yX1_hangs cX1_hangs 2 (some .boolean), Cond.fieldLink RX1 18 "CornLaws$Hangings" "low" "[I", Cond.methodLink RX5 194 yX4_isOf, Cond.instanceMethod yX4_isOf, Cond.selects RX4 yX4_isOf yX4_isOf, Cond.initialized RX4, Cond.code yX4_isOf cX4_isOf 3 (some .boolean), Cond.fieldLink RX4 9 "CornLaws$Scales" "grain" "[I", Cond.methodLink RX4 36 yX4_has, Cond.instanceMethod yX4_has, Cond.selects RX4 yX4_has yX4_has]
def wsX5_letOut_r3 : List Cond := [Cond.code yX4_has cX4_has 2 (some .boolean), Cond.fieldLink RX4 32 "CornLaws$Scales" "size" "I", Cond.methodLink RX5 138 yX4_inForce, Cond.instanceMethod yX4_inForce, Cond.selects RX4 yX4_inForce yX4_inForce, Cond.code yX4_inForce cX4_inForce 6 (some .int), Cond.fieldLink RX4 21 "CornLaws$Scales" "steps" "[I", Cond.fieldLink RX4 15 "CornLaws$Scales" "week" "[I", Cond.methodLink RX5 99 yX3_averageKnown, Cond.instanceMethod yX3_averageKnown, Cond.selects RX3 yX3_averageKnown yX3_averageKnown, Cond.initialized RX3, Cond.code yX3_averageKnown cX3_averageKnown 7 (some .int), Cond.methodLink RX3 41 yX3_weeklyKnown, Cond.instanceMethod yX3_weeklyKnown, Cond.selects RX3 yX3_weeklyKnown yX3_weeklyKnown, Cond.code yX3_weeklyKnown cX3_weeklyKnown 9 (some .int), Cond.fieldLink RX3 33 "CornLaws$Returns" "size" "I", Cond.fieldLink RX3 15 "CornLaws$Returns" "grain" "[I", Cond.fieldLink RX3 18 "CornLaws$Returns" "week" "[I", Cond.fieldLink RX3 24 "CornLaws$Returns" "price" "[I", Cond.fieldLink RX3 21 "CornLaws$Returns" "quarters" "[I", Cond.methodLink RX3 37 yX3_isKnown, Cond.instanceMethod yX3_isKnown]
def wsX5_letOut_r4 : List Cond := [Cond.selects RX3 yX3_isKnown yX3_isKnown, Cond.code yX3_isKnown cX3_isKnown 3 (some .boolean), Cond.fieldLink RX3 27 "CornLaws$Returns" "sworn" "[I", Cond.fieldLink RX3 30 "CornLaws$Returns" "struck" "[I", Cond.methodLink RX5 197 yX4_dutyBy, Cond.instanceMethod yX4_dutyBy, Cond.selects RX4 yX4_dutyBy yX4_dutyBy, Cond.code yX4_dutyBy cX4_dutyBy 5 (some .int), Cond.fieldLink RX4 29 "CornLaws$Scales" "stepDuty" "[[I", Cond.fieldLink RX4 26 "CornLaws$Scales" "stepPrice" "[[I", Cond.methodLink RX5 200 yX1_inProportion, Cond.instanceMethod yX1_inProportion, Cond.selects RX1 yX1_inProportion yX1_inProportion, Cond.code yX1_inProportion cX1_inProportion 3 (some .int), Cond.fieldLink RX1 15 "CornLaws$Hangings" "up" "[I", Cond.methodLink RX5 161 yX2_add, Cond.instanceMethod yX2_add, Cond.selects RX2 yX2_add yX2_add, Cond.initialized RX2, Cond.code yX2_add cX2_add 4 none, Cond.fieldLink RX2 9 "CornLaws$Lettings" "grain" "[I", Cond.fieldLink RX2 21 "CornLaws$Lettings" "size" "I", Cond.fieldLink RX2 15 "CornLaws$Lettings" "quarters" "[I", Cond.fieldLink RX2 18 "CornLaws$Lettings" "week" "[I"]
def wsX5_letOut : List Cond := .code yX5_letOut cX5_letOut 6 (some .long) :: ((wsX5_letOut_r1 ++ (wsX5_letOut_r2 ++ (wsX5_letOut_r3 ++ wsX5_letOut_r4))) ++ wsX50 ++ wsX00 ++ wsX20 ++ wsX10 ++ wsX40 ++ wsX30)
def wsX5_ship : List Cond := .code yX5_ship cX5_ship 3 (some .int) :: ([.fieldLink RX5 33 "CornLaws" "cargoes" "LCornLaws$Cargoes;", .fieldLink RX5 149 "CornLaws$Cargoes" "inBond" "[I", .fieldLink RX5 168 "CornLaws$Cargoes" "shipped" "[I", .methodLink RX5 146 yX0_has, .instanceMethod yX0_has, .selects RX0 yX0_has yX0_has, .initialized RX0, .code yX0_has cX0_has 2 (some .boolean), .fieldLink RX0 30 "CornLaws$Cargoes" "size" "I", .methodLink RX5 44 yX5_isOutside, .static yX5_isOutside, .initialized RX5, .code yX5_isOutside cX5_isOutside 3 (some .boolean)] ++ wsX50 ++ wsX00)
def wsX5_bond : List Cond := .code yX5_bond cX5_bond 3 (some .int) :: ([.fieldLink RX5 33 "CornLaws" "cargoes" "LCornLaws$Cargoes;", .fieldLink RX5 157 "CornLaws$Cargoes" "grain" "[I", .fieldLink RX5 149 "CornLaws$Cargoes" "inBond" "[I", .fieldLink RX5 158 "CornLaws$Cargoes" "out" "[I", .fieldLink RX5 168 "CornLaws$Cargoes" "shipped" "[I", .fieldLink RX5 171 "CornLaws$Cargoes" "spoilt" "[I", .fieldLink RX5 174 "CornLaws$Cargoes" "came" "[I", .methodLink RX5 146 yX0_has, .instanceMethod yX0_has, .selects RX0 yX0_has yX0_has, .initialized RX0, .code yX0_has cX0_has 2 (some .boolean), .fieldLink RX0 30 "CornLaws$Cargoes" "size" "I"] ++ wsX50 ++ wsX00)
def wsX5_chest : List Cond := .code yX5_chest cX5_chest 1 (some .long) :: ([.fieldLink RX5 164 "CornLaws" "paid" "J"] ++ wsX50)
def wsX5_chestAnew_r1 : List Cond := [Cond.fieldLink RX5 40 "CornLaws" "lettings" "LCornLaws$Lettings;", Cond.fieldLink RX5 154 "CornLaws$Lettings" "size" "I", Cond.fieldLink RX5 203 "CornLaws$Lettings" "grain" "[I", Cond.fieldLink RX5 204 "CornLaws$Lettings" "week" "[I", Cond.fieldLink RX5 205 "CornLaws$Lettings" "quarters" "[I", Cond.methodLink RX5 141 yX5_dutyAt, Cond.instanceMethod yX5_dutyAt, Cond.selects RX5 yX5_dutyAt yX5_dutyAt, Cond.initialized RX5, Cond.code yX5_dutyAt cX5_dutyAt 8 (some .int), Cond.fieldLink RX5 26 "CornLaws" "hangings" "LCornLaws$Hangings;", Cond.fieldLink RX5 19 "CornLaws" "scales" "LCornLaws$Scales;", Cond.fieldLink RX5 12 "CornLaws" "returns" "LCornLaws$Returns;", Cond.methodLink RX5 191 yX1_rulingOver, Cond.instanceMethod yX1_rulingOver, Cond.selects RX1 yX1_rulingOver yX1_rulingOver, Cond.initialized RX1, Cond.code yX1_rulingOver cX1_rulingOver 2 (some .int), Cond.fieldLink RX1 9 "CornLaws$Hangings" "on" "[I", Cond.methodLink RX1 21 yX1_hangs, Cond.instanceMethod yX1_hangs, Cond.selects RX1 yX1_hangs yX1_hangs, Cond.code yX1_hangs cX1_hangs 2 (some .boolean), Cond.fieldLink RX1 18 "CornLaws$Hangings" "low" "[I"]
def wsX5_chestAnew_r2 : List Cond := [Cond.methodLink RX5 194 yX4_isOf, Cond.instanceMethod yX4_isOf, Cond.selects RX4 yX4_isOf yX4_isOf, Cond.initialized RX4, Cond.code yX4_isOf cX4_isOf 3 (some .boolean), Cond.fieldLink RX4 9 "CornLaws$Scales" "grain" "[I", Cond.methodLink RX4 36 yX4_has, Cond.instanceMethod yX4_has, Cond.selects RX4 yX4_has yX4_has, Cond.code yX4_has cX4_has 2 (some .boolean), Cond.fieldLink RX4 32 "CornLaws$Scales" "size" "I", Cond.methodLink RX5 138 yX4_inForce, Cond.instanceMethod yX4_inForce, Cond.selects RX4 yX4_inForce yX4_inForce, Cond.code yX4_inForce cX4_inForce 6 (some .int), Cond.fieldLink RX4 21 "CornLaws$Scales" "steps" "[I", Cond.fieldLink RX4 15 "CornLaws$Scales" "week" "[I", Cond.methodLink RX5 99 yX3_averageKnown, Cond.instanceMethod yX3_averageKnown, Cond.selects RX3 yX3_averageKnown yX3_averageKnown, Cond.initialized RX3, Cond.code yX3_averageKnown cX3_averageKnown 7 (some .int), Cond.methodLink RX3 41 yX3_weeklyKnown, Cond.instanceMethod yX3_weeklyKnown]
def wsX5_chestAnew_r3 : List Cond := [Cond.selects RX3 yX3_weeklyKnown yX3_weeklyKnown, Cond.code yX3_weeklyKnown cX3_weeklyKnown 9 (some .int), Cond.fieldLink RX3 33 "CornLaws$Returns" "size" "I", Cond.fieldLink RX3 15 "CornLaws$Returns" "grain" "[I", Cond.fieldLink RX3 18 "CornLaws$Returns" "week" "[I", Cond.fieldLink RX3 24 "CornLaws$Returns" "price" "[I", Cond.fieldLink RX3 21 "CornLaws$Returns" "quarters" "[I", Cond.methodLink RX3 37 yX3_isKnown, Cond.instanceMethod yX3_isKnown, Cond.selects RX3 yX3_isKnown yX3_isKnown, Cond.code yX3_isKnown cX3_isKnown 3 (some .boolean), Cond.fieldLink RX3 27 "CornLaws$Returns" "sworn" "[I", Cond.fieldLink RX3 30 "CornLaws$Returns" "struck" "[I", Cond.methodLink RX5 197 yX4_dutyBy, Cond.instanceMethod yX4_dutyBy, Cond.selects RX4 yX4_dutyBy yX4_dutyBy, Cond.code yX4_dutyBy cX4_dutyBy 5 (some .int), Cond.fieldLink RX4 29 "CornLaws$Scales" "stepDuty" "[[I", Cond.fieldLink RX4 26 "CornLaws$Scales" "stepPrice" "[[I", Cond.methodLink RX5 200 yX1_inProportion, Cond.instanceMethod yX1_inProportion, Cond.selects RX1 yX1_inProportion yX1_inProportion, Cond.code yX1_inProportion cX1_inProportion 3 (some .int), Cond.fieldLink RX1 15 "CornLaws$Hangings" "up" "[I"]
def wsX5_chestAnew : List Cond := .code yX5_chestAnew cX5_chestAnew 7 (some .long) :: ((wsX5_chestAnew_r1 ++ (wsX5_chestAnew_r2 ++ wsX5_chestAnew_r3)) ++ wsX50 ++ wsX20 ++ wsX10 ++ wsX40 ++ wsX30)
def wsX5_worth_r1 : List Cond := [Cond.fieldLink RX5 12 "CornLaws" "returns" "LCornLaws$Returns;", Cond.constantLong RX5 177 (-9223372036854775808), Cond.fieldLink RX5 164 "CornLaws" "paid" "J", Cond.methodLink RX5 70 yX3_has, Cond.instanceMethod yX3_has, Cond.selects RX3 yX3_has yX3_has, Cond.initialized RX3, Cond.code yX3_has cX3_has 2 (some .boolean), Cond.fieldLink RX3 33 "CornLaws$Returns" "size" "I", Cond.methodLink RX5 179 yX5_chestAnew, Cond.instanceMethod yX5_chestAnew, Cond.selects RX5 yX5_chestAnew yX5_chestAnew, Cond.initialized RX5, Cond.code yX5_chestAnew cX5_chestAnew 7 (some .long), Cond.fieldLink RX5 40 "CornLaws" "lettings" "LCornLaws$Lettings;", Cond.fieldLink RX5 154 "CornLaws$Lettings" "size" "I", Cond.fieldLink RX5 203 "CornLaws$Lettings" "grain" "[I", Cond.fieldLink RX5 204 "CornLaws$Lettings" "week" "[I", Cond.fieldLink RX5 205 "CornLaws$Lettings" "quarters" "[I", Cond.methodLink RX5 141 yX5_dutyAt, Cond.instanceMethod yX5_dutyAt, Cond.selects RX5 yX5_dutyAt yX5_dutyAt, Cond.code yX5_dutyAt cX5_dutyAt 8 (some .int), Cond.fieldLink RX5 26 "CornLaws" "hangings" "LCornLaws$Hangings;"]
def wsX5_worth_r2 : List Cond := [Cond.fieldLink RX5 19 "CornLaws" "scales" "LCornLaws$Scales;", Cond.methodLink RX5 191 yX1_rulingOver, Cond.instanceMethod yX1_rulingOver, Cond.selects RX1 yX1_rulingOver yX1_rulingOver, Cond.initialized RX1, Cond.code yX1_rulingOver cX1_rulingOver 2 (some .int), Cond.fieldLink RX1 9 "CornLaws$Hangings" "on" "[I", Cond.methodLink RX1 21 yX1_hangs, Cond.instanceMethod yX1_hangs, Cond.selects RX1 yX1_hangs yX1_hangs, Cond.code yX1_hangs cX1_hangs 2 (some .boolean), Cond.fieldLink RX1 18 "CornLaws$Hangings" "low" "[I", Cond.methodLink RX5 194 yX4_isOf, Cond.instanceMethod yX4_isOf, Cond.selects RX4 yX4_isOf yX4_isOf, Cond.initialized RX4, Cond.code yX4_isOf cX4_isOf 3 (some .boolean), Cond.fieldLink RX4 9 "CornLaws$Scales" "grain" "[I", Cond.methodLink RX4 36 yX4_has, Cond.instanceMethod yX4_has, Cond.selects RX4 yX4_has yX4_has, Cond.code yX4_has cX4_has 2 (some .boolean), Cond.fieldLink RX4 32 "CornLaws$Scales" "size" "I", Cond.methodLink RX5 138 yX4_inForce]
def wsX5_worth_r3 : List Cond := [Cond.instanceMethod yX4_inForce, Cond.selects RX4 yX4_inForce yX4_inForce, Cond.code yX4_inForce cX4_inForce 6 (some .int), Cond.fieldLink RX4 21 "CornLaws$Scales" "steps" "[I", Cond.fieldLink RX4 15 "CornLaws$Scales" "week" "[I", Cond.methodLink RX5 99 yX3_averageKnown, Cond.instanceMethod yX3_averageKnown, Cond.selects RX3 yX3_averageKnown yX3_averageKnown, Cond.code yX3_averageKnown cX3_averageKnown 7 (some .int), Cond.methodLink RX3 41 yX3_weeklyKnown, Cond.instanceMethod yX3_weeklyKnown, Cond.selects RX3 yX3_weeklyKnown yX3_weeklyKnown, Cond.code yX3_weeklyKnown cX3_weeklyKnown 9 (some .int), Cond.fieldLink RX3 15 "CornLaws$Returns" "grain" "[I", Cond.fieldLink RX3 18 "CornLaws$Returns" "week" "[I", Cond.fieldLink RX3 24 "CornLaws$Returns" "price" "[I", Cond.fieldLink RX3 21 "CornLaws$Returns" "quarters" "[I", Cond.methodLink RX3 37 yX3_isKnown, Cond.instanceMethod yX3_isKnown, Cond.selects RX3 yX3_isKnown yX3_isKnown, Cond.code yX3_isKnown cX3_isKnown 3 (some .boolean), Cond.fieldLink RX3 27 "CornLaws$Returns" "sworn" "[I", Cond.fieldLink RX3 30 "CornLaws$Returns" "struck" "[I", Cond.methodLink RX5 197 yX4_dutyBy]
def wsX5_worth_r4 : List Cond := [Cond.instanceMethod yX4_dutyBy, Cond.selects RX4 yX4_dutyBy yX4_dutyBy, Cond.code yX4_dutyBy cX4_dutyBy 5 (some .int), Cond.fieldLink RX4 29 "CornLaws$Scales" "stepDuty" "[[I", Cond.fieldLink RX4 26 "CornLaws$Scales" "stepPrice" "[[I", Cond.methodLink RX5 200 yX1_inProportion, Cond.instanceMethod yX1_inProportion, Cond.selects RX1 yX1_inProportion yX1_inProportion, Cond.code yX1_inProportion cX1_inProportion 3 (some .int), Cond.fieldLink RX1 15 "CornLaws$Hangings" "up" "[I"]
def wsX5_worth : List Cond := .code yX5_worth cX5_worth 2 (some .long) :: ((wsX5_worth_r1 ++ (wsX5_worth_r2 ++ (wsX5_worth_r3 ++ wsX5_worth_r4))) ++ wsX50 ++ wsX30 ++ wsX20 ++ wsX10 ++ wsX40)
def wsX5_other_r1 : List Cond := [Cond.fieldLink RX5 19 "CornLaws" "scales" "LCornLaws$Scales;", Cond.constantLong RX5 147 (-2), Cond.methodLink RX5 110 yX4_has, Cond.instanceMethod yX4_has, Cond.selects RX4 yX4_has yX4_has, Cond.initialized RX4, Cond.code yX4_has cX4_has 2 (some .boolean), Cond.fieldLink RX4 32 "CornLaws$Scales" "size" "I", Cond.methodLink RX5 179 yX5_chestAnew, Cond.instanceMethod yX5_chestAnew, Cond.selects RX5 yX5_chestAnew yX5_chestAnew, Cond.initialized RX5, Cond.code yX5_chestAnew cX5_chestAnew 7 (some .long), Cond.fieldLink RX5 40 "CornLaws" "lettings" "LCornLaws$Lettings;", Cond.fieldLink RX5 154 "CornLaws$Lettings" "size" "I", Cond.fieldLink RX5 203 "CornLaws$Lettings" "grain" "[I", Cond.fieldLink RX5 204 "CornLaws$Lettings" "week" "[I", Cond.fieldLink RX5 205 "CornLaws$Lettings" "quarters" "[I", Cond.methodLink RX5 141 yX5_dutyAt, Cond.instanceMethod yX5_dutyAt, Cond.selects RX5 yX5_dutyAt yX5_dutyAt, Cond.code yX5_dutyAt cX5_dutyAt 8 (some .int), Cond.fieldLink RX5 26 "CornLaws" "hangings" "LCornLaws$Hangings;", Cond.fieldLink RX5 12 "CornLaws" "returns" "LCornLaws$Returns;"]
def wsX5_other_r2 : List Cond := [Cond.methodLink RX5 191 yX1_rulingOver, Cond.instanceMethod yX1_rulingOver, Cond.selects RX1 yX1_rulingOver yX1_rulingOver, Cond.initialized RX1, Cond.code yX1_rulingOver cX1_rulingOver 2 (some .int), Cond.fieldLink RX1 9 "CornLaws$Hangings" "on" "[I", Cond.methodLink RX1 21 yX1_hangs, Cond.instanceMethod yX1_hangs, Cond.selects RX1 yX1_hangs yX1_hangs, Cond.code yX1_hangs cX1_hangs 2 (some .boolean), Cond.fieldLink RX1 18 "CornLaws$Hangings" "low" "[I", Cond.methodLink RX5 194 yX4_isOf, Cond.instanceMethod yX4_isOf, Cond.selects RX4 yX4_isOf yX4_isOf, Cond.code yX4_isOf cX4_isOf 3 (some .boolean), Cond.fieldLink RX4 9 "CornLaws$Scales" "grain" "[I", Cond.methodLink RX4 36 yX4_has, Cond.methodLink RX5 138 yX4_inForce, Cond.instanceMethod yX4_inForce, Cond.selects RX4 yX4_inForce yX4_inForce, Cond.code yX4_inForce cX4_inForce 6 (some .int), Cond.fieldLink RX4 21 "CornLaws$Scales" "steps" "[I", Cond.fieldLink RX4 15 "CornLaws$Scales" "week" "[I", Cond.methodLink RX5 99 yX3_averageKnown]
def wsX5_other_r3 : List Cond := [Cond.instanceMethod yX3_averageKnown, Cond.selects RX3 yX3_averageKnown yX3_averageKnown, Cond.initialized RX3, Cond.code yX3_averageKnown cX3_averageKnown 7 (some .int), Cond.methodLink RX3 41 yX3_weeklyKnown, Cond.instanceMethod yX3_weeklyKnown, Cond.selects RX3 yX3_weeklyKnown yX3_weeklyKnown, Cond.code yX3_weeklyKnown cX3_weeklyKnown 9 (some .int), Cond.fieldLink RX3 33 "CornLaws$Returns" "size" "I", Cond.fieldLink RX3 15 "CornLaws$Returns" "grain" "[I", Cond.fieldLink RX3 18 "CornLaws$Returns" "week" "[I", Cond.fieldLink RX3 24 "CornLaws$Returns" "price" "[I", Cond.fieldLink RX3 21 "CornLaws$Returns" "quarters" "[I", Cond.methodLink RX3 37 yX3_isKnown, Cond.instanceMethod yX3_isKnown, Cond.selects RX3 yX3_isKnown yX3_isKnown, Cond.code yX3_isKnown cX3_isKnown 3 (some .boolean), Cond.fieldLink RX3 27 "CornLaws$Returns" "sworn" "[I", Cond.fieldLink RX3 30 "CornLaws$Returns" "struck" "[I", Cond.methodLink RX5 197 yX4_dutyBy, Cond.instanceMethod yX4_dutyBy, Cond.selects RX4 yX4_dutyBy yX4_dutyBy, Cond.code yX4_dutyBy cX4_dutyBy 5 (some .int), Cond.fieldLink RX4 29 "CornLaws$Scales" "stepDuty" "[[I"]
def wsX5_other_r4 : List Cond := [Cond.fieldLink RX4 26 "CornLaws$Scales" "stepPrice" "[[I", Cond.methodLink RX5 200 yX1_inProportion, Cond.instanceMethod yX1_inProportion, Cond.selects RX1 yX1_inProportion yX1_inProportion, Cond.code yX1_inProportion cX1_inProportion 3 (some .int), Cond.fieldLink RX1 15 "CornLaws$Hangings" "up" "[I"]
def wsX5_other : List Cond := .code yX5_other cX5_other 2 (some .long) :: ((wsX5_other_r1 ++ (wsX5_other_r2 ++ (wsX5_other_r3 ++ wsX5_other_r4))) ++ wsX50 ++ wsX40 ++ wsX20 ++ wsX10 ++ wsX30)
def wsX5_gainAt_r1 : List Cond := [Cond.fieldLink RX5 33 "CornLaws" "cargoes" "LCornLaws$Cargoes;", Cond.fieldLink RX5 157 "CornLaws$Cargoes" "grain" "[I", Cond.fieldLink RX5 48 "CornLaws" "now" "I", Cond.fieldLink RX5 52 "CornLaws" "spoilRate" "I", Cond.methodLink RX5 141 yX5_dutyAt, Cond.instanceMethod yX5_dutyAt, Cond.selects RX5 yX5_dutyAt yX5_dutyAt, Cond.initialized RX5, Cond.code yX5_dutyAt cX5_dutyAt 8 (some .int), Cond.fieldLink RX5 26 "CornLaws" "hangings" "LCornLaws$Hangings;", Cond.fieldLink RX5 19 "CornLaws" "scales" "LCornLaws$Scales;", Cond.fieldLink RX5 12 "CornLaws" "returns" "LCornLaws$Returns;", Cond.methodLink RX5 191 yX1_rulingOver, Cond.instanceMethod yX1_rulingOver, Cond.selects RX1 yX1_rulingOver yX1_rulingOver, Cond.initialized RX1, Cond.code yX1_rulingOver cX1_rulingOver 2 (some .int), Cond.fieldLink RX1 9 "CornLaws$Hangings" "on" "[I", Cond.methodLink RX1 21 yX1_hangs, Cond.instanceMethod yX1_hangs, Cond.selects RX1 yX1_hangs yX1_hangs, Cond.code yX1_hangs cX1_hangs 2 (some .boolean), Cond.fieldLink RX1 18 "CornLaws$Hangings" "low" "[I", Cond.methodLink RX5 194 yX4_isOf]
def wsX5_gainAt_r2 : List Cond := [Cond.instanceMethod yX4_isOf, Cond.selects RX4 yX4_isOf yX4_isOf, Cond.initialized RX4, Cond.code yX4_isOf cX4_isOf 3 (some .boolean), Cond.fieldLink RX4 9 "CornLaws$Scales" "grain" "[I", Cond.methodLink RX4 36 yX4_has, Cond.instanceMethod yX4_has, Cond.selects RX4 yX4_has yX4_has, Cond.code yX4_has cX4_has 2 (some .boolean), Cond.fieldLink RX4 32 "CornLaws$Scales" "size" "I", Cond.methodLink RX5 138 yX4_inForce, Cond.instanceMethod yX4_inForce, Cond.selects RX4 yX4_inForce yX4_inForce, Cond.code yX4_inForce cX4_inForce 6 (some .int), Cond.fieldLink RX4 21 "CornLaws$Scales" "steps" "[I", Cond.fieldLink RX4 15 "CornLaws$Scales" "week" "[I", Cond.methodLink RX5 99 yX3_averageKnown, Cond.instanceMethod yX3_averageKnown, Cond.selects RX3 yX3_averageKnown yX3_averageKnown, Cond.initialized RX3, Cond.code yX3_averageKnown cX3_averageKnown 7 (some .int), Cond.methodLink RX3 41 yX3_weeklyKnown, Cond.instanceMethod yX3_weeklyKnown, Cond.selects RX3 yX3_weeklyKnown yX3_weeklyKnown]
def wsX5_gainAt_r3 : List Cond := [Cond.code yX3_weeklyKnown cX3_weeklyKnown 9 (some .int), Cond.fieldLink RX3 33 "CornLaws$Returns" "size" "I", Cond.fieldLink RX3 15 "CornLaws$Returns" "grain" "[I", Cond.fieldLink RX3 18 "CornLaws$Returns" "week" "[I", Cond.fieldLink RX3 24 "CornLaws$Returns" "price" "[I", Cond.fieldLink RX3 21 "CornLaws$Returns" "quarters" "[I", Cond.methodLink RX3 37 yX3_isKnown, Cond.instanceMethod yX3_isKnown, Cond.selects RX3 yX3_isKnown yX3_isKnown, Cond.code yX3_isKnown cX3_isKnown 3 (some .boolean), Cond.fieldLink RX3 27 "CornLaws$Returns" "sworn" "[I", Cond.fieldLink RX3 30 "CornLaws$Returns" "struck" "[I", Cond.methodLink RX5 197 yX4_dutyBy, Cond.instanceMethod yX4_dutyBy, Cond.selects RX4 yX4_dutyBy yX4_dutyBy, Cond.code yX4_dutyBy cX4_dutyBy 5 (some .int), Cond.fieldLink RX4 29 "CornLaws$Scales" "stepDuty" "[[I", Cond.fieldLink RX4 26 "CornLaws$Scales" "stepPrice" "[[I", Cond.methodLink RX5 200 yX1_inProportion, Cond.instanceMethod yX1_inProportion, Cond.selects RX1 yX1_inProportion yX1_inProportion, Cond.code yX1_inProportion cX1_inProportion 3 (some .int), Cond.fieldLink RX1 15 "CornLaws$Hangings" "up" "[I", Cond.methodLink RX5 206 yX0_leftAfter]
def wsX5_gainAt_r4 : List Cond := [Cond.instanceMethod yX0_leftAfter, Cond.selects RX0 yX0_leftAfter yX0_leftAfter, Cond.initialized RX0, Cond.code yX0_leftAfter cX0_leftAfter 6 (some .int), Cond.fieldLink RX0 15 "CornLaws$Cargoes" "inBond" "[I", Cond.methodLink RX0 34 yX0_lossOf, Cond.static yX0_lossOf, Cond.code yX0_lossOf cX0_lossOf 2 (some .int)]
def wsX5_gainAt : List Cond := .code yX5_gainAt cX5_gainAt 6 (some .long) :: ((wsX5_gainAt_r1 ++ (wsX5_gainAt_r2 ++ (wsX5_gainAt_r3 ++ wsX5_gainAt_r4))) ++ wsX50 ++ wsX00 ++ wsX10 ++ wsX40 ++ wsX30)
def wsX5_gain_r1 : List Cond := [Cond.fieldLink RX5 33 "CornLaws" "cargoes" "LCornLaws$Cargoes;", Cond.fieldLink RX5 48 "CornLaws" "now" "I", Cond.constantLong RX5 177 (-9223372036854775808), Cond.methodLink RX5 146 yX0_has, Cond.instanceMethod yX0_has, Cond.selects RX0 yX0_has yX0_has, Cond.initialized RX0, Cond.code yX0_has cX0_has 2 (some .boolean), Cond.fieldLink RX0 30 "CornLaws$Cargoes" "size" "I", Cond.methodLink RX5 44 yX5_isOutside, Cond.static yX5_isOutside, Cond.initialized RX5, Cond.code yX5_isOutside cX5_isOutside 3 (some .boolean), Cond.methodLink RX5 183 yX5_gainAt, Cond.instanceMethod yX5_gainAt, Cond.selects RX5 yX5_gainAt yX5_gainAt, Cond.code yX5_gainAt cX5_gainAt 6 (some .long), Cond.fieldLink RX5 157 "CornLaws$Cargoes" "grain" "[I", Cond.fieldLink RX5 52 "CornLaws" "spoilRate" "I", Cond.methodLink RX5 141 yX5_dutyAt, Cond.instanceMethod yX5_dutyAt, Cond.selects RX5 yX5_dutyAt yX5_dutyAt, Cond.code yX5_dutyAt cX5_dutyAt 8 (some .int), Cond.fieldLink RX5 26 "CornLaws" "hangings" "LCornLaws$Hangings;"]
def wsX5_gain_r2 : List Cond := [Cond.fieldLink RX5 19 "CornLaws" "scales" "LCornLaws$Scales;", Cond.fieldLink RX5 12 "CornLaws" "returns" "LCornLaws$Returns;", Cond.methodLink RX5 191 yX1_rulingOver, Cond.instanceMethod yX1_rulingOver, Cond.selects RX1 yX1_rulingOver yX1_rulingOver, Cond.initialized RX1, Cond.code yX1_rulingOver cX1_rulingOver 2 (some .int), Cond.fieldLink RX1 9 "CornLaws$Hangings" "on" "[I", Cond.methodLink RX1 21 yX1_hangs, Cond.instanceMethod yX1_hangs, Cond.selects RX1 yX1_hangs yX1_hangs, Cond.code yX1_hangs cX1_hangs 2 (some .boolean), Cond.fieldLink RX1 18 "CornLaws$Hangings" "low" "[I", Cond.methodLink RX5 194 yX4_isOf, Cond.instanceMethod yX4_isOf, Cond.selects RX4 yX4_isOf yX4_isOf, Cond.initialized RX4, Cond.code yX4_isOf cX4_isOf 3 (some .boolean), Cond.fieldLink RX4 9 "CornLaws$Scales" "grain" "[I", Cond.methodLink RX4 36 yX4_has, Cond.instanceMethod yX4_has, Cond.selects RX4 yX4_has yX4_has, Cond.code yX4_has cX4_has 2 (some .boolean), Cond.fieldLink RX4 32 "CornLaws$Scales" "size" "I"]
def wsX5_gain_r3 : List Cond := [Cond.methodLink RX5 138 yX4_inForce, Cond.instanceMethod yX4_inForce, Cond.selects RX4 yX4_inForce yX4_inForce, Cond.code yX4_inForce cX4_inForce 6 (some .int), Cond.fieldLink RX4 21 "CornLaws$Scales" "steps" "[I", Cond.fieldLink RX4 15 "CornLaws$Scales" "week" "[I", Cond.methodLink RX5 99 yX3_averageKnown, Cond.instanceMethod yX3_averageKnown, Cond.selects RX3 yX3_averageKnown yX3_averageKnown, Cond.initialized RX3, Cond.code yX3_averageKnown cX3_averageKnown 7 (some .int), Cond.methodLink RX3 41 yX3_weeklyKnown, Cond.instanceMethod yX3_weeklyKnown, Cond.selects RX3 yX3_weeklyKnown yX3_weeklyKnown, Cond.code yX3_weeklyKnown cX3_weeklyKnown 9 (some .int), Cond.fieldLink RX3 33 "CornLaws$Returns" "size" "I", Cond.fieldLink RX3 15 "CornLaws$Returns" "grain" "[I", Cond.fieldLink RX3 18 "CornLaws$Returns" "week" "[I", Cond.fieldLink RX3 24 "CornLaws$Returns" "price" "[I", Cond.fieldLink RX3 21 "CornLaws$Returns" "quarters" "[I", Cond.methodLink RX3 37 yX3_isKnown, Cond.instanceMethod yX3_isKnown, Cond.selects RX3 yX3_isKnown yX3_isKnown, Cond.code yX3_isKnown cX3_isKnown 3 (some .boolean)]
def wsX5_gain_r4 : List Cond := [Cond.fieldLink RX3 27 "CornLaws$Returns" "sworn" "[I", Cond.fieldLink RX3 30 "CornLaws$Returns" "struck" "[I", Cond.methodLink RX5 197 yX4_dutyBy, Cond.instanceMethod yX4_dutyBy, Cond.selects RX4 yX4_dutyBy yX4_dutyBy, Cond.code yX4_dutyBy cX4_dutyBy 5 (some .int), Cond.fieldLink RX4 29 "CornLaws$Scales" "stepDuty" "[[I", Cond.fieldLink RX4 26 "CornLaws$Scales" "stepPrice" "[[I", Cond.methodLink RX5 200 yX1_inProportion, Cond.instanceMethod yX1_inProportion, Cond.selects RX1 yX1_inProportion yX1_inProportion, Cond.code yX1_inProportion cX1_inProportion 3 (some .int), Cond.fieldLink RX1 15 "CornLaws$Hangings" "up" "[I", Cond.methodLink RX5 206 yX0_leftAfter, Cond.instanceMethod yX0_leftAfter, Cond.selects RX0 yX0_leftAfter yX0_leftAfter, Cond.code yX0_leftAfter cX0_leftAfter 6 (some .int), Cond.fieldLink RX0 15 "CornLaws$Cargoes" "inBond" "[I", Cond.methodLink RX0 34 yX0_lossOf, Cond.static yX0_lossOf, Cond.code yX0_lossOf cX0_lossOf 2 (some .int)]
def wsX5_gain : List Cond := .code yX5_gain cX5_gain 4 (some .long) :: ((wsX5_gain_r1 ++ (wsX5_gain_r2 ++ (wsX5_gain_r3 ++ wsX5_gain_r4))) ++ wsX50 ++ wsX00 ++ wsX10 ++ wsX40 ++ wsX30)
def wsX5_best_r1 : List Cond := [Cond.fieldLink RX5 33 "CornLaws" "cargoes" "LCornLaws$Cargoes;", Cond.fieldLink RX5 48 "CornLaws" "now" "I", Cond.methodLink RX5 146 yX0_has, Cond.instanceMethod yX0_has, Cond.selects RX0 yX0_has yX0_has, Cond.initialized RX0, Cond.code yX0_has cX0_has 2 (some .boolean), Cond.fieldLink RX0 30 "CornLaws$Cargoes" "size" "I", Cond.methodLink RX5 44 yX5_isOutside, Cond.static yX5_isOutside, Cond.initialized RX5, Cond.code yX5_isOutside cX5_isOutside 3 (some .boolean), Cond.methodLink RX5 183 yX5_gainAt, Cond.instanceMethod yX5_gainAt, Cond.selects RX5 yX5_gainAt yX5_gainAt, Cond.code yX5_gainAt cX5_gainAt 6 (some .long), Cond.fieldLink RX5 157 "CornLaws$Cargoes" "grain" "[I", Cond.fieldLink RX5 52 "CornLaws" "spoilRate" "I", Cond.methodLink RX5 141 yX5_dutyAt, Cond.instanceMethod yX5_dutyAt, Cond.selects RX5 yX5_dutyAt yX5_dutyAt, Cond.code yX5_dutyAt cX5_dutyAt 8 (some .int), Cond.fieldLink RX5 26 "CornLaws" "hangings" "LCornLaws$Hangings;", Cond.fieldLink RX5 19 "CornLaws" "scales" "LCornLaws$Scales;"]
def wsX5_best_r2 : List Cond := [Cond.fieldLink RX5 12 "CornLaws" "returns" "LCornLaws$Returns;", Cond.methodLink RX5 191 yX1_rulingOver, Cond.instanceMethod yX1_rulingOver, Cond.selects RX1 yX1_rulingOver yX1_rulingOver, Cond.initialized RX1, Cond.code yX1_rulingOver cX1_rulingOver 2 (some .int), Cond.fieldLink RX1 9 "CornLaws$Hangings" "on" "[I", Cond.methodLink RX1 21 yX1_hangs, Cond.instanceMethod yX1_hangs, Cond.selects RX1 yX1_hangs yX1_hangs, Cond.code yX1_hangs cX1_hangs 2 (some .boolean), Cond.fieldLink RX1 18 "CornLaws$Hangings" "low" "[I", Cond.methodLink RX5 194 yX4_isOf, Cond.instanceMethod yX4_isOf, Cond.selects RX4 yX4_isOf yX4_isOf, Cond.initialized RX4, Cond.code yX4_isOf cX4_isOf 3 (some .boolean), Cond.fieldLink RX4 9 "CornLaws$Scales" "grain" "[I", Cond.methodLink RX4 36 yX4_has, Cond.instanceMethod yX4_has, Cond.selects RX4 yX4_has yX4_has, Cond.code yX4_has cX4_has 2 (some .boolean), Cond.fieldLink RX4 32 "CornLaws$Scales" "size" "I", Cond.methodLink RX5 138 yX4_inForce]
def wsX5_best_r3 : List Cond := [Cond.instanceMethod yX4_inForce, Cond.selects RX4 yX4_inForce yX4_inForce, Cond.code yX4_inForce cX4_inForce 6 (some .int), Cond.fieldLink RX4 21 "CornLaws$Scales" "steps" "[I", Cond.fieldLink RX4 15 "CornLaws$Scales" "week" "[I", Cond.methodLink RX5 99 yX3_averageKnown, Cond.instanceMethod yX3_averageKnown, Cond.selects RX3 yX3_averageKnown yX3_averageKnown, Cond.initialized RX3, Cond.code yX3_averageKnown cX3_averageKnown 7 (some .int), Cond.methodLink RX3 41 yX3_weeklyKnown, Cond.instanceMethod yX3_weeklyKnown, Cond.selects RX3 yX3_weeklyKnown yX3_weeklyKnown, Cond.code yX3_weeklyKnown cX3_weeklyKnown 9 (some .int), Cond.fieldLink RX3 33 "CornLaws$Returns" "size" "I", Cond.fieldLink RX3 15 "CornLaws$Returns" "grain" "[I", Cond.fieldLink RX3 18 "CornLaws$Returns" "week" "[I", Cond.fieldLink RX3 24 "CornLaws$Returns" "price" "[I", Cond.fieldLink RX3 21 "CornLaws$Returns" "quarters" "[I", Cond.methodLink RX3 37 yX3_isKnown, Cond.instanceMethod yX3_isKnown, Cond.selects RX3 yX3_isKnown yX3_isKnown, Cond.code yX3_isKnown cX3_isKnown 3 (some .boolean), Cond.fieldLink RX3 27 "CornLaws$Returns" "sworn" "[I"]
def wsX5_best_r4 : List Cond := [Cond.fieldLink RX3 30 "CornLaws$Returns" "struck" "[I", Cond.methodLink RX5 197 yX4_dutyBy, Cond.instanceMethod yX4_dutyBy, Cond.selects RX4 yX4_dutyBy yX4_dutyBy, Cond.code yX4_dutyBy cX4_dutyBy 5 (some .int), Cond.fieldLink RX4 29 "CornLaws$Scales" "stepDuty" "[[I", Cond.fieldLink RX4 26 "CornLaws$Scales" "stepPrice" "[[I", Cond.methodLink RX5 200 yX1_inProportion, Cond.instanceMethod yX1_inProportion, Cond.selects RX1 yX1_inProportion yX1_inProportion, Cond.code yX1_inProportion cX1_inProportion 3 (some .int), Cond.fieldLink RX1 15 "CornLaws$Hangings" "up" "[I", Cond.methodLink RX5 206 yX0_leftAfter, Cond.instanceMethod yX0_leftAfter, Cond.selects RX0 yX0_leftAfter yX0_leftAfter, Cond.code yX0_leftAfter cX0_leftAfter 6 (some .int), Cond.fieldLink RX0 15 "CornLaws$Cargoes" "inBond" "[I", Cond.methodLink RX0 34 yX0_lossOf, Cond.static yX0_lossOf, Cond.code yX0_lossOf cX0_lossOf 2 (some .int)]
def wsX5_best : List Cond := .code yX5_best cX5_best 10 (some .int) :: ((wsX5_best_r1 ++ (wsX5_best_r2 ++ (wsX5_best_r3 ++ wsX5_best_r4))) ++ wsX50 ++ wsX00 ++ wsX10 ++ wsX40 ++ wsX30)
def wsX5_count : List Cond := .code yX5_count cX5_count 2 (some .int) :: ([.fieldLink RX5 48 "CornLaws" "now" "I", .fieldLink RX5 12 "CornLaws" "returns" "LCornLaws$Returns;", .fieldLink RX5 63 "CornLaws$Returns" "size" "I", .fieldLink RX5 19 "CornLaws" "scales" "LCornLaws$Scales;", .fieldLink RX5 107 "CornLaws$Scales" "size" "I", .fieldLink RX5 33 "CornLaws" "cargoes" "LCornLaws$Cargoes;", .fieldLink RX5 144 "CornLaws$Cargoes" "size" "I", .fieldLink RX5 40 "CornLaws" "lettings" "LCornLaws$Lettings;", .fieldLink RX5 154 "CornLaws$Lettings" "size" "I", .methodLink RX5 187 yX3_struckOnes, .instanceMethod yX3_struckOnes, .selects RX3 yX3_struckOnes yX3_struckOnes, .initialized RX3, .code yX3_struckOnes cX3_struckOnes 3 (some .int), .fieldLink RX3 33 "CornLaws$Returns" "size" "I", .fieldLink RX3 30 "CornLaws$Returns" "struck" "[I"] ++ wsX50 ++ wsX30 ++ wsX40 ++ wsX00 ++ wsX20)
def wsX6_init_r1 : List Cond := [Cond.methodLink RX6 1 objectInit, Cond.instanceMethod objectInit, Cond.code objectInit ⟨#[0xb1]⟩ 1 none, Cond.arrayClass .int, Cond.fieldLink RX6 7 "CornLawsModel" "town" "[I", Cond.fieldLink RX6 13 "CornLawsModel" "grain" "[I", Cond.fieldLink RX6 16 "CornLawsModel" "forWeek" "[I", Cond.fieldLink RX6 19 "CornLawsModel" "quarters" "[I", Cond.fieldLink RX6 22 "CornLawsModel" "price" "[I", Cond.fieldLink RX6 25 "CornLawsModel" "sworn" "[I", Cond.fieldLink RX6 28 "CornLawsModel" "struck" "[I", Cond.fieldLink RX6 31 "CornLawsModel" "scaleGrain" "[I", Cond.fieldLink RX6 34 "CornLawsModel" "scaleWeek" "[I", Cond.fieldLink RX6 37 "CornLawsModel" "scaleTold" "[I", Cond.fieldLink RX6 40 "CornLawsModel" "stepMany" "[I", Cond.fieldLink RX6 43 "CornLawsModel" "stepPrice" "[I", Cond.fieldLink RX6 46 "CornLawsModel" "stepDuty" "[I", Cond.fieldLink RX6 49 "CornLawsModel" "hangsOn" "[I", Cond.fieldLink RX6 52 "CornLawsModel" "hangUp" "[I", Cond.fieldLink RX6 55 "CornLawsModel" "hangLow" "[I", Cond.fieldLink RX6 58 "CornLawsModel" "cargoGrain" "[I", Cond.fieldLink RX6 61 "CornLawsModel" "cargoBond" "[I", Cond.fieldLink RX6 64 "CornLawsModel" "cargoOut" "[I", Cond.fieldLink RX6 67 "CornLawsModel" "cargoShipped" "[I"]
def wsX6_init_r2 : List Cond := [Cond.fieldLink RX6 70 "CornLawsModel" "cargoSpoilt" "[I", Cond.fieldLink RX6 73 "CornLawsModel" "cargoWeek" "[I", Cond.fieldLink RX6 76 "CornLawsModel" "letGrain" "[I", Cond.fieldLink RX6 79 "CornLawsModel" "letWeek" "[I", Cond.fieldLink RX6 82 "CornLawsModel" "letMany" "[I", Cond.fieldLink RX6 85 "CornLawsModel" "without" "I", Cond.fieldLink RX6 89 "CornLawsModel" "always" "I"]
def wsX6_init : List Cond := .code yX6_init cX6_init 2 none :: ((wsX6_init_r1 ++ wsX6_init_r2) ++ wsX60)
def wsX6_in : List Cond := .code yX6_in cX6_in 3 (some .boolean) :: ([])
def wsX6_isGrain : List Cond := .code yX6_isGrain cX6_isGrain 1 (some .boolean) :: ([.methodLink RX6 92 yX6_in, .static yX6_in, .initialized RX6, .code yX6_in cX6_in 3 (some .boolean)])
def wsX6_weeks : List Cond := .code yX6_weeks cX6_weeks 5 (some .int) :: ([.fieldLink RX6 96 "CornLawsModel" "week" "I", .fieldLink RX6 99 "CornLawsModel" "cargoes" "I", .fieldLink RX6 61 "CornLawsModel" "cargoBond" "[I", .fieldLink RX6 102 "CornLawsModel" "spoils" "I", .fieldLink RX6 70 "CornLawsModel" "cargoSpoilt" "[I", .methodLink RX6 92 yX6_in, .static yX6_in, .initialized RX6, .code yX6_in cX6_in 3 (some .boolean)] ++ wsX60)
def wsX6_sale : List Cond := .code yX6_sale cX6_sale 6 (some .int) :: ([.fieldLink RX6 96 "CornLawsModel" "week" "I", .fieldLink RX6 109 "CornLawsModel" "returns" "I", .fieldLink RX6 7 "CornLawsModel" "town" "[I", .fieldLink RX6 13 "CornLawsModel" "grain" "[I", .fieldLink RX6 16 "CornLawsModel" "forWeek" "[I", .fieldLink RX6 19 "CornLawsModel" "quarters" "[I", .fieldLink RX6 22 "CornLawsModel" "price" "[I", .fieldLink RX6 25 "CornLawsModel" "sworn" "[I", .fieldLink RX6 28 "CornLawsModel" "struck" "[I", .methodLink RX6 92 yX6_in, .static yX6_in, .initialized RX6, .code yX6_in cX6_in 3 (some .boolean), .methodLink RX6 105 yX6_isGrain, .static yX6_isGrain, .code yX6_isGrain cX6_isGrain 1 (some .boolean)] ++ wsX60)
def wsX6_strike : List Cond := .code yX6_strike cX6_strike 2 (some .int) :: ([.fieldLink RX6 109 "CornLawsModel" "returns" "I", .fieldLink RX6 28 "CornLawsModel" "struck" "[I", .fieldLink RX6 96 "CornLawsModel" "week" "I", .methodLink RX6 92 yX6_in, .static yX6_in, .initialized RX6, .code yX6_in cX6_in 3 (some .boolean)] ++ wsX60)
def wsX6_sold : List Cond := .code yX6_sold cX6_sold 3 (some .int) :: ([.fieldLink RX6 109 "CornLawsModel" "returns" "I", .fieldLink RX6 7 "CornLawsModel" "town" "[I", .fieldLink RX6 13 "CornLawsModel" "grain" "[I", .fieldLink RX6 16 "CornLawsModel" "forWeek" "[I", .fieldLink RX6 19 "CornLawsModel" "quarters" "[I", .fieldLink RX6 22 "CornLawsModel" "price" "[I", .fieldLink RX6 25 "CornLawsModel" "sworn" "[I", .fieldLink RX6 28 "CornLawsModel" "struck" "[I", .methodLink RX6 92 yX6_in, .static yX6_in, .initialized RX6, .code yX6_in cX6_in 3 (some .boolean)] ++ wsX60)
def wsX6_isKnown : List Cond := .code yX6_isKnown cX6_isKnown 3 (some .boolean) :: ([.fieldLink RX6 85 "CornLawsModel" "without" "I", .fieldLink RX6 25 "CornLawsModel" "sworn" "[I", .fieldLink RX6 28 "CornLawsModel" "struck" "[I"] ++ wsX60)
def wsX6_weeklyAt : List Cond := .code yX6_weeklyAt cX6_weeklyAt 10 (some .int) :: ([.fieldLink RX6 109 "CornLawsModel" "returns" "I", .fieldLink RX6 13 "CornLawsModel" "grain" "[I", .fieldLink RX6 16 "CornLawsModel" "forWeek" "[I", .fieldLink RX6 22 "CornLawsModel" "price" "[I", .fieldLink RX6 19 "CornLawsModel" "quarters" "[I", .methodLink RX6 112 yX6_isKnown, .instanceMethod yX6_isKnown, .selects RX6 yX6_isKnown yX6_isKnown, .initialized RX6, .code yX6_isKnown cX6_isKnown 3 (some .boolean), .fieldLink RX6 85 "CornLawsModel" "without" "I", .fieldLink RX6 25 "CornLawsModel" "sworn" "[I", .fieldLink RX6 28 "CornLawsModel" "struck" "[I"] ++ wsX60)
def wsX6_weekly : List Cond := .code yX6_weekly cX6_weekly 4 (some .int) :: ([.methodLink RX6 105 yX6_isGrain, .static yX6_isGrain, .initialized RX6, .code yX6_isGrain cX6_isGrain 1 (some .boolean), .methodLink RX6 92 yX6_in, .static yX6_in, .code yX6_in cX6_in 3 (some .boolean), .methodLink RX6 116 yX6_weeklyAt, .instanceMethod yX6_weeklyAt, .selects RX6 yX6_weeklyAt yX6_weeklyAt, .code yX6_weeklyAt cX6_weeklyAt 10 (some .int), .fieldLink RX6 109 "CornLawsModel" "returns" "I", .fieldLink RX6 13 "CornLawsModel" "grain" "[I", .fieldLink RX6 16 "CornLawsModel" "forWeek" "[I", .fieldLink RX6 22 "CornLawsModel" "price" "[I", .fieldLink RX6 19 "CornLawsModel" "quarters" "[I", .methodLink RX6 112 yX6_isKnown, .instanceMethod yX6_isKnown, .selects RX6 yX6_isKnown yX6_isKnown, .code yX6_isKnown cX6_isKnown 3 (some .boolean), .fieldLink RX6 85 "CornLawsModel" "without" "I", .fieldLink RX6 25 "CornLawsModel" "sworn" "[I", .fieldLink RX6 28 "CornLawsModel" "struck" "[I"] ++ wsX60)
def wsX6_averageAt : List Cond := .code yX6_averageAt cX6_averageAt 7 (some .int) :: ([.methodLink RX6 116 yX6_weeklyAt, .instanceMethod yX6_weeklyAt, .selects RX6 yX6_weeklyAt yX6_weeklyAt, .initialized RX6, .code yX6_weeklyAt cX6_weeklyAt 10 (some .int), .fieldLink RX6 109 "CornLawsModel" "returns" "I", .fieldLink RX6 13 "CornLawsModel" "grain" "[I", .fieldLink RX6 16 "CornLawsModel" "forWeek" "[I", .fieldLink RX6 22 "CornLawsModel" "price" "[I", .fieldLink RX6 19 "CornLawsModel" "quarters" "[I", .methodLink RX6 112 yX6_isKnown, .instanceMethod yX6_isKnown, .selects RX6 yX6_isKnown yX6_isKnown, .code yX6_isKnown cX6_isKnown 3 (some .boolean), .fieldLink RX6 85 "CornLawsModel" "without" "I", .fieldLink RX6 25 "CornLawsModel" "sworn" "[I", .fieldLink RX6 28 "CornLawsModel" "struck" "[I"] ++ wsX60)
def wsX6_average_r1 : List Cond := [Cond.methodLink RX6 105 yX6_isGrain, Cond.static yX6_isGrain, Cond.initialized RX6, Cond.code yX6_isGrain cX6_isGrain 1 (some .boolean), Cond.methodLink RX6 92 yX6_in, Cond.static yX6_in, Cond.code yX6_in cX6_in 3 (some .boolean), Cond.methodLink RX6 120 yX6_averageAt, Cond.instanceMethod yX6_averageAt, Cond.selects RX6 yX6_averageAt yX6_averageAt, Cond.code yX6_averageAt cX6_averageAt 7 (some .int), Cond.methodLink RX6 116 yX6_weeklyAt, Cond.instanceMethod yX6_weeklyAt, Cond.selects RX6 yX6_weeklyAt yX6_weeklyAt, Cond.code yX6_weeklyAt cX6_weeklyAt 10 (some .int), Cond.fieldLink RX6 109 "CornLawsModel" "returns" "I", Cond.fieldLink RX6 13 "CornLawsModel" "grain" "[I", Cond.fieldLink RX6 16 "CornLawsModel" "forWeek" "[I", Cond.fieldLink RX6 22 "CornLawsModel" "price" "[I", Cond.fieldLink RX6 19 "CornLawsModel" "quarters" "[I", Cond.methodLink RX6 112 yX6_isKnown, Cond.instanceMethod yX6_isKnown, Cond.selects RX6 yX6_isKnown yX6_isKnown, Cond.code yX6_isKnown cX6_isKnown 3 (some .boolean)]
def wsX6_average_r2 : List Cond := [Cond.fieldLink RX6 85 "CornLawsModel" "without" "I", Cond.fieldLink RX6 25 "CornLawsModel" "sworn" "[I", Cond.fieldLink RX6 28 "CornLawsModel" "struck" "[I"]
def wsX6_average : List Cond := .code yX6_average cX6_average 3 (some .int) :: ((wsX6_average_r1 ++ wsX6_average_r2) ++ wsX60)
def wsX6_towns : List Cond := .code yX6_towns cX6_towns 6 (some .int) :: ([.fieldLink RX6 109 "CornLawsModel" "returns" "I", .fieldLink RX6 16 "CornLawsModel" "forWeek" "[I", .fieldLink RX6 7 "CornLawsModel" "town" "[I", .methodLink RX6 92 yX6_in, .static yX6_in, .initialized RX6, .code yX6_in cX6_in 3 (some .boolean), .methodLink RX6 112 yX6_isKnown, .instanceMethod yX6_isKnown, .selects RX6 yX6_isKnown yX6_isKnown, .code yX6_isKnown cX6_isKnown 3 (some .boolean), .fieldLink RX6 85 "CornLawsModel" "without" "I", .fieldLink RX6 25 "CornLawsModel" "sworn" "[I", .fieldLink RX6 28 "CornLawsModel" "struck" "[I"] ++ wsX60)
def wsX6_scale : List Cond := .code yX6_scale cX6_scale 3 (some .int) :: ([.fieldLink RX6 96 "CornLawsModel" "week" "I", .fieldLink RX6 123 "CornLawsModel" "scales" "I", .fieldLink RX6 31 "CornLawsModel" "scaleGrain" "[I", .fieldLink RX6 34 "CornLawsModel" "scaleWeek" "[I", .fieldLink RX6 37 "CornLawsModel" "scaleTold" "[I", .fieldLink RX6 40 "CornLawsModel" "stepMany" "[I", .methodLink RX6 105 yX6_isGrain, .static yX6_isGrain, .initialized RX6, .code yX6_isGrain cX6_isGrain 1 (some .boolean), .methodLink RX6 92 yX6_in, .static yX6_in, .code yX6_in cX6_in 3 (some .boolean)] ++ wsX60)
def wsX6_isScale : List Cond := .code yX6_isScale cX6_isScale 2 (some .boolean) :: ([.fieldLink RX6 123 "CornLawsModel" "scales" "I", .methodLink RX6 92 yX6_in, .static yX6_in, .initialized RX6, .code yX6_in cX6_in 3 (some .boolean)] ++ wsX60)
def wsX6_step : List Cond := .code yX6_step cX6_step 4 (some .int) :: ([.fieldLink RX6 40 "CornLawsModel" "stepMany" "[I", .fieldLink RX6 43 "CornLawsModel" "stepPrice" "[I", .fieldLink RX6 34 "CornLawsModel" "scaleWeek" "[I", .fieldLink RX6 96 "CornLawsModel" "week" "I", .fieldLink RX6 37 "CornLawsModel" "scaleTold" "[I", .fieldLink RX6 46 "CornLawsModel" "stepDuty" "[I", .methodLink RX6 126 yX6_isScale, .instanceMethod yX6_isScale, .selects RX6 yX6_isScale yX6_isScale, .initialized RX6, .code yX6_isScale cX6_isScale 2 (some .boolean), .fieldLink RX6 123 "CornLawsModel" "scales" "I", .methodLink RX6 92 yX6_in, .static yX6_in, .code yX6_in cX6_in 3 (some .boolean)] ++ wsX60)
def wsX6_hang : List Cond := .code yX6_hang cX6_hang 7 (some .int) :: ([.fieldLink RX6 49 "CornLawsModel" "hangsOn" "[I", .fieldLink RX6 52 "CornLawsModel" "hangUp" "[I", .fieldLink RX6 55 "CornLawsModel" "hangLow" "[I", .methodLink RX6 105 yX6_isGrain, .static yX6_isGrain, .initialized RX6, .code yX6_isGrain cX6_isGrain 1 (some .boolean), .methodLink RX6 92 yX6_in, .static yX6_in, .code yX6_in cX6_in 3 (some .boolean)] ++ wsX60)
def wsX6_unhang : List Cond := .code yX6_unhang cX6_unhang 2 (some .int) :: ([.fieldLink RX6 49 "CornLawsModel" "hangsOn" "[I", .methodLink RX6 105 yX6_isGrain, .static yX6_isGrain, .initialized RX6, .code yX6_isGrain cX6_isGrain 1 (some .boolean), .methodLink RX6 92 yX6_in, .static yX6_in, .code yX6_in cX6_in 3 (some .boolean)] ++ wsX60)
def wsX6_forceAt : List Cond := .code yX6_forceAt cX6_forceAt 5 (some .int) :: ([.fieldLink RX6 123 "CornLawsModel" "scales" "I", .fieldLink RX6 31 "CornLawsModel" "scaleGrain" "[I", .fieldLink RX6 40 "CornLawsModel" "stepMany" "[I", .fieldLink RX6 34 "CornLawsModel" "scaleWeek" "[I"] ++ wsX60)
def wsX6_force : List Cond := .code yX6_force cX6_force 3 (some .int) :: ([.methodLink RX6 105 yX6_isGrain, .static yX6_isGrain, .initialized RX6, .code yX6_isGrain cX6_isGrain 1 (some .boolean), .methodLink RX6 92 yX6_in, .static yX6_in, .code yX6_in cX6_in 3 (some .boolean), .methodLink RX6 129 yX6_forceAt, .instanceMethod yX6_forceAt, .selects RX6 yX6_forceAt yX6_forceAt, .code yX6_forceAt cX6_forceAt 5 (some .int), .fieldLink RX6 123 "CornLawsModel" "scales" "I", .fieldLink RX6 31 "CornLawsModel" "scaleGrain" "[I", .fieldLink RX6 40 "CornLawsModel" "stepMany" "[I", .fieldLink RX6 34 "CornLawsModel" "scaleWeek" "[I"] ++ wsX60)
def wsX6_ownDuty_r1 : List Cond := [Cond.fieldLink RX6 89 "CornLawsModel" "always" "I", Cond.fieldLink RX6 31 "CornLawsModel" "scaleGrain" "[I", Cond.fieldLink RX6 40 "CornLawsModel" "stepMany" "[I", Cond.fieldLink RX6 43 "CornLawsModel" "stepPrice" "[I", Cond.fieldLink RX6 46 "CornLawsModel" "stepDuty" "[I", Cond.methodLink RX6 129 yX6_forceAt, Cond.instanceMethod yX6_forceAt, Cond.selects RX6 yX6_forceAt yX6_forceAt, Cond.initialized RX6, Cond.code yX6_forceAt cX6_forceAt 5 (some .int), Cond.fieldLink RX6 123 "CornLawsModel" "scales" "I", Cond.fieldLink RX6 34 "CornLawsModel" "scaleWeek" "[I", Cond.methodLink RX6 120 yX6_averageAt, Cond.instanceMethod yX6_averageAt, Cond.selects RX6 yX6_averageAt yX6_averageAt, Cond.code yX6_averageAt cX6_averageAt 7 (some .int), Cond.methodLink RX6 116 yX6_weeklyAt, Cond.instanceMethod yX6_weeklyAt, Cond.selects RX6 yX6_weeklyAt yX6_weeklyAt, Cond.code yX6_weeklyAt cX6_weeklyAt 10 (some .int), Cond.fieldLink RX6 109 "CornLawsModel" "returns" "I", Cond.fieldLink RX6 13 "CornLawsModel" "grain" "[I", Cond.fieldLink RX6 16 "CornLawsModel" "forWeek" "[I", Cond.fieldLink RX6 22 "CornLawsModel" "price" "[I"]
def wsX6_ownDuty_r2 : List Cond := [Cond.fieldLink RX6 19 "CornLawsModel" "quarters" "[I", Cond.methodLink RX6 112 yX6_isKnown, Cond.instanceMethod yX6_isKnown, Cond.selects RX6 yX6_isKnown yX6_isKnown, Cond.code yX6_isKnown cX6_isKnown 3 (some .boolean), Cond.fieldLink RX6 85 "CornLawsModel" "without" "I", Cond.fieldLink RX6 25 "CornLawsModel" "sworn" "[I", Cond.fieldLink RX6 28 "CornLawsModel" "struck" "[I"]
def wsX6_ownDuty : List Cond := .code yX6_ownDuty cX6_ownDuty 8 (some .int) :: ((wsX6_ownDuty_r1 ++ wsX6_ownDuty_r2) ++ wsX60)
def wsX6_dutyAt_r1 : List Cond := [Cond.fieldLink RX6 49 "CornLawsModel" "hangsOn" "[I", Cond.fieldLink RX6 52 "CornLawsModel" "hangUp" "[I", Cond.fieldLink RX6 55 "CornLawsModel" "hangLow" "[I", Cond.methodLink RX6 133 yX6_ownDuty, Cond.instanceMethod yX6_ownDuty, Cond.selects RX6 yX6_ownDuty yX6_ownDuty, Cond.initialized RX6, Cond.code yX6_ownDuty cX6_ownDuty 8 (some .int), Cond.fieldLink RX6 89 "CornLawsModel" "always" "I", Cond.fieldLink RX6 31 "CornLawsModel" "scaleGrain" "[I", Cond.fieldLink RX6 40 "CornLawsModel" "stepMany" "[I", Cond.fieldLink RX6 43 "CornLawsModel" "stepPrice" "[I", Cond.fieldLink RX6 46 "CornLawsModel" "stepDuty" "[I", Cond.methodLink RX6 129 yX6_forceAt, Cond.instanceMethod yX6_forceAt, Cond.selects RX6 yX6_forceAt yX6_forceAt, Cond.code yX6_forceAt cX6_forceAt 5 (some .int), Cond.fieldLink RX6 123 "CornLawsModel" "scales" "I", Cond.fieldLink RX6 34 "CornLawsModel" "scaleWeek" "[I", Cond.methodLink RX6 120 yX6_averageAt, Cond.instanceMethod yX6_averageAt, Cond.selects RX6 yX6_averageAt yX6_averageAt, Cond.code yX6_averageAt cX6_averageAt 7 (some .int), Cond.methodLink RX6 116 yX6_weeklyAt]
def wsX6_dutyAt_r2 : List Cond := [Cond.instanceMethod yX6_weeklyAt, Cond.selects RX6 yX6_weeklyAt yX6_weeklyAt, Cond.code yX6_weeklyAt cX6_weeklyAt 10 (some .int), Cond.fieldLink RX6 109 "CornLawsModel" "returns" "I", Cond.fieldLink RX6 13 "CornLawsModel" "grain" "[I", Cond.fieldLink RX6 16 "CornLawsModel" "forWeek" "[I", Cond.fieldLink RX6 22 "CornLawsModel" "price" "[I", Cond.fieldLink RX6 19 "CornLawsModel" "quarters" "[I", Cond.methodLink RX6 112 yX6_isKnown, Cond.instanceMethod yX6_isKnown, Cond.selects RX6 yX6_isKnown yX6_isKnown, Cond.code yX6_isKnown cX6_isKnown 3 (some .boolean), Cond.fieldLink RX6 85 "CornLawsModel" "without" "I", Cond.fieldLink RX6 25 "CornLawsModel" "sworn" "[I", Cond.fieldLink RX6 28 "CornLawsModel" "struck" "[I"]
def wsX6_dutyAt : List Cond := .code yX6_dutyAt cX6_dutyAt 5 (some .int) :: ((wsX6_dutyAt_r1 ++ wsX6_dutyAt_r2) ++ wsX60)
def wsX6_duty_r1 : List Cond := [Cond.methodLink RX6 105 yX6_isGrain, Cond.static yX6_isGrain, Cond.initialized RX6, Cond.code yX6_isGrain cX6_isGrain 1 (some .boolean), Cond.methodLink RX6 92 yX6_in, Cond.static yX6_in, Cond.code yX6_in cX6_in 3 (some .boolean), Cond.methodLink RX6 136 yX6_dutyAt, Cond.instanceMethod yX6_dutyAt, Cond.selects RX6 yX6_dutyAt yX6_dutyAt, Cond.code yX6_dutyAt cX6_dutyAt 5 (some .int), Cond.fieldLink RX6 49 "CornLawsModel" "hangsOn" "[I", Cond.fieldLink RX6 52 "CornLawsModel" "hangUp" "[I", Cond.fieldLink RX6 55 "CornLawsModel" "hangLow" "[I", Cond.methodLink RX6 133 yX6_ownDuty, Cond.instanceMethod yX6_ownDuty, Cond.selects RX6 yX6_ownDuty yX6_ownDuty, Cond.code yX6_ownDuty cX6_ownDuty 8 (some .int), Cond.fieldLink RX6 89 "CornLawsModel" "always" "I", Cond.fieldLink RX6 31 "CornLawsModel" "scaleGrain" "[I", Cond.fieldLink RX6 40 "CornLawsModel" "stepMany" "[I", Cond.fieldLink RX6 43 "CornLawsModel" "stepPrice" "[I", Cond.fieldLink RX6 46 "CornLawsModel" "stepDuty" "[I", Cond.methodLink RX6 129 yX6_forceAt]
def wsX6_duty_r2 : List Cond := [Cond.instanceMethod yX6_forceAt, Cond.selects RX6 yX6_forceAt yX6_forceAt, Cond.code yX6_forceAt cX6_forceAt 5 (some .int), Cond.fieldLink RX6 123 "CornLawsModel" "scales" "I", Cond.fieldLink RX6 34 "CornLawsModel" "scaleWeek" "[I", Cond.methodLink RX6 120 yX6_averageAt, Cond.instanceMethod yX6_averageAt, Cond.selects RX6 yX6_averageAt yX6_averageAt, Cond.code yX6_averageAt cX6_averageAt 7 (some .int), Cond.methodLink RX6 116 yX6_weeklyAt, Cond.instanceMethod yX6_weeklyAt, Cond.selects RX6 yX6_weeklyAt yX6_weeklyAt, Cond.code yX6_weeklyAt cX6_weeklyAt 10 (some .int), Cond.fieldLink RX6 109 "CornLawsModel" "returns" "I", Cond.fieldLink RX6 13 "CornLawsModel" "grain" "[I", Cond.fieldLink RX6 16 "CornLawsModel" "forWeek" "[I", Cond.fieldLink RX6 22 "CornLawsModel" "price" "[I", Cond.fieldLink RX6 19 "CornLawsModel" "quarters" "[I", Cond.methodLink RX6 112 yX6_isKnown, Cond.instanceMethod yX6_isKnown, Cond.selects RX6 yX6_isKnown yX6_isKnown, Cond.code yX6_isKnown cX6_isKnown 3 (some .boolean), Cond.fieldLink RX6 85 "CornLawsModel" "without" "I", Cond.fieldLink RX6 25 "CornLawsModel" "sworn" "[I"]
def wsX6_duty_r3 : List Cond := [Cond.fieldLink RX6 28 "CornLawsModel" "struck" "[I"]
def wsX6_duty : List Cond := .code yX6_duty cX6_duty 3 (some .int) :: ((wsX6_duty_r1 ++ (wsX6_duty_r2 ++ wsX6_duty_r3)) ++ wsX60)
def wsX6_cargo : List Cond := .code yX6_cargo cX6_cargo 3 (some .int) :: ([.fieldLink RX6 99 "CornLawsModel" "cargoes" "I", .fieldLink RX6 58 "CornLawsModel" "cargoGrain" "[I", .fieldLink RX6 61 "CornLawsModel" "cargoBond" "[I", .fieldLink RX6 64 "CornLawsModel" "cargoOut" "[I", .fieldLink RX6 67 "CornLawsModel" "cargoShipped" "[I", .fieldLink RX6 70 "CornLawsModel" "cargoSpoilt" "[I", .fieldLink RX6 73 "CornLawsModel" "cargoWeek" "[I", .fieldLink RX6 96 "CornLawsModel" "week" "I", .methodLink RX6 105 yX6_isGrain, .static yX6_isGrain, .initialized RX6, .code yX6_isGrain cX6_isGrain 1 (some .boolean), .methodLink RX6 92 yX6_in, .static yX6_in, .code yX6_in cX6_in 3 (some .boolean)] ++ wsX60)
def wsX6_isCargo : List Cond := .code yX6_isCargo cX6_isCargo 2 (some .boolean) :: ([.fieldLink RX6 99 "CornLawsModel" "cargoes" "I", .methodLink RX6 92 yX6_in, .static yX6_in, .initialized RX6, .code yX6_in cX6_in 3 (some .boolean)] ++ wsX60)
def wsX6_spoil : List Cond := .code yX6_spoil cX6_spoil 3 (some .int) :: ([.fieldLink RX6 102 "CornLawsModel" "spoils" "I", .methodLink RX6 92 yX6_in, .static yX6_in, .initialized RX6, .code yX6_in cX6_in 3 (some .boolean)] ++ wsX60)
def wsX6_letOut_r1 : List Cond := [Cond.constantLong RX6 142 (-2), Cond.fieldLink RX6 61 "CornLawsModel" "cargoBond" "[I", Cond.constantLong RX6 144 (-3), Cond.fieldLink RX6 146 "CornLawsModel" "lettings" "I", Cond.constantLong RX6 149 (-4), Cond.fieldLink RX6 58 "CornLawsModel" "cargoGrain" "[I", Cond.fieldLink RX6 96 "CornLawsModel" "week" "I", Cond.fieldLink RX6 64 "CornLawsModel" "cargoOut" "[I", Cond.fieldLink RX6 76 "CornLawsModel" "letGrain" "[I", Cond.fieldLink RX6 79 "CornLawsModel" "letWeek" "[I", Cond.fieldLink RX6 82 "CornLawsModel" "letMany" "[I", Cond.fieldLink RX6 151 "CornLawsModel" "chest" "J", Cond.methodLink RX6 139 yX6_isCargo, Cond.instanceMethod yX6_isCargo, Cond.selects RX6 yX6_isCargo yX6_isCargo, Cond.initialized RX6, Cond.code yX6_isCargo cX6_isCargo 2 (some .boolean), Cond.fieldLink RX6 99 "CornLawsModel" "cargoes" "I", Cond.methodLink RX6 92 yX6_in, Cond.static yX6_in, Cond.code yX6_in cX6_in 3 (some .boolean), Cond.methodLink RX6 136 yX6_dutyAt, Cond.instanceMethod yX6_dutyAt, Cond.selects RX6 yX6_dutyAt yX6_dutyAt]
def wsX6_letOut_r2 : List Cond := [Cond.code yX6_dutyAt cX6_dutyAt 5 (some .int), Cond.fieldLink RX6 49 "CornLawsModel" "hangsOn" "[I", Cond.fieldLink RX6 52 "CornLawsModel" "hangUp" "[I", Cond.fieldLink RX6 55 "CornLawsModel" "hangLow" "[I", Cond.methodLink RX6 133 yX6_ownDuty, Cond.instanceMethod yX6_ownDuty, Cond.selects RX6 yX6_ownDuty yX6_ownDuty, Cond.code yX6_ownDuty cX6_ownDuty 8 (some .int), Cond.fieldLink RX6 89 "CornLawsModel" "always" "I", Cond.fieldLink RX6 31 "CornLawsModel" "scaleGrain" "[I", Cond.fieldLink RX6 40 "CornLawsModel" "stepMany" "[I", Cond.fieldLink RX6 43 "CornLawsModel" "stepPrice" "[I", Cond.fieldLink RX6 46 "CornLawsModel" "stepDuty" "[I", Cond.methodLink RX6 129 yX6_forceAt, Cond.instanceMethod yX6_forceAt, Cond.selects RX6 yX6_forceAt yX6_forceAt, Cond.code yX6_forceAt cX6_forceAt 5 (some .int), Cond.fieldLink RX6 123 "CornLawsModel" "scales" "I", Cond.fieldLink RX6 34 "CornLawsModel" "scaleWeek" "[I", Cond.methodLink RX6 120 yX6_averageAt, Cond.instanceMethod yX6_averageAt, Cond.selects RX6 yX6_averageAt yX6_averageAt, Cond.code yX6_averageAt cX6_averageAt 7 (some .int), Cond.methodLink RX6 116 yX6_weeklyAt]
def wsX6_letOut_r3 : List Cond := [Cond.instanceMethod yX6_weeklyAt, Cond.selects RX6 yX6_weeklyAt yX6_weeklyAt, Cond.code yX6_weeklyAt cX6_weeklyAt 10 (some .int), Cond.fieldLink RX6 109 "CornLawsModel" "returns" "I", Cond.fieldLink RX6 13 "CornLawsModel" "grain" "[I", Cond.fieldLink RX6 16 "CornLawsModel" "forWeek" "[I", Cond.fieldLink RX6 22 "CornLawsModel" "price" "[I", Cond.fieldLink RX6 19 "CornLawsModel" "quarters" "[I", Cond.methodLink RX6 112 yX6_isKnown, Cond.instanceMethod yX6_isKnown, Cond.selects RX6 yX6_isKnown yX6_isKnown, Cond.code yX6_isKnown cX6_isKnown 3 (some .boolean), Cond.fieldLink RX6 85 "CornLawsModel" "without" "I", Cond.fieldLink RX6 25 "CornLawsModel" "sworn" "[I", Cond.fieldLink RX6 28 "CornLawsModel" "struck" "[I"]
def wsX6_letOut : List Cond := .code yX6_letOut cX6_letOut 5 (some .long) :: ((wsX6_letOut_r1 ++ (wsX6_letOut_r2 ++ wsX6_letOut_r3)) ++ wsX60)
def wsX6_ship : List Cond := .code yX6_ship cX6_ship 3 (some .int) :: ([.fieldLink RX6 61 "CornLawsModel" "cargoBond" "[I", .fieldLink RX6 67 "CornLawsModel" "cargoShipped" "[I", .methodLink RX6 139 yX6_isCargo, .instanceMethod yX6_isCargo, .selects RX6 yX6_isCargo yX6_isCargo, .initialized RX6, .code yX6_isCargo cX6_isCargo 2 (some .boolean), .fieldLink RX6 99 "CornLawsModel" "cargoes" "I", .methodLink RX6 92 yX6_in, .static yX6_in, .code yX6_in cX6_in 3 (some .boolean)] ++ wsX60)
def wsX6_bond : List Cond := .code yX6_bond cX6_bond 3 (some .int) :: ([.fieldLink RX6 58 "CornLawsModel" "cargoGrain" "[I", .fieldLink RX6 61 "CornLawsModel" "cargoBond" "[I", .fieldLink RX6 64 "CornLawsModel" "cargoOut" "[I", .fieldLink RX6 67 "CornLawsModel" "cargoShipped" "[I", .fieldLink RX6 70 "CornLawsModel" "cargoSpoilt" "[I", .fieldLink RX6 73 "CornLawsModel" "cargoWeek" "[I", .methodLink RX6 139 yX6_isCargo, .instanceMethod yX6_isCargo, .selects RX6 yX6_isCargo yX6_isCargo, .initialized RX6, .code yX6_isCargo cX6_isCargo 2 (some .boolean), .fieldLink RX6 99 "CornLawsModel" "cargoes" "I", .methodLink RX6 92 yX6_in, .static yX6_in, .code yX6_in cX6_in 3 (some .boolean)] ++ wsX60)
def wsX6_chest : List Cond := .code yX6_chest cX6_chest 1 (some .long) :: ([.fieldLink RX6 151 "CornLawsModel" "chest" "J"] ++ wsX60)
def wsX6_paidAnew_r1 : List Cond := [Cond.fieldLink RX6 146 "CornLawsModel" "lettings" "I", Cond.fieldLink RX6 82 "CornLawsModel" "letMany" "[I", Cond.fieldLink RX6 76 "CornLawsModel" "letGrain" "[I", Cond.fieldLink RX6 79 "CornLawsModel" "letWeek" "[I", Cond.methodLink RX6 136 yX6_dutyAt, Cond.instanceMethod yX6_dutyAt, Cond.selects RX6 yX6_dutyAt yX6_dutyAt, Cond.initialized RX6, Cond.code yX6_dutyAt cX6_dutyAt 5 (some .int), Cond.fieldLink RX6 49 "CornLawsModel" "hangsOn" "[I", Cond.fieldLink RX6 52 "CornLawsModel" "hangUp" "[I", Cond.fieldLink RX6 55 "CornLawsModel" "hangLow" "[I", Cond.methodLink RX6 133 yX6_ownDuty, Cond.instanceMethod yX6_ownDuty, Cond.selects RX6 yX6_ownDuty yX6_ownDuty, Cond.code yX6_ownDuty cX6_ownDuty 8 (some .int), Cond.fieldLink RX6 89 "CornLawsModel" "always" "I", Cond.fieldLink RX6 31 "CornLawsModel" "scaleGrain" "[I", Cond.fieldLink RX6 40 "CornLawsModel" "stepMany" "[I", Cond.fieldLink RX6 43 "CornLawsModel" "stepPrice" "[I", Cond.fieldLink RX6 46 "CornLawsModel" "stepDuty" "[I", Cond.methodLink RX6 129 yX6_forceAt, Cond.instanceMethod yX6_forceAt, Cond.selects RX6 yX6_forceAt yX6_forceAt]
def wsX6_paidAnew_r2 : List Cond := [Cond.code yX6_forceAt cX6_forceAt 5 (some .int), Cond.fieldLink RX6 123 "CornLawsModel" "scales" "I", Cond.fieldLink RX6 34 "CornLawsModel" "scaleWeek" "[I", Cond.methodLink RX6 120 yX6_averageAt, Cond.instanceMethod yX6_averageAt, Cond.selects RX6 yX6_averageAt yX6_averageAt, Cond.code yX6_averageAt cX6_averageAt 7 (some .int), Cond.methodLink RX6 116 yX6_weeklyAt, Cond.instanceMethod yX6_weeklyAt, Cond.selects RX6 yX6_weeklyAt yX6_weeklyAt, Cond.code yX6_weeklyAt cX6_weeklyAt 10 (some .int), Cond.fieldLink RX6 109 "CornLawsModel" "returns" "I", Cond.fieldLink RX6 13 "CornLawsModel" "grain" "[I", Cond.fieldLink RX6 16 "CornLawsModel" "forWeek" "[I", Cond.fieldLink RX6 22 "CornLawsModel" "price" "[I", Cond.fieldLink RX6 19 "CornLawsModel" "quarters" "[I", Cond.methodLink RX6 112 yX6_isKnown, Cond.instanceMethod yX6_isKnown, Cond.selects RX6 yX6_isKnown yX6_isKnown, Cond.code yX6_isKnown cX6_isKnown 3 (some .boolean), Cond.fieldLink RX6 85 "CornLawsModel" "without" "I", Cond.fieldLink RX6 25 "CornLawsModel" "sworn" "[I", Cond.fieldLink RX6 28 "CornLawsModel" "struck" "[I"]
def wsX6_paidAnew : List Cond := .code yX6_paidAnew cX6_paidAnew 4 (some .long) :: ((wsX6_paidAnew_r1 ++ wsX6_paidAnew_r2) ++ wsX60)
def wsX6_worth_r1 : List Cond := [Cond.fieldLink RX6 109 "CornLawsModel" "returns" "I", Cond.constantLong RX6 155 (-9223372036854775808), Cond.fieldLink RX6 85 "CornLawsModel" "without" "I", Cond.fieldLink RX6 151 "CornLawsModel" "chest" "J", Cond.methodLink RX6 92 yX6_in, Cond.static yX6_in, Cond.initialized RX6, Cond.code yX6_in cX6_in 3 (some .boolean), Cond.methodLink RX6 157 yX6_paidAnew, Cond.instanceMethod yX6_paidAnew, Cond.selects RX6 yX6_paidAnew yX6_paidAnew, Cond.code yX6_paidAnew cX6_paidAnew 4 (some .long), Cond.fieldLink RX6 146 "CornLawsModel" "lettings" "I", Cond.fieldLink RX6 82 "CornLawsModel" "letMany" "[I", Cond.fieldLink RX6 76 "CornLawsModel" "letGrain" "[I", Cond.fieldLink RX6 79 "CornLawsModel" "letWeek" "[I", Cond.methodLink RX6 136 yX6_dutyAt, Cond.instanceMethod yX6_dutyAt, Cond.selects RX6 yX6_dutyAt yX6_dutyAt, Cond.code yX6_dutyAt cX6_dutyAt 5 (some .int), Cond.fieldLink RX6 49 "CornLawsModel" "hangsOn" "[I", Cond.fieldLink RX6 52 "CornLawsModel" "hangUp" "[I", Cond.fieldLink RX6 55 "CornLawsModel" "hangLow" "[I", Cond.methodLink RX6 133 yX6_ownDuty]
def wsX6_worth_r2 : List Cond := [Cond.instanceMethod yX6_ownDuty, Cond.selects RX6 yX6_ownDuty yX6_ownDuty, Cond.code yX6_ownDuty cX6_ownDuty 8 (some .int), Cond.fieldLink RX6 89 "CornLawsModel" "always" "I", Cond.fieldLink RX6 31 "CornLawsModel" "scaleGrain" "[I", Cond.fieldLink RX6 40 "CornLawsModel" "stepMany" "[I", Cond.fieldLink RX6 43 "CornLawsModel" "stepPrice" "[I", Cond.fieldLink RX6 46 "CornLawsModel" "stepDuty" "[I", Cond.methodLink RX6 129 yX6_forceAt, Cond.instanceMethod yX6_forceAt, Cond.selects RX6 yX6_forceAt yX6_forceAt, Cond.code yX6_forceAt cX6_forceAt 5 (some .int), Cond.fieldLink RX6 123 "CornLawsModel" "scales" "I", Cond.fieldLink RX6 34 "CornLawsModel" "scaleWeek" "[I", Cond.methodLink RX6 120 yX6_averageAt, Cond.instanceMethod yX6_averageAt, Cond.selects RX6 yX6_averageAt yX6_averageAt, Cond.code yX6_averageAt cX6_averageAt 7 (some .int), Cond.methodLink RX6 116 yX6_weeklyAt, Cond.instanceMethod yX6_weeklyAt, Cond.selects RX6 yX6_weeklyAt yX6_weeklyAt, Cond.code yX6_weeklyAt cX6_weeklyAt 10 (some .int), Cond.fieldLink RX6 13 "CornLawsModel" "grain" "[I", Cond.fieldLink RX6 16 "CornLawsModel" "forWeek" "[I"]
def wsX6_worth_r3 : List Cond := [Cond.fieldLink RX6 22 "CornLawsModel" "price" "[I", Cond.fieldLink RX6 19 "CornLawsModel" "quarters" "[I", Cond.methodLink RX6 112 yX6_isKnown, Cond.instanceMethod yX6_isKnown, Cond.selects RX6 yX6_isKnown yX6_isKnown, Cond.code yX6_isKnown cX6_isKnown 3 (some .boolean), Cond.fieldLink RX6 25 "CornLawsModel" "sworn" "[I", Cond.fieldLink RX6 28 "CornLawsModel" "struck" "[I"]
def wsX6_worth : List Cond := .code yX6_worth cX6_worth 4 (some .long) :: ((wsX6_worth_r1 ++ (wsX6_worth_r2 ++ wsX6_worth_r3)) ++ wsX60)
def wsX6_other_r1 : List Cond := [Cond.constantLong RX6 142 (-2), Cond.fieldLink RX6 89 "CornLawsModel" "always" "I", Cond.methodLink RX6 126 yX6_isScale, Cond.instanceMethod yX6_isScale, Cond.selects RX6 yX6_isScale yX6_isScale, Cond.initialized RX6, Cond.code yX6_isScale cX6_isScale 2 (some .boolean), Cond.fieldLink RX6 123 "CornLawsModel" "scales" "I", Cond.methodLink RX6 92 yX6_in, Cond.static yX6_in, Cond.code yX6_in cX6_in 3 (some .boolean), Cond.methodLink RX6 157 yX6_paidAnew, Cond.instanceMethod yX6_paidAnew, Cond.selects RX6 yX6_paidAnew yX6_paidAnew, Cond.code yX6_paidAnew cX6_paidAnew 4 (some .long), Cond.fieldLink RX6 146 "CornLawsModel" "lettings" "I", Cond.fieldLink RX6 82 "CornLawsModel" "letMany" "[I", Cond.fieldLink RX6 76 "CornLawsModel" "letGrain" "[I", Cond.fieldLink RX6 79 "CornLawsModel" "letWeek" "[I", Cond.methodLink RX6 136 yX6_dutyAt, Cond.instanceMethod yX6_dutyAt, Cond.selects RX6 yX6_dutyAt yX6_dutyAt, Cond.code yX6_dutyAt cX6_dutyAt 5 (some .int), Cond.fieldLink RX6 49 "CornLawsModel" "hangsOn" "[I"]
def wsX6_other_r2 : List Cond := [Cond.fieldLink RX6 52 "CornLawsModel" "hangUp" "[I", Cond.fieldLink RX6 55 "CornLawsModel" "hangLow" "[I", Cond.methodLink RX6 133 yX6_ownDuty, Cond.instanceMethod yX6_ownDuty, Cond.selects RX6 yX6_ownDuty yX6_ownDuty, Cond.code yX6_ownDuty cX6_ownDuty 8 (some .int), Cond.fieldLink RX6 31 "CornLawsModel" "scaleGrain" "[I", Cond.fieldLink RX6 40 "CornLawsModel" "stepMany" "[I", Cond.fieldLink RX6 43 "CornLawsModel" "stepPrice" "[I", Cond.fieldLink RX6 46 "CornLawsModel" "stepDuty" "[I", Cond.methodLink RX6 129 yX6_forceAt, Cond.instanceMethod yX6_forceAt, Cond.selects RX6 yX6_forceAt yX6_forceAt, Cond.code yX6_forceAt cX6_forceAt 5 (some .int), Cond.fieldLink RX6 34 "CornLawsModel" "scaleWeek" "[I", Cond.methodLink RX6 120 yX6_averageAt, Cond.instanceMethod yX6_averageAt, Cond.selects RX6 yX6_averageAt yX6_averageAt, Cond.code yX6_averageAt cX6_averageAt 7 (some .int), Cond.methodLink RX6 116 yX6_weeklyAt, Cond.instanceMethod yX6_weeklyAt, Cond.selects RX6 yX6_weeklyAt yX6_weeklyAt, Cond.code yX6_weeklyAt cX6_weeklyAt 10 (some .int), Cond.fieldLink RX6 109 "CornLawsModel" "returns" "I"]
def wsX6_other_r3 : List Cond := [Cond.fieldLink RX6 13 "CornLawsModel" "grain" "[I", Cond.fieldLink RX6 16 "CornLawsModel" "forWeek" "[I", Cond.fieldLink RX6 22 "CornLawsModel" "price" "[I", Cond.fieldLink RX6 19 "CornLawsModel" "quarters" "[I", Cond.methodLink RX6 112 yX6_isKnown, Cond.instanceMethod yX6_isKnown, Cond.selects RX6 yX6_isKnown yX6_isKnown, Cond.code yX6_isKnown cX6_isKnown 3 (some .boolean), Cond.fieldLink RX6 85 "CornLawsModel" "without" "I", Cond.fieldLink RX6 25 "CornLawsModel" "sworn" "[I", Cond.fieldLink RX6 28 "CornLawsModel" "struck" "[I"]
def wsX6_other : List Cond := .code yX6_other cX6_other 4 (some .long) :: ((wsX6_other_r1 ++ (wsX6_other_r2 ++ wsX6_other_r3)) ++ wsX60)
def wsX6_gainAt_r1 : List Cond := [Cond.fieldLink RX6 61 "CornLawsModel" "cargoBond" "[I", Cond.fieldLink RX6 96 "CornLawsModel" "week" "I", Cond.fieldLink RX6 102 "CornLawsModel" "spoils" "I", Cond.fieldLink RX6 58 "CornLawsModel" "cargoGrain" "[I", Cond.methodLink RX6 136 yX6_dutyAt, Cond.instanceMethod yX6_dutyAt, Cond.selects RX6 yX6_dutyAt yX6_dutyAt, Cond.initialized RX6, Cond.code yX6_dutyAt cX6_dutyAt 5 (some .int), Cond.fieldLink RX6 49 "CornLawsModel" "hangsOn" "[I", Cond.fieldLink RX6 52 "CornLawsModel" "hangUp" "[I", Cond.fieldLink RX6 55 "CornLawsModel" "hangLow" "[I", Cond.methodLink RX6 133 yX6_ownDuty, Cond.instanceMethod yX6_ownDuty, Cond.selects RX6 yX6_ownDuty yX6_ownDuty, Cond.code yX6_ownDuty cX6_ownDuty 8 (some .int), Cond.fieldLink RX6 89 "CornLawsModel" "always" "I", Cond.fieldLink RX6 31 "CornLawsModel" "scaleGrain" "[I", Cond.fieldLink RX6 40 "CornLawsModel" "stepMany" "[I", Cond.fieldLink RX6 43 "CornLawsModel" "stepPrice" "[I", Cond.fieldLink RX6 46 "CornLawsModel" "stepDuty" "[I", Cond.methodLink RX6 129 yX6_forceAt, Cond.instanceMethod yX6_forceAt, Cond.selects RX6 yX6_forceAt yX6_forceAt]
def wsX6_gainAt_r2 : List Cond := [Cond.code yX6_forceAt cX6_forceAt 5 (some .int), Cond.fieldLink RX6 123 "CornLawsModel" "scales" "I", Cond.fieldLink RX6 34 "CornLawsModel" "scaleWeek" "[I", Cond.methodLink RX6 120 yX6_averageAt, Cond.instanceMethod yX6_averageAt, Cond.selects RX6 yX6_averageAt yX6_averageAt, Cond.code yX6_averageAt cX6_averageAt 7 (some .int), Cond.methodLink RX6 116 yX6_weeklyAt, Cond.instanceMethod yX6_weeklyAt, Cond.selects RX6 yX6_weeklyAt yX6_weeklyAt, Cond.code yX6_weeklyAt cX6_weeklyAt 10 (some .int), Cond.fieldLink RX6 109 "CornLawsModel" "returns" "I", Cond.fieldLink RX6 13 "CornLawsModel" "grain" "[I", Cond.fieldLink RX6 16 "CornLawsModel" "forWeek" "[I", Cond.fieldLink RX6 22 "CornLawsModel" "price" "[I", Cond.fieldLink RX6 19 "CornLawsModel" "quarters" "[I", Cond.methodLink RX6 112 yX6_isKnown, Cond.instanceMethod yX6_isKnown, Cond.selects RX6 yX6_isKnown yX6_isKnown, Cond.code yX6_isKnown cX6_isKnown 3 (some .boolean), Cond.fieldLink RX6 85 "CornLawsModel" "without" "I", Cond.fieldLink RX6 25 "CornLawsModel" "sworn" "[I", Cond.fieldLink RX6 28 "CornLawsModel" "struck" "[I"]
def wsX6_gainAt : List Cond := .code yX6_gainAt cX6_gainAt 6 (some .long) :: ((wsX6_gainAt_r1 ++ wsX6_gainAt_r2) ++ wsX60)
def wsX6_gain_r1 : List Cond := [Cond.fieldLink RX6 96 "CornLawsModel" "week" "I", Cond.constantLong RX6 155 (-9223372036854775808), Cond.methodLink RX6 139 yX6_isCargo, Cond.instanceMethod yX6_isCargo, Cond.selects RX6 yX6_isCargo yX6_isCargo, Cond.initialized RX6, Cond.code yX6_isCargo cX6_isCargo 2 (some .boolean), Cond.fieldLink RX6 99 "CornLawsModel" "cargoes" "I", Cond.methodLink RX6 92 yX6_in, Cond.static yX6_in, Cond.code yX6_in cX6_in 3 (some .boolean), Cond.methodLink RX6 161 yX6_gainAt, Cond.instanceMethod yX6_gainAt, Cond.selects RX6 yX6_gainAt yX6_gainAt, Cond.code yX6_gainAt cX6_gainAt 6 (some .long), Cond.fieldLink RX6 61 "CornLawsModel" "cargoBond" "[I", Cond.fieldLink RX6 102 "CornLawsModel" "spoils" "I", Cond.fieldLink RX6 58 "CornLawsModel" "cargoGrain" "[I", Cond.methodLink RX6 136 yX6_dutyAt, Cond.instanceMethod yX6_dutyAt, Cond.selects RX6 yX6_dutyAt yX6_dutyAt, Cond.code yX6_dutyAt cX6_dutyAt 5 (some .int), Cond.fieldLink RX6 49 "CornLawsModel" "hangsOn" "[I", Cond.fieldLink RX6 52 "CornLawsModel" "hangUp" "[I"]
def wsX6_gain_r2 : List Cond := [Cond.fieldLink RX6 55 "CornLawsModel" "hangLow" "[I", Cond.methodLink RX6 133 yX6_ownDuty, Cond.instanceMethod yX6_ownDuty, Cond.selects RX6 yX6_ownDuty yX6_ownDuty, Cond.code yX6_ownDuty cX6_ownDuty 8 (some .int), Cond.fieldLink RX6 89 "CornLawsModel" "always" "I", Cond.fieldLink RX6 31 "CornLawsModel" "scaleGrain" "[I", Cond.fieldLink RX6 40 "CornLawsModel" "stepMany" "[I", Cond.fieldLink RX6 43 "CornLawsModel" "stepPrice" "[I", Cond.fieldLink RX6 46 "CornLawsModel" "stepDuty" "[I", Cond.methodLink RX6 129 yX6_forceAt, Cond.instanceMethod yX6_forceAt, Cond.selects RX6 yX6_forceAt yX6_forceAt, Cond.code yX6_forceAt cX6_forceAt 5 (some .int), Cond.fieldLink RX6 123 "CornLawsModel" "scales" "I", Cond.fieldLink RX6 34 "CornLawsModel" "scaleWeek" "[I", Cond.methodLink RX6 120 yX6_averageAt, Cond.instanceMethod yX6_averageAt, Cond.selects RX6 yX6_averageAt yX6_averageAt, Cond.code yX6_averageAt cX6_averageAt 7 (some .int), Cond.methodLink RX6 116 yX6_weeklyAt, Cond.instanceMethod yX6_weeklyAt, Cond.selects RX6 yX6_weeklyAt yX6_weeklyAt, Cond.code yX6_weeklyAt cX6_weeklyAt 10 (some .int)]
def wsX6_gain_r3 : List Cond := [Cond.fieldLink RX6 109 "CornLawsModel" "returns" "I", Cond.fieldLink RX6 13 "CornLawsModel" "grain" "[I", Cond.fieldLink RX6 16 "CornLawsModel" "forWeek" "[I", Cond.fieldLink RX6 22 "CornLawsModel" "price" "[I", Cond.fieldLink RX6 19 "CornLawsModel" "quarters" "[I", Cond.methodLink RX6 112 yX6_isKnown, Cond.instanceMethod yX6_isKnown, Cond.selects RX6 yX6_isKnown yX6_isKnown, Cond.code yX6_isKnown cX6_isKnown 3 (some .boolean), Cond.fieldLink RX6 85 "CornLawsModel" "without" "I", Cond.fieldLink RX6 25 "CornLawsModel" "sworn" "[I", Cond.fieldLink RX6 28 "CornLawsModel" "struck" "[I"]
def wsX6_gain : List Cond := .code yX6_gain cX6_gain 4 (some .long) :: ((wsX6_gain_r1 ++ (wsX6_gain_r2 ++ wsX6_gain_r3)) ++ wsX60)
def wsX6_best_r1 : List Cond := [Cond.fieldLink RX6 96 "CornLawsModel" "week" "I", Cond.methodLink RX6 139 yX6_isCargo, Cond.instanceMethod yX6_isCargo, Cond.selects RX6 yX6_isCargo yX6_isCargo, Cond.initialized RX6, Cond.code yX6_isCargo cX6_isCargo 2 (some .boolean), Cond.fieldLink RX6 99 "CornLawsModel" "cargoes" "I", Cond.methodLink RX6 92 yX6_in, Cond.static yX6_in, Cond.code yX6_in cX6_in 3 (some .boolean), Cond.methodLink RX6 161 yX6_gainAt, Cond.instanceMethod yX6_gainAt, Cond.selects RX6 yX6_gainAt yX6_gainAt, Cond.code yX6_gainAt cX6_gainAt 6 (some .long), Cond.fieldLink RX6 61 "CornLawsModel" "cargoBond" "[I", Cond.fieldLink RX6 102 "CornLawsModel" "spoils" "I", Cond.fieldLink RX6 58 "CornLawsModel" "cargoGrain" "[I", Cond.methodLink RX6 136 yX6_dutyAt, Cond.instanceMethod yX6_dutyAt, Cond.selects RX6 yX6_dutyAt yX6_dutyAt, Cond.code yX6_dutyAt cX6_dutyAt 5 (some .int), Cond.fieldLink RX6 49 "CornLawsModel" "hangsOn" "[I", Cond.fieldLink RX6 52 "CornLawsModel" "hangUp" "[I", Cond.fieldLink RX6 55 "CornLawsModel" "hangLow" "[I"]
def wsX6_best_r2 : List Cond := [Cond.methodLink RX6 133 yX6_ownDuty, Cond.instanceMethod yX6_ownDuty, Cond.selects RX6 yX6_ownDuty yX6_ownDuty, Cond.code yX6_ownDuty cX6_ownDuty 8 (some .int), Cond.fieldLink RX6 89 "CornLawsModel" "always" "I", Cond.fieldLink RX6 31 "CornLawsModel" "scaleGrain" "[I", Cond.fieldLink RX6 40 "CornLawsModel" "stepMany" "[I", Cond.fieldLink RX6 43 "CornLawsModel" "stepPrice" "[I", Cond.fieldLink RX6 46 "CornLawsModel" "stepDuty" "[I", Cond.methodLink RX6 129 yX6_forceAt, Cond.instanceMethod yX6_forceAt, Cond.selects RX6 yX6_forceAt yX6_forceAt, Cond.code yX6_forceAt cX6_forceAt 5 (some .int), Cond.fieldLink RX6 123 "CornLawsModel" "scales" "I", Cond.fieldLink RX6 34 "CornLawsModel" "scaleWeek" "[I", Cond.methodLink RX6 120 yX6_averageAt, Cond.instanceMethod yX6_averageAt, Cond.selects RX6 yX6_averageAt yX6_averageAt, Cond.code yX6_averageAt cX6_averageAt 7 (some .int), Cond.methodLink RX6 116 yX6_weeklyAt, Cond.instanceMethod yX6_weeklyAt, Cond.selects RX6 yX6_weeklyAt yX6_weeklyAt, Cond.code yX6_weeklyAt cX6_weeklyAt 10 (some .int), Cond.fieldLink RX6 109 "CornLawsModel" "returns" "I"]
def wsX6_best_r3 : List Cond := [Cond.fieldLink RX6 13 "CornLawsModel" "grain" "[I", Cond.fieldLink RX6 16 "CornLawsModel" "forWeek" "[I", Cond.fieldLink RX6 22 "CornLawsModel" "price" "[I", Cond.fieldLink RX6 19 "CornLawsModel" "quarters" "[I", Cond.methodLink RX6 112 yX6_isKnown, Cond.instanceMethod yX6_isKnown, Cond.selects RX6 yX6_isKnown yX6_isKnown, Cond.code yX6_isKnown cX6_isKnown 3 (some .boolean), Cond.fieldLink RX6 85 "CornLawsModel" "without" "I", Cond.fieldLink RX6 25 "CornLawsModel" "sworn" "[I", Cond.fieldLink RX6 28 "CornLawsModel" "struck" "[I"]
def wsX6_best : List Cond := .code yX6_best cX6_best 6 (some .int) :: ((wsX6_best_r1 ++ (wsX6_best_r2 ++ wsX6_best_r3)) ++ wsX60)
def wsX6_count : List Cond := .code yX6_count cX6_count 4 (some .int) :: ([.fieldLink RX6 96 "CornLawsModel" "week" "I", .fieldLink RX6 109 "CornLawsModel" "returns" "I", .fieldLink RX6 28 "CornLawsModel" "struck" "[I", .fieldLink RX6 123 "CornLawsModel" "scales" "I", .fieldLink RX6 99 "CornLawsModel" "cargoes" "I", .fieldLink RX6 146 "CornLawsModel" "lettings" "I"] ++ wsX60)
def wsL_law_r1 : List Cond := [Cond.classLink RL 7 RX5, Cond.instantiable RX5 8, Cond.initialized RX5, Cond.classLink RL 10 RX6, Cond.instantiable RX6 34, Cond.initialized RX6, Cond.methodLink RL 9 yX5_init, Cond.instanceMethod yX5_init, Cond.code yX5_init cX5_init 1 none, Cond.methodLink RX5 3 objectInit, Cond.instanceMethod objectInit, Cond.code objectInit ⟨#[0xb1]⟩ 1 none, Cond.classLink RX5 9 RX3, Cond.instantiable RX3 8, Cond.initialized RX3, Cond.fieldLink RX5 12 "CornLaws" "returns" "LCornLaws$Returns;", Cond.classLink RX5 16 RX4, Cond.instantiable RX4 7, Cond.initialized RX4, Cond.fieldLink RX5 19 "CornLaws" "scales" "LCornLaws$Scales;", Cond.classLink RX5 23 RX1, Cond.instantiable RX1 3, Cond.initialized RX1, Cond.fieldLink RX5 26 "CornLaws" "hangings" "LCornLaws$Hangings;"]
def wsL_law_r2 : List Cond := [Cond.classLink RX5 30 RX0, Cond.instantiable RX0 7, Cond.initialized RX0, Cond.fieldLink RX5 33 "CornLaws" "cargoes" "LCornLaws$Cargoes;", Cond.classLink RX5 37 RX2, Cond.instantiable RX2 4, Cond.initialized RX2, Cond.fieldLink RX5 40 "CornLaws" "lettings" "LCornLaws$Lettings;", Cond.instanceMethod yX3_init, Cond.code yX3_init cX3_init 1 none, Cond.methodLink RX3 3 objectInit, Cond.arrayClass .int, Cond.fieldLink RX3 9 "CornLaws$Returns" "town" "[I", Cond.fieldLink RX3 15 "CornLaws$Returns" "grain" "[I", Cond.fieldLink RX3 18 "CornLaws$Returns" "week" "[I", Cond.fieldLink RX3 21 "CornLaws$Returns" "quarters" "[I", Cond.fieldLink RX3 24 "CornLaws$Returns" "price" "[I", Cond.fieldLink RX3 27 "CornLaws$Returns" "sworn" "[I", Cond.fieldLink RX3 30 "CornLaws$Returns" "struck" "[I", Cond.instanceMethod yX4_init, Cond.code yX4_init cX4_init 1 none, Cond.methodLink RX4 3 objectInit, Cond.fieldLink RX4 9 "CornLaws$Scales" "grain" "[I", Cond.fieldLink RX4 15 "CornLaws$Scales" "week" "[I"]
def wsL_law_r3 : List Cond := [Cond.fieldLink RX4 18 "CornLaws$Scales" "told" "[I", Cond.fieldLink RX4 21 "CornLaws$Scales" "steps" "[I", Cond.classLink RX4 24 "[[I", Cond.fieldLink RX4 26 "CornLaws$Scales" "stepPrice" "[[I", Cond.fieldLink RX4 29 "CornLaws$Scales" "stepDuty" "[[I", Cond.instanceMethod yX1_init, Cond.code yX1_init cX1_init 1 none, Cond.methodLink RX1 3 objectInit, Cond.fieldLink RX1 9 "CornLaws$Hangings" "on" "[I", Cond.fieldLink RX1 15 "CornLaws$Hangings" "up" "[I", Cond.fieldLink RX1 18 "CornLaws$Hangings" "low" "[I", Cond.instanceMethod yX0_init, Cond.code yX0_init cX0_init 1 none, Cond.methodLink RX0 3 objectInit, Cond.fieldLink RX0 9 "CornLaws$Cargoes" "grain" "[I", Cond.fieldLink RX0 15 "CornLaws$Cargoes" "inBond" "[I", Cond.fieldLink RX0 18 "CornLaws$Cargoes" "out" "[I", Cond.fieldLink RX0 21 "CornLaws$Cargoes" "shipped" "[I", Cond.fieldLink RX0 24 "CornLaws$Cargoes" "spoilt" "[I", Cond.fieldLink RX0 27 "CornLaws$Cargoes" "came" "[I", Cond.instanceMethod yX2_init, Cond.code yX2_init cX2_init 1 none, Cond.methodLink RX2 3 objectInit, Cond.fieldLink RX2 9 "CornLaws$Lettings" "grain" "[I"]
def wsL_law_r4 : List Cond := [Cond.fieldLink RX2 15 "CornLaws$Lettings" "quarters" "[I", Cond.fieldLink RX2 18 "CornLaws$Lettings" "week" "[I", Cond.methodLink RL 12 yX6_init, Cond.instanceMethod yX6_init, Cond.code yX6_init cX6_init 2 none, Cond.methodLink RX6 1 objectInit, Cond.fieldLink RX6 7 "CornLawsModel" "town" "[I", Cond.fieldLink RX6 13 "CornLawsModel" "grain" "[I", Cond.fieldLink RX6 16 "CornLawsModel" "forWeek" "[I", Cond.fieldLink RX6 19 "CornLawsModel" "quarters" "[I", Cond.fieldLink RX6 22 "CornLawsModel" "price" "[I", Cond.fieldLink RX6 25 "CornLawsModel" "sworn" "[I", Cond.fieldLink RX6 28 "CornLawsModel" "struck" "[I", Cond.fieldLink RX6 31 "CornLawsModel" "scaleGrain" "[I", Cond.fieldLink RX6 34 "CornLawsModel" "scaleWeek" "[I", Cond.fieldLink RX6 37 "CornLawsModel" "scaleTold" "[I", Cond.fieldLink RX6 40 "CornLawsModel" "stepMany" "[I", Cond.fieldLink RX6 43 "CornLawsModel" "stepPrice" "[I", Cond.fieldLink RX6 46 "CornLawsModel" "stepDuty" "[I", Cond.fieldLink RX6 49 "CornLawsModel" "hangsOn" "[I", Cond.fieldLink RX6 52 "CornLawsModel" "hangUp" "[I", Cond.fieldLink RX6 55 "CornLawsModel" "hangLow" "[I", Cond.fieldLink RX6 58 "CornLawsModel" "cargoGrain" "[I", Cond.fieldLink RX6 61 "CornLawsModel" "cargoBond" "[I"]
def wsL_law_r5 : List Cond := [Cond.fieldLink RX6 64 "CornLawsModel" "cargoOut" "[I", Cond.fieldLink RX6 67 "CornLawsModel" "cargoShipped" "[I", Cond.fieldLink RX6 70 "CornLawsModel" "cargoSpoilt" "[I", Cond.fieldLink RX6 73 "CornLawsModel" "cargoWeek" "[I", Cond.fieldLink RX6 76 "CornLawsModel" "letGrain" "[I", Cond.fieldLink RX6 79 "CornLawsModel" "letWeek" "[I", Cond.fieldLink RX6 82 "CornLawsModel" "letMany" "[I", Cond.fieldLink RX6 85 "CornLawsModel" "without" "I", Cond.fieldLink RX6 89 "CornLawsModel" "always" "I", Cond.methodLink RL 13 yX5_weeks, Cond.instanceMethod yX5_weeks, Cond.selects RX5 yX5_weeks yX5_weeks, Cond.code yX5_weeks cX5_weeks 3 (some .int), Cond.fieldLink RX5 48 "CornLaws" "now" "I", Cond.fieldLink RX5 52 "CornLaws" "spoilRate" "I", Cond.methodLink RX5 44 yX5_isOutside, Cond.static yX5_isOutside, Cond.code yX5_isOutside cX5_isOutside 3 (some .boolean), Cond.methodLink RX5 55 yX0_spoilAll, Cond.instanceMethod yX0_spoilAll, Cond.selects RX0 yX0_spoilAll yX0_spoilAll, Cond.code yX0_spoilAll cX0_spoilAll 4 none, Cond.fieldLink RX0 30 "CornLaws$Cargoes" "size" "I", Cond.methodLink RX0 34 yX0_lossOf]
def wsL_law_r6 : List Cond := [Cond.static yX0_lossOf, Cond.code yX0_lossOf cX0_lossOf 2 (some .int), Cond.methodLink RL 17 yX6_weeks, Cond.instanceMethod yX6_weeks, Cond.selects RX6 yX6_weeks yX6_weeks, Cond.code yX6_weeks cX6_weeks 5 (some .int), Cond.fieldLink RX6 96 "CornLawsModel" "week" "I", Cond.fieldLink RX6 99 "CornLawsModel" "cargoes" "I", Cond.fieldLink RX6 102 "CornLawsModel" "spoils" "I", Cond.methodLink RX6 92 yX6_in, Cond.static yX6_in, Cond.code yX6_in cX6_in 3 (some .boolean), Cond.methodLink RL 18 yX5_sale, Cond.instanceMethod yX5_sale, Cond.selects RX5 yX5_sale yX5_sale, Cond.code yX5_sale cX5_sale 6 (some .int), Cond.fieldLink RX5 63 "CornLaws$Returns" "size" "I", Cond.methodLink RX5 59 yX5_isNoGrain, Cond.static yX5_isNoGrain, Cond.code yX5_isNoGrain cX5_isNoGrain 1 (some .boolean), Cond.methodLink RX5 66 yX3_add, Cond.instanceMethod yX3_add, Cond.selects RX3 yX3_add yX3_add, Cond.code yX3_add cX3_add 8 (some .int)]
def wsL_law_r7 : List Cond := [Cond.fieldLink RX3 33 "CornLaws$Returns" "size" "I", Cond.methodLink RL 22 yX6_sale, Cond.instanceMethod yX6_sale, Cond.selects RX6 yX6_sale yX6_sale, Cond.code yX6_sale cX6_sale 6 (some .int), Cond.fieldLink RX6 109 "CornLawsModel" "returns" "I", Cond.methodLink RX6 105 yX6_isGrain, Cond.static yX6_isGrain, Cond.code yX6_isGrain cX6_isGrain 1 (some .boolean), Cond.methodLink RL 23 yX5_strike, Cond.instanceMethod yX5_strike, Cond.selects RX5 yX5_strike yX5_strike, Cond.code yX5_strike cX5_strike 2 (some .int), Cond.fieldLink RX5 73 "CornLaws$Returns" "struck" "[I", Cond.methodLink RX5 70 yX3_has, Cond.instanceMethod yX3_has, Cond.selects RX3 yX3_has yX3_has, Cond.code yX3_has cX3_has 2 (some .boolean), Cond.methodLink RL 26 yX6_strike, Cond.instanceMethod yX6_strike, Cond.selects RX6 yX6_strike yX6_strike, Cond.code yX6_strike cX6_strike 2 (some .int), Cond.methodLink RL 27 yX5_sold, Cond.instanceMethod yX5_sold]
def wsL_law_r8 : List Cond := [Cond.selects RX5 yX5_sold yX5_sold, Cond.code yX5_sold cX5_sold 3 (some .int), Cond.fieldLink RX5 77 "CornLaws$Returns" "town" "[I", Cond.fieldLink RX5 80 "CornLaws$Returns" "grain" "[I", Cond.fieldLink RX5 83 "CornLaws$Returns" "week" "[I", Cond.fieldLink RX5 86 "CornLaws$Returns" "quarters" "[I", Cond.fieldLink RX5 89 "CornLaws$Returns" "price" "[I", Cond.fieldLink RX5 92 "CornLaws$Returns" "sworn" "[I", Cond.methodLink RL 31 yX6_sold, Cond.instanceMethod yX6_sold, Cond.selects RX6 yX6_sold yX6_sold, Cond.code yX6_sold cX6_sold 3 (some .int), Cond.methodLink RL 32 yX5_weekly, Cond.instanceMethod yX5_weekly, Cond.selects RX5 yX5_weekly yX5_weekly, Cond.code yX5_weekly cX5_weekly 4 (some .int), Cond.methodLink RX5 95 yX3_weeklyKnown, Cond.instanceMethod yX3_weeklyKnown, Cond.selects RX3 yX3_weeklyKnown yX3_weeklyKnown, Cond.code yX3_weeklyKnown cX3_weeklyKnown 9 (some .int), Cond.methodLink RX3 37 yX3_isKnown, Cond.instanceMethod yX3_isKnown, Cond.selects RX3 yX3_isKnown yX3_isKnown, Cond.code yX3_isKnown cX3_isKnown 3 (some .boolean)]
def wsL_law_r9 : List Cond := [Cond.methodLink RL 36 yX6_weekly, Cond.instanceMethod yX6_weekly, Cond.selects RX6 yX6_weekly yX6_weekly, Cond.code yX6_weekly cX6_weekly 4 (some .int), Cond.methodLink RX6 116 yX6_weeklyAt, Cond.instanceMethod yX6_weeklyAt, Cond.selects RX6 yX6_weeklyAt yX6_weeklyAt, Cond.code yX6_weeklyAt cX6_weeklyAt 10 (some .int), Cond.methodLink RX6 112 yX6_isKnown, Cond.instanceMethod yX6_isKnown, Cond.selects RX6 yX6_isKnown yX6_isKnown, Cond.code yX6_isKnown cX6_isKnown 3 (some .boolean), Cond.methodLink RL 37 yX5_average, Cond.instanceMethod yX5_average, Cond.selects RX5 yX5_average yX5_average, Cond.code yX5_average cX5_average 3 (some .int), Cond.methodLink RX5 99 yX3_averageKnown, Cond.instanceMethod yX3_averageKnown, Cond.selects RX3 yX3_averageKnown yX3_averageKnown, Cond.code yX3_averageKnown cX3_averageKnown 7 (some .int), Cond.methodLink RX3 41 yX3_weeklyKnown, Cond.methodLink RL 40 yX6_average, Cond.instanceMethod yX6_average, Cond.selects RX6 yX6_average yX6_average]
def wsL_law_r10 : List Cond := [Cond.code yX6_average cX6_average 3 (some .int), Cond.methodLink RX6 120 yX6_averageAt, Cond.instanceMethod yX6_averageAt, Cond.selects RX6 yX6_averageAt yX6_averageAt, Cond.code yX6_averageAt cX6_averageAt 7 (some .int), Cond.methodLink RL 41 yX5_towns, Cond.instanceMethod yX5_towns, Cond.selects RX5 yX5_towns yX5_towns, Cond.code yX5_towns cX5_towns 3 (some .int), Cond.methodLink RX5 103 yX3_townsKnown, Cond.instanceMethod yX3_townsKnown, Cond.selects RX3 yX3_townsKnown yX3_townsKnown, Cond.code yX3_townsKnown cX3_townsKnown 5 (some .int), Cond.methodLink RX3 45 yJ6_bitCount_0f7a4, Cond.static yJ6_bitCount_0f7a4, Cond.initialized RJ6, Cond.code yJ6_bitCount_0f7a4 cJ6_bitCount_0f7a4 1 (some .int), Cond.constant RJ6 265 (1431655765), Cond.constant RJ6 266 (858993459), Cond.constant RJ6 267 (252645135), Cond.methodLink RL 44 yX6_towns, Cond.instanceMethod yX6_towns, Cond.selects RX6 yX6_towns yX6_towns, Cond.code yX6_towns cX6_towns 6 (some .int)]
def wsL_law_r11 : List Cond := [Cond.methodLink RL 45 yX5_scale, Cond.instanceMethod yX5_scale, Cond.selects RX5 yX5_scale yX5_scale, Cond.code yX5_scale cX5_scale 3 (some .int), Cond.fieldLink RX5 107 "CornLaws$Scales" "size" "I", Cond.methodLink RX5 108 yX4_add, Cond.instanceMethod yX4_add, Cond.selects RX4 yX4_add yX4_add, Cond.code yX4_add cX4_add 5 (some .int), Cond.fieldLink RX4 32 "CornLaws$Scales" "size" "I", Cond.methodLink RL 48 yX6_scale, Cond.instanceMethod yX6_scale, Cond.selects RX6 yX6_scale yX6_scale, Cond.code yX6_scale cX6_scale 3 (some .int), Cond.fieldLink RX6 123 "CornLawsModel" "scales" "I", Cond.methodLink RL 49 yX5_step, Cond.instanceMethod yX5_step, Cond.selects RX5 yX5_step yX5_step, Cond.code yX5_step cX5_step 4 (some .int), Cond.fieldLink RX5 119 "CornLaws$Scales" "steps" "[I", Cond.methodLink RX5 110 yX4_has, Cond.instanceMethod yX4_has, Cond.selects RX4 yX4_has yX4_has, Cond.code yX4_has cX4_has 2 (some .boolean)]
def wsL_law_r12 : List Cond := [Cond.methodLink RX5 111 yX4_lastPrice, Cond.instanceMethod yX4_lastPrice, Cond.selects RX4 yX4_lastPrice yX4_lastPrice, Cond.code yX4_lastPrice cX4_lastPrice 2 (some .int), Cond.methodLink RX5 115 yX4_isSettled, Cond.instanceMethod yX4_isSettled, Cond.selects RX4 yX4_isSettled yX4_isSettled, Cond.code yX4_isSettled cX4_isSettled 3 (some .boolean), Cond.methodLink RX5 122 yX4_addStep, Cond.instanceMethod yX4_addStep, Cond.selects RX4 yX4_addStep yX4_addStep, Cond.code yX4_addStep cX4_addStep 4 (some .int), Cond.methodLink RL 52 yX6_step, Cond.instanceMethod yX6_step, Cond.selects RX6 yX6_step yX6_step, Cond.code yX6_step cX6_step 4 (some .int), Cond.methodLink RX6 126 yX6_isScale, Cond.instanceMethod yX6_isScale, Cond.selects RX6 yX6_isScale yX6_isScale, Cond.code yX6_isScale cX6_isScale 2 (some .boolean), Cond.methodLink RL 53 yX5_hang, Cond.instanceMethod yX5_hang, Cond.selects RX5 yX5_hang yX5_hang, Cond.code yX5_hang cX5_hang 5 (some .int)]
def wsL_law_r13 : List Cond := [Cond.methodLink RX5 125 yX1_hangs, Cond.instanceMethod yX1_hangs, Cond.selects RX1 yX1_hangs yX1_hangs, Cond.code yX1_hangs cX1_hangs 2 (some .boolean), Cond.methodLink RX5 128 yX1_bearsOne, Cond.instanceMethod yX1_bearsOne, Cond.selects RX1 yX1_bearsOne yX1_bearsOne, Cond.code yX1_bearsOne cX1_bearsOne 3 (some .boolean), Cond.methodLink RX1 21 yX1_hangs, Cond.methodLink RX5 131 yX1_put, Cond.instanceMethod yX1_put, Cond.selects RX1 yX1_put yX1_put, Cond.code yX1_put cX1_put 5 none, Cond.methodLink RL 57 yX6_hang, Cond.instanceMethod yX6_hang, Cond.selects RX6 yX6_hang yX6_hang, Cond.code yX6_hang cX6_hang 7 (some .int), Cond.methodLink RL 58 yX5_unhang, Cond.instanceMethod yX5_unhang, Cond.selects RX5 yX5_unhang yX5_unhang, Cond.code yX5_unhang cX5_unhang 2 (some .int), Cond.methodLink RX5 135 yX1_take, Cond.instanceMethod yX1_take, Cond.selects RX1 yX1_take yX1_take]
def wsL_law_r14 : List Cond := [Cond.code yX1_take cX1_take 2 none, Cond.methodLink RL 61 yX6_unhang, Cond.instanceMethod yX6_unhang, Cond.selects RX6 yX6_unhang yX6_unhang, Cond.code yX6_unhang cX6_unhang 2 (some .int), Cond.methodLink RL 62 yX5_force, Cond.instanceMethod yX5_force, Cond.selects RX5 yX5_force yX5_force, Cond.code yX5_force cX5_force 3 (some .int), Cond.methodLink RX5 138 yX4_inForce, Cond.instanceMethod yX4_inForce, Cond.selects RX4 yX4_inForce yX4_inForce, Cond.code yX4_inForce cX4_inForce 6 (some .int), Cond.methodLink RL 65 yX6_force, Cond.instanceMethod yX6_force, Cond.selects RX6 yX6_force yX6_force, Cond.code yX6_force cX6_force 3 (some .int), Cond.methodLink RX6 129 yX6_forceAt, Cond.instanceMethod yX6_forceAt, Cond.selects RX6 yX6_forceAt yX6_forceAt, Cond.code yX6_forceAt cX6_forceAt 5 (some .int), Cond.methodLink RL 66 yX5_duty, Cond.instanceMethod yX5_duty, Cond.selects RX5 yX5_duty yX5_duty]
def wsL_law_r15 : List Cond := [Cond.code yX5_duty cX5_duty 3 (some .int), Cond.methodLink RX5 141 yX5_dutyAt, Cond.instanceMethod yX5_dutyAt, Cond.selects RX5 yX5_dutyAt yX5_dutyAt, Cond.code yX5_dutyAt cX5_dutyAt 8 (some .int), Cond.methodLink RX5 191 yX1_rulingOver, Cond.instanceMethod yX1_rulingOver, Cond.selects RX1 yX1_rulingOver yX1_rulingOver, Cond.code yX1_rulingOver cX1_rulingOver 2 (some .int), Cond.methodLink RX5 194 yX4_isOf, Cond.instanceMethod yX4_isOf, Cond.selects RX4 yX4_isOf yX4_isOf, Cond.code yX4_isOf cX4_isOf 3 (some .boolean), Cond.methodLink RX4 36 yX4_has, Cond.methodLink RX5 197 yX4_dutyBy, Cond.instanceMethod yX4_dutyBy, Cond.selects RX4 yX4_dutyBy yX4_dutyBy, Cond.code yX4_dutyBy cX4_dutyBy 5 (some .int), Cond.methodLink RX5 200 yX1_inProportion, Cond.instanceMethod yX1_inProportion, Cond.selects RX1 yX1_inProportion yX1_inProportion, Cond.code yX1_inProportion cX1_inProportion 3 (some .int), Cond.methodLink RL 69 yX6_duty, Cond.instanceMethod yX6_duty]
def wsL_law_r16 : List Cond := [Cond.selects RX6 yX6_duty yX6_duty, Cond.code yX6_duty cX6_duty 3 (some .int), Cond.methodLink RX6 136 yX6_dutyAt, Cond.instanceMethod yX6_dutyAt, Cond.selects RX6 yX6_dutyAt yX6_dutyAt, Cond.code yX6_dutyAt cX6_dutyAt 5 (some .int), Cond.methodLink RX6 133 yX6_ownDuty, Cond.instanceMethod yX6_ownDuty, Cond.selects RX6 yX6_ownDuty yX6_ownDuty, Cond.code yX6_ownDuty cX6_ownDuty 8 (some .int), Cond.methodLink RL 70 yX5_cargo, Cond.instanceMethod yX5_cargo, Cond.selects RX5 yX5_cargo yX5_cargo, Cond.code yX5_cargo cX5_cargo 3 (some .int), Cond.fieldLink RX5 144 "CornLaws$Cargoes" "size" "I", Cond.methodLink RX5 145 yX0_add, Cond.instanceMethod yX0_add, Cond.selects RX0 yX0_add yX0_add, Cond.code yX0_add cX0_add 5 (some .int), Cond.methodLink RL 73 yX6_cargo, Cond.instanceMethod yX6_cargo, Cond.selects RX6 yX6_cargo yX6_cargo, Cond.code yX6_cargo cX6_cargo 3 (some .int), Cond.methodLink RL 74 yX5_spoil]
def wsL_law_r17 : List Cond := [Cond.instanceMethod yX5_spoil, Cond.selects RX5 yX5_spoil yX5_spoil, Cond.code yX5_spoil cX5_spoil 3 (some .int), Cond.methodLink RL 77 yX6_spoil, Cond.instanceMethod yX6_spoil, Cond.selects RX6 yX6_spoil yX6_spoil, Cond.code yX6_spoil cX6_spoil 3 (some .int), Cond.methodLink RL 78 yX5_letOut, Cond.instanceMethod yX5_letOut, Cond.selects RX5 yX5_letOut yX5_letOut, Cond.code yX5_letOut cX5_letOut 6 (some .long), Cond.constantLong RX5 147 (-2), Cond.fieldLink RX5 149 "CornLaws$Cargoes" "inBond" "[I", Cond.constantLong RX5 152 (-3), Cond.fieldLink RX5 154 "CornLaws$Lettings" "size" "I", Cond.constantLong RX5 155 (-4), Cond.fieldLink RX5 157 "CornLaws$Cargoes" "grain" "[I", Cond.fieldLink RX5 158 "CornLaws$Cargoes" "out" "[I", Cond.fieldLink RX5 164 "CornLaws" "paid" "J", Cond.methodLink RX5 146 yX0_has, Cond.instanceMethod yX0_has, Cond.selects RX0 yX0_has yX0_has, Cond.code yX0_has cX0_has 2 (some .boolean), Cond.methodLink RX5 161 yX2_add]
def wsL_law_r18 : List Cond := [Cond.instanceMethod yX2_add, Cond.selects RX2 yX2_add yX2_add, Cond.code yX2_add cX2_add 4 none, Cond.fieldLink RX2 21 "CornLaws$Lettings" "size" "I", Cond.methodLink RL 82 yX6_letOut, Cond.instanceMethod yX6_letOut, Cond.selects RX6 yX6_letOut yX6_letOut, Cond.code yX6_letOut cX6_letOut 5 (some .long), Cond.constantLong RX6 142 (-2), Cond.constantLong RX6 144 (-3), Cond.fieldLink RX6 146 "CornLawsModel" "lettings" "I", Cond.constantLong RX6 149 (-4), Cond.fieldLink RX6 151 "CornLawsModel" "chest" "J", Cond.methodLink RX6 139 yX6_isCargo, Cond.instanceMethod yX6_isCargo, Cond.selects RX6 yX6_isCargo yX6_isCargo, Cond.code yX6_isCargo cX6_isCargo 2 (some .boolean), Cond.methodLink RL 83 yX5_ship, Cond.instanceMethod yX5_ship, Cond.selects RX5 yX5_ship yX5_ship, Cond.code yX5_ship cX5_ship 3 (some .int), Cond.fieldLink RX5 168 "CornLaws$Cargoes" "shipped" "[I", Cond.methodLink RL 86 yX6_ship, Cond.instanceMethod yX6_ship]
def wsL_law_r19 : List Cond := [Cond.selects RX6 yX6_ship yX6_ship, Cond.code yX6_ship cX6_ship 3 (some .int), Cond.methodLink RL 87 yX5_bond, Cond.instanceMethod yX5_bond, Cond.selects RX5 yX5_bond yX5_bond, Cond.code yX5_bond cX5_bond 3 (some .int), Cond.fieldLink RX5 171 "CornLaws$Cargoes" "spoilt" "[I", Cond.fieldLink RX5 174 "CornLaws$Cargoes" "came" "[I", Cond.methodLink RL 90 yX6_bond, Cond.instanceMethod yX6_bond, Cond.selects RX6 yX6_bond yX6_bond, Cond.code yX6_bond cX6_bond 3 (some .int), Cond.methodLink RL 91 yX5_chest, Cond.instanceMethod yX5_chest, Cond.selects RX5 yX5_chest yX5_chest, Cond.code yX5_chest cX5_chest 1 (some .long), Cond.methodLink RL 95 yX6_chest, Cond.instanceMethod yX6_chest, Cond.selects RX6 yX6_chest yX6_chest, Cond.code yX6_chest cX6_chest 1 (some .long), Cond.methodLink RL 96 yX5_worth, Cond.instanceMethod yX5_worth, Cond.selects RX5 yX5_worth yX5_worth, Cond.code yX5_worth cX5_worth 2 (some .long)]
def wsL_law_r20 : List Cond := [Cond.constantLong RX5 177 (-9223372036854775808), Cond.methodLink RX5 179 yX5_chestAnew, Cond.instanceMethod yX5_chestAnew, Cond.selects RX5 yX5_chestAnew yX5_chestAnew, Cond.code yX5_chestAnew cX5_chestAnew 7 (some .long), Cond.fieldLink RX5 203 "CornLaws$Lettings" "grain" "[I", Cond.fieldLink RX5 204 "CornLaws$Lettings" "week" "[I", Cond.fieldLink RX5 205 "CornLaws$Lettings" "quarters" "[I", Cond.methodLink RL 100 yX6_worth, Cond.instanceMethod yX6_worth, Cond.selects RX6 yX6_worth yX6_worth, Cond.code yX6_worth cX6_worth 4 (some .long), Cond.constantLong RX6 155 (-9223372036854775808), Cond.methodLink RX6 157 yX6_paidAnew, Cond.instanceMethod yX6_paidAnew, Cond.selects RX6 yX6_paidAnew yX6_paidAnew, Cond.code yX6_paidAnew cX6_paidAnew 4 (some .long), Cond.methodLink RL 101 yX5_other, Cond.instanceMethod yX5_other, Cond.selects RX5 yX5_other yX5_other, Cond.code yX5_other cX5_other 2 (some .long), Cond.methodLink RL 104 yX6_other, Cond.instanceMethod yX6_other, Cond.selects RX6 yX6_other yX6_other]
def wsL_law_r21 : List Cond := [Cond.code yX6_other cX6_other 4 (some .long), Cond.methodLink RL 105 yX5_gain, Cond.instanceMethod yX5_gain, Cond.selects RX5 yX5_gain yX5_gain, Cond.code yX5_gain cX5_gain 4 (some .long), Cond.methodLink RX5 183 yX5_gainAt, Cond.instanceMethod yX5_gainAt, Cond.selects RX5 yX5_gainAt yX5_gainAt, Cond.code yX5_gainAt cX5_gainAt 6 (some .long), Cond.methodLink RX5 206 yX0_leftAfter, Cond.instanceMethod yX0_leftAfter, Cond.selects RX0 yX0_leftAfter yX0_leftAfter, Cond.code yX0_leftAfter cX0_leftAfter 6 (some .int), Cond.methodLink RL 109 yX6_gain, Cond.instanceMethod yX6_gain, Cond.selects RX6 yX6_gain yX6_gain, Cond.code yX6_gain cX6_gain 4 (some .long), Cond.methodLink RX6 161 yX6_gainAt, Cond.instanceMethod yX6_gainAt, Cond.selects RX6 yX6_gainAt yX6_gainAt, Cond.code yX6_gainAt cX6_gainAt 6 (some .long), Cond.methodLink RL 110 yX5_best, Cond.instanceMethod yX5_best, Cond.selects RX5 yX5_best yX5_best]
def wsL_law_r22 : List Cond := [Cond.code yX5_best cX5_best 10 (some .int), Cond.methodLink RL 113 yX6_best, Cond.instanceMethod yX6_best, Cond.selects RX6 yX6_best yX6_best, Cond.code yX6_best cX6_best 6 (some .int), Cond.methodLink RL 114 yX5_count, Cond.instanceMethod yX5_count, Cond.selects RX5 yX5_count yX5_count, Cond.code yX5_count cX5_count 2 (some .int), Cond.methodLink RX5 187 yX3_struckOnes, Cond.instanceMethod yX3_struckOnes, Cond.selects RX3 yX3_struckOnes yX3_struckOnes, Cond.code yX3_struckOnes cX3_struckOnes 3 (some .int), Cond.methodLink RL 117 yX6_count, Cond.instanceMethod yX6_count, Cond.selects RX6 yX6_count yX6_count, Cond.code yX6_count cX6_count 4 (some .int)]
def wsL_law : List Cond := (wsL_law_r1 ++ (wsL_law_r2 ++ (wsL_law_r3 ++ (wsL_law_r4 ++ (wsL_law_r5 ++ (wsL_law_r6 ++ (wsL_law_r7 ++ (wsL_law_r8 ++ (wsL_law_r9 ++ (wsL_law_r10 ++ (wsL_law_r11 ++ (wsL_law_r12 ++ (wsL_law_r13 ++ (wsL_law_r14 ++ (wsL_law_r15 ++ (wsL_law_r16 ++ (wsL_law_r17 ++ (wsL_law_r18 ++ (wsL_law_r19 ++ (wsL_law_r20 ++ (wsL_law_r21 ++ wsL_law_r22))))))))))))))))))))) ++ wsX50 ++ wsX60 ++ wsX30 ++ wsX40 ++ wsX10 ++ wsX00 ++ wsX20 ++ ([] : List Cond)
theorem z_inapp {a b t : List Cond} (ha : ∀ w ∈ a, w ∈ t) (hb : ∀ w ∈ b, w ∈ t) : ∀ w ∈ a ++ b, w ∈ t := fun w h => (List.mem_append.mp h).elim (ha w) (hb w)
set_option maxRecDepth 100000 in
theorem il_wsL_law_r1 : ∀ w ∈ wsL_law_r1, w ∈ lw_tbl := fun w h => (goodIn_r (big := lw_tbl) wsL_law_r1 [22, 23, 14, 435, 436, 20, 24, 25, 26, 27, 28, 29, 30, 31, 15, 176, 70, 71, 16, 177, 102, 103, 17, 178] (by decide +kernel) (by decide +kernel) w h).1
set_option maxRecDepth 100000 in
theorem il_wsL_law_r2 : ∀ w ∈ wsL_law_r2, w ∈ lw_tbl := fun w h => (goodIn_r (big := lw_tbl) wsL_law_r2 [118, 119, 18, 179, 153, 154, 19, 180, 33, 34, 35, 69, 36, 38, 40, 42, 44, 46, 48, 73, 74, 75, 78, 79] (by decide +kernel) (by decide +kernel) w h).1
set_option maxRecDepth 100000 in
theorem il_wsL_law_r3 : ∀ w ∈ wsL_law_r3, w ∈ lw_tbl := fun w h => (goodIn_r (big := lw_tbl) wsL_law_r3 [80, 81, 76, 83, 84, 105, 106, 107, 108, 109, 110, 121, 122, 123, 124, 126, 128, 130, 132, 134, 156, 157, 158, 159] (by decide +kernel) (by decide +kernel) w h).1
set_option maxRecDepth 100000 in
theorem il_wsL_law_r4 : ∀ w ∈ wsL_law_r4, w ∈ lw_tbl := fun w h => (goodIn_r (big := lw_tbl) wsL_law_r4 [161, 163, 437, 438, 439, 440, 443, 444, 445, 446, 447, 448, 449, 451, 452, 453, 454, 455, 456, 457, 458, 459, 461, 462] (by decide +kernel) (by decide +kernel) w h).1
set_option maxRecDepth 100000 in
theorem il_wsL_law_r5 : ∀ w ∈ wsL_law_r5, w ∈ lw_tbl := fun w h => (goodIn_r (big := lw_tbl) wsL_law_r5 [463, 464, 465, 466, 469, 470, 471, 473, 474, 201, 202, 203, 204, 181, 182, 205, 206, 207, 208, 209, 210, 211, 136, 212] (by decide +kernel) (by decide +kernel) w h).1
set_option maxRecDepth 100000 in
theorem il_wsL_law_r6 : ∀ w ∈ wsL_law_r6, w ∈ lw_tbl := fun w h => (goodIn_r (big := lw_tbl) wsL_law_r6 [213, 214, 544, 545, 546, 547, 441, 460, 467, 548, 549, 550, 215, 216, 217, 218, 51, 219, 220, 221, 222, 223, 224, 225] (by decide +kernel) (by decide +kernel) w h).1
set_option maxRecDepth 100000 in
theorem il_wsL_law_r7 : ∀ w ∈ wsL_law_r7, w ∈ lw_tbl := fun w h => (goodIn_r (big := lw_tbl) wsL_law_r7 [50, 551, 552, 553, 554, 442, 555, 556, 557, 226, 227, 228, 229, 49, 230, 231, 232, 233, 558, 559, 560, 561, 234, 235] (by decide +kernel) (by decide +kernel) w h).1
set_option maxRecDepth 100000 in
theorem il_wsL_law_r8 : ∀ w ∈ wsL_law_r8, w ∈ lw_tbl := fun w h => (goodIn_r (big := lw_tbl) wsL_law_r8 [236, 237, 37, 39, 41, 43, 45, 47, 562, 563, 564, 565, 238, 239, 240, 241, 242, 243, 244, 245, 246, 247, 248, 249] (by decide +kernel) (by decide +kernel) w h).1
set_option maxRecDepth 100000 in
theorem il_wsL_law_r9 : ∀ w ∈ wsL_law_r9, w ∈ lw_tbl := fun w h => (goodIn_r (big := lw_tbl) wsL_law_r9 [566, 567, 568, 569, 570, 572, 3, 573, 574, 576, 4, 577, 250, 251, 252, 253, 254, 255, 256, 257, 258, 578, 579, 580] (by decide +kernel) (by decide +kernel) w h).1
set_option maxRecDepth 100000 in
theorem il_wsL_law_r10 : ∀ w ∈ wsL_law_r10, w ∈ lw_tbl := fun w h => (goodIn_r (big := lw_tbl) wsL_law_r10 [581, 582, 584, 5, 585, 259, 260, 261, 262, 263, 264, 265, 266, 267, 268, 21, 269, 270, 271, 272, 586, 587, 588, 589] (by decide +kernel) (by decide +kernel) w h).1
set_option maxRecDepth 100000 in
theorem il_wsL_law_r11 : ∀ w ∈ wsL_law_r11, w ∈ lw_tbl := fun w h => (goodIn_r (big := lw_tbl) wsL_law_r11 [273, 274, 275, 276, 86, 277, 278, 279, 280, 85, 590, 591, 592, 593, 450, 281, 282, 283, 284, 82, 285, 286, 287, 288] (by decide +kernel) (by decide +kernel) w h).1
set_option maxRecDepth 100000 in
theorem il_wsL_law_r12 : ∀ w ∈ wsL_law_r12, w ∈ lw_tbl := fun w h => (goodIn_r (big := lw_tbl) wsL_law_r12 [289, 290, 291, 292, 293, 294, 295, 296, 297, 298, 299, 300, 594, 595, 596, 597, 598, 600, 6, 601, 301, 302, 303, 304] (by decide +kernel) (by decide +kernel) w h).1
set_option maxRecDepth 100000 in
theorem il_wsL_law_r13 : ∀ w ∈ wsL_law_r13, w ∈ lw_tbl := fun w h => (goodIn_r (big := lw_tbl) wsL_law_r13 [305, 306, 307, 308, 309, 310, 311, 312, 313, 314, 315, 316, 317, 602, 603, 604, 605, 318, 319, 320, 321, 322, 323, 324] (by decide +kernel) (by decide +kernel) w h).1
set_option maxRecDepth 100000 in
theorem il_wsL_law_r14 : ∀ w ∈ wsL_law_r14, w ∈ lw_tbl := fun w h => (goodIn_r (big := lw_tbl) wsL_law_r14 [325, 606, 607, 608, 609, 326, 327, 328, 329, 330, 331, 332, 333, 610, 611, 612, 613, 614, 616, 7, 617, 334, 335, 336] (by decide +kernel) (by decide +kernel) w h).1
set_option maxRecDepth 100000 in
theorem il_wsL_law_r15 : ∀ w ∈ wsL_law_r15, w ∈ lw_tbl := fun w h => (goodIn_r (big := lw_tbl) wsL_law_r15 [337, 338, 340, 0, 341, 342, 343, 344, 345, 346, 347, 348, 349, 350, 351, 352, 353, 354, 355, 356, 357, 358, 618, 619] (by decide +kernel) (by decide +kernel) w h).1
set_option maxRecDepth 100000 in
theorem il_wsL_law_r16 : ∀ w ∈ wsL_law_r16, w ∈ lw_tbl := fun w h => (goodIn_r (big := lw_tbl) wsL_law_r16 [620, 621, 622, 624, 8, 625, 626, 628, 9, 629, 359, 360, 361, 362, 137, 363, 364, 365, 366, 630, 631, 632, 633, 367] (by decide +kernel) (by decide +kernel) w h).1
set_option maxRecDepth 100000 in
theorem il_wsL_law_r17 : ∀ w ∈ wsL_law_r17, w ∈ lw_tbl := fun w h => (goodIn_r (big := lw_tbl) wsL_law_r17 [368, 369, 370, 634, 635, 636, 637, 371, 372, 373, 374, 379, 127, 380, 166, 381, 125, 129, 183, 375, 376, 377, 378, 382] (by decide +kernel) (by decide +kernel) w h).1
set_option maxRecDepth 100000 in
theorem il_wsL_law_r18 : ∀ w ∈ wsL_law_r18, w ∈ lw_tbl := fun w h => (goodIn_r (big := lw_tbl) wsL_law_r18 [383, 384, 385, 165, 638, 639, 640, 641, 646, 647, 468, 648, 472, 642, 644, 10, 645, 386, 387, 388, 389, 131, 649, 650] (by decide +kernel) (by decide +kernel) w h).1
set_option maxRecDepth 100000 in
theorem il_wsL_law_r19 : ∀ w ∈ wsL_law_r19, w ∈ lw_tbl := fun w h => (goodIn_r (big := lw_tbl) wsL_law_r19 [651, 652, 390, 391, 392, 393, 133, 135, 653, 654, 655, 656, 394, 395, 396, 397, 657, 658, 659, 660, 398, 399, 400, 401] (by decide +kernel) (by decide +kernel) w h).1
set_option maxRecDepth 100000 in
theorem il_wsL_law_r20 : ∀ w ∈ wsL_law_r20, w ∈ lw_tbl := fun w h => (goodIn_r (big := lw_tbl) wsL_law_r20 [402, 403, 405, 1, 406, 160, 164, 162, 661, 662, 663, 664, 665, 666, 668, 11, 669, 407, 408, 409, 410, 670, 671, 672] (by decide +kernel) (by decide +kernel) w h).1
set_option maxRecDepth 100000 in
theorem il_wsL_law_r21 : ∀ w ∈ wsL_law_r21, w ∈ lw_tbl := fun w h => (goodIn_r (big := lw_tbl) wsL_law_r21 [673, 411, 412, 413, 414, 415, 417, 2, 418, 419, 420, 421, 422, 674, 675, 676, 677, 678, 680, 12, 681, 423, 424, 425] (by decide +kernel) (by decide +kernel) w h).1
set_option maxRecDepth 100000 in
theorem il_wsL_law_r22 : ∀ w ∈ wsL_law_r22, w ∈ lw_tbl := fun w h => (goodIn_r (big := lw_tbl) wsL_law_r22 [426, 682, 683, 684, 685, 427, 428, 429, 430, 431, 432, 433, 434, 686, 687, 688, 689] (by decide +kernel) (by decide +kernel) w h).1
set_option maxRecDepth 100000 in
theorem il_wsX00 : ∀ w ∈ wsX00, w ∈ lw_tbl := fun w h => (goodIn_r (big := lw_tbl) wsX00 [138, 140, 142, 144, 146, 148, 150] (by decide +kernel) (by decide +kernel) w h).1
set_option maxRecDepth 100000 in
theorem il_wsX10 : ∀ w ∈ wsX10, w ∈ lw_tbl := fun w h => (goodIn_r (big := lw_tbl) wsX10 [111, 113, 115] (by decide +kernel) (by decide +kernel) w h).1
set_option maxRecDepth 100000 in
theorem il_wsX20 : ∀ w ∈ wsX20, w ∈ lw_tbl := fun w h => (goodIn_r (big := lw_tbl) wsX20 [167, 169, 171, 173] (by decide +kernel) (by decide +kernel) w h).1
set_option maxRecDepth 100000 in
theorem il_wsX30 : ∀ w ∈ wsX30, w ∈ lw_tbl := fun w h => (goodIn_r (big := lw_tbl) wsX30 [52, 54, 56, 58, 60, 62, 64, 66] (by decide +kernel) (by decide +kernel) w h).1
set_option maxRecDepth 100000 in
theorem il_wsX40 : ∀ w ∈ wsX40, w ∈ lw_tbl := fun w h => (goodIn_r (big := lw_tbl) wsX40 [87, 89, 91, 93, 95, 97, 99] (by decide +kernel) (by decide +kernel) w h).1
set_option maxRecDepth 100000 in
theorem il_wsX50 : ∀ w ∈ wsX50, w ∈ lw_tbl := fun w h => (goodIn_r (big := lw_tbl) wsX50 [184, 186, 188, 190, 192, 194, 196, 198] (by decide +kernel) (by decide +kernel) w h).1
set_option maxRecDepth 100000 in
theorem il_wsX60 : ∀ w ∈ wsX60, w ∈ lw_tbl := fun w h => (goodIn_r (big := lw_tbl) wsX60 [475, 477, 479, 481, 483, 485, 487, 489, 491, 493, 495, 497, 499, 501, 503, 505, 507, 509, 511, 513, 515, 517, 519, 521, 523, 525, 527, 529, 531, 533, 535, 537, 539, 541] (by decide +kernel) (by decide +kernel) w h).1
theorem wsL_law_in : ∀ w ∈ wsL_law, w ∈ lw_tbl := z_inapp (z_inapp (z_inapp (z_inapp (z_inapp (z_inapp (z_inapp (z_inapp (z_inapp il_wsL_law_r1 (z_inapp il_wsL_law_r2 (z_inapp il_wsL_law_r3 (z_inapp il_wsL_law_r4 (z_inapp il_wsL_law_r5 (z_inapp il_wsL_law_r6 (z_inapp il_wsL_law_r7 (z_inapp il_wsL_law_r8 (z_inapp il_wsL_law_r9 (z_inapp il_wsL_law_r10 (z_inapp il_wsL_law_r11 (z_inapp il_wsL_law_r12 (z_inapp il_wsL_law_r13 (z_inapp il_wsL_law_r14 (z_inapp il_wsL_law_r15 (z_inapp il_wsL_law_r16 (z_inapp il_wsL_law_r17 (z_inapp il_wsL_law_r18 (z_inapp il_wsL_law_r19 (z_inapp il_wsL_law_r20 (z_inapp il_wsL_law_r21 il_wsL_law_r22))))))))))))))))))))) il_wsX50) il_wsX60) il_wsX30) il_wsX40) il_wsX10) il_wsX00) il_wsX20) (fun w h => by cases h)
theorem inlX0 : ∀ w ∈ wsX00, w ∈ wsL_law := fun _ h => List.mem_append_left _ (List.mem_append_left _ (List.mem_append_right _ h))
theorem inX0 : ∀ w ∈ wsX00, w ∈ lw_tbl := fun w h => wsL_law_in w (inlX0 w h)
theorem inlX1 : ∀ w ∈ wsX10, w ∈ wsL_law := fun _ h => List.mem_append_left _ (List.mem_append_left _ (List.mem_append_left _ (List.mem_append_right _ h)))
theorem inX1 : ∀ w ∈ wsX10, w ∈ lw_tbl := fun w h => wsL_law_in w (inlX1 w h)
theorem inlX2 : ∀ w ∈ wsX20, w ∈ wsL_law := fun _ h => List.mem_append_left _ (List.mem_append_right _ h)
theorem inX2 : ∀ w ∈ wsX20, w ∈ lw_tbl := fun w h => wsL_law_in w (inlX2 w h)
theorem inlX3 : ∀ w ∈ wsX30, w ∈ wsL_law := fun _ h => List.mem_append_left _ (List.mem_append_left _ (List.mem_append_left _ (List.mem_append_left _ (List.mem_append_left _ (List.mem_append_right _ h)))))
theorem inX3 : ∀ w ∈ wsX30, w ∈ lw_tbl := fun w h => wsL_law_in w (inlX3 w h)
theorem inlX4 : ∀ w ∈ wsX40, w ∈ wsL_law := fun _ h => List.mem_append_left _ (List.mem_append_left _ (List.mem_append_left _ (List.mem_append_left _ (List.mem_append_right _ h))))
theorem inX4 : ∀ w ∈ wsX40, w ∈ lw_tbl := fun w h => wsL_law_in w (inlX4 w h)
theorem inlX5 : ∀ w ∈ wsX50, w ∈ wsL_law := fun _ h => List.mem_append_left _ (List.mem_append_left _ (List.mem_append_left _ (List.mem_append_left _ (List.mem_append_left _ (List.mem_append_left _ (List.mem_append_left _ (List.mem_append_right _ h)))))))
theorem inX5 : ∀ w ∈ wsX50, w ∈ lw_tbl := fun w h => wsL_law_in w (inlX5 w h)
theorem inlX6 : ∀ w ∈ wsX60, w ∈ wsL_law := fun _ h => List.mem_append_left _ (List.mem_append_left _ (List.mem_append_left _ (List.mem_append_left _ (List.mem_append_left _ (List.mem_append_left _ (List.mem_append_right _ h))))))
theorem inX6 : ∀ w ∈ wsX60, w ∈ lw_tbl := fun w h => wsL_law_in w (inlX6 w h)
theorem inJ6 : ∀ w ∈ wsJ60, w ∈ lw_tbl := by decide +kernel
abbrev vwCl : List vw_C := [(RX0, TX0, 7), (RX1, TX1, 3), (RX2, TX2, 4), (RX3, TX3, 8), (RX4, TX4, 7), (RX5, TX5, 8), (RX6, TX6, 34)]
end
section
theorem dX0_init_0 : decode cX0_init 0 = .ok (.aload_n 0, 1) := by decide +kernel
theorem dX0_init_1 : decode cX0_init 1 = .ok (.invokespecial 3, 3) := by decide +kernel
theorem dX0_init_4 : decode cX0_init 4 = .ok (.aload_n 0, 1) := by decide +kernel
theorem dX0_init_5 : decode cX0_init 5 = .ok (.bipush 20, 2) := by decide +kernel
theorem dX0_init_7 : decode cX0_init 7 = .ok (.newarray .int, 2) := by decide +kernel
theorem dX0_init_9 : decode cX0_init 9 = .ok (.putfield 9, 3) := by decide +kernel
theorem dX0_init_12 : decode cX0_init 12 = .ok (.aload_n 0, 1) := by decide +kernel
theorem dX0_init_13 : decode cX0_init 13 = .ok (.bipush 20, 2) := by decide +kernel
theorem dX0_init_15 : decode cX0_init 15 = .ok (.newarray .int, 2) := by decide +kernel
theorem dX0_init_17 : decode cX0_init 17 = .ok (.putfield 15, 3) := by decide +kernel
theorem dX0_init_20 : decode cX0_init 20 = .ok (.aload_n 0, 1) := by decide +kernel
theorem dX0_init_21 : decode cX0_init 21 = .ok (.bipush 20, 2) := by decide +kernel
theorem dX0_init_23 : decode cX0_init 23 = .ok (.newarray .int, 2) := by decide +kernel
theorem dX0_init_25 : decode cX0_init 25 = .ok (.putfield 18, 3) := by decide +kernel
theorem dX0_init_28 : decode cX0_init 28 = .ok (.aload_n 0, 1) := by decide +kernel
theorem dX0_init_29 : decode cX0_init 29 = .ok (.bipush 20, 2) := by decide +kernel
theorem dX0_init_31 : decode cX0_init 31 = .ok (.newarray .int, 2) := by decide +kernel
theorem dX0_init_33 : decode cX0_init 33 = .ok (.putfield 21, 3) := by decide +kernel
theorem dX0_init_36 : decode cX0_init 36 = .ok (.aload_n 0, 1) := by decide +kernel
theorem dX0_init_37 : decode cX0_init 37 = .ok (.bipush 20, 2) := by decide +kernel
theorem dX0_init_39 : decode cX0_init 39 = .ok (.newarray .int, 2) := by decide +kernel
theorem dX0_init_41 : decode cX0_init 41 = .ok (.putfield 24, 3) := by decide +kernel
theorem dX0_init_44 : decode cX0_init 44 = .ok (.aload_n 0, 1) := by decide +kernel
theorem dX0_init_45 : decode cX0_init 45 = .ok (.bipush 20, 2) := by decide +kernel
theorem dX0_init_47 : decode cX0_init 47 = .ok (.newarray .int, 2) := by decide +kernel
theorem dX0_init_49 : decode cX0_init 49 = .ok (.putfield 27, 3) := by decide +kernel
theorem dX0_init_52 : decode cX0_init 52 = .ok (.return_, 1) := by decide +kernel
theorem dX0_has_0 : decode cX0_has 0 = .ok (.iload_n 1, 1) := by decide +kernel
theorem dX0_has_1 : decode cX0_has 1 = .ok (.ifCond .lt 15, 3) := by decide +kernel
theorem dX0_has_4 : decode cX0_has 4 = .ok (.iload_n 1, 1) := by decide +kernel
theorem dX0_has_5 : decode cX0_has 5 = .ok (.aload_n 0, 1) := by decide +kernel
theorem dX0_has_6 : decode cX0_has 6 = .ok (.getfield 30, 3) := by decide +kernel
theorem dX0_has_9 : decode cX0_has 9 = .ok (.if_icmp .ge 7, 3) := by decide +kernel
theorem dX0_has_12 : decode cX0_has 12 = .ok (.iconst 1, 1) := by decide +kernel
theorem dX0_has_13 : decode cX0_has 13 = .ok (.goto 4, 3) := by decide +kernel
theorem dX0_has_16 : decode cX0_has 16 = .ok (.iconst 0, 1) := by decide +kernel
theorem dX0_has_17 : decode cX0_has 17 = .ok (.ireturn, 1) := by decide +kernel
theorem dX0_add_0 : decode cX0_add 0 = .ok (.aload_n 0, 1) := by decide +kernel
theorem dX0_add_1 : decode cX0_add 1 = .ok (.getfield 30, 3) := by decide +kernel
theorem dX0_add_4 : decode cX0_add 4 = .ok (.istore 4, 2) := by decide +kernel
theorem dX0_add_6 : decode cX0_add 6 = .ok (.aload_n 0, 1) := by decide +kernel
theorem dX0_add_7 : decode cX0_add 7 = .ok (.getfield 9, 3) := by decide +kernel
theorem dX0_add_10 : decode cX0_add 10 = .ok (.iload 4, 2) := by decide +kernel
theorem dX0_add_12 : decode cX0_add 12 = .ok (.iload_n 1, 1) := by decide +kernel
theorem dX0_add_13 : decode cX0_add 13 = .ok (.iastore, 1) := by decide +kernel
theorem dX0_add_14 : decode cX0_add 14 = .ok (.aload_n 0, 1) := by decide +kernel
theorem dX0_add_15 : decode cX0_add 15 = .ok (.getfield 15, 3) := by decide +kernel
theorem dX0_add_18 : decode cX0_add 18 = .ok (.iload 4, 2) := by decide +kernel
theorem dX0_add_20 : decode cX0_add 20 = .ok (.iload_n 2, 1) := by decide +kernel
theorem dX0_add_21 : decode cX0_add 21 = .ok (.iastore, 1) := by decide +kernel
theorem dX0_add_22 : decode cX0_add 22 = .ok (.aload_n 0, 1) := by decide +kernel
theorem dX0_add_23 : decode cX0_add 23 = .ok (.getfield 27, 3) := by decide +kernel
theorem dX0_add_26 : decode cX0_add 26 = .ok (.iload 4, 2) := by decide +kernel
theorem dX0_add_28 : decode cX0_add 28 = .ok (.iload_n 3, 1) := by decide +kernel
theorem dX0_add_29 : decode cX0_add 29 = .ok (.iastore, 1) := by decide +kernel
theorem dX0_add_30 : decode cX0_add 30 = .ok (.aload_n 0, 1) := by decide +kernel
theorem dX0_add_31 : decode cX0_add 31 = .ok (.iload 4, 2) := by decide +kernel
theorem dX0_add_33 : decode cX0_add 33 = .ok (.iconst 1, 1) := by decide +kernel
theorem dX0_add_34 : decode cX0_add 34 = .ok (.iadd, 1) := by decide +kernel
theorem dX0_add_35 : decode cX0_add 35 = .ok (.putfield 30, 3) := by decide +kernel
theorem dX0_add_38 : decode cX0_add 38 = .ok (.iload 4, 2) := by decide +kernel
theorem dX0_add_40 : decode cX0_add 40 = .ok (.ireturn, 1) := by decide +kernel
theorem dX0_lossOf_0 : decode cX0_lossOf 0 = .ok (.iload_n 0, 1) := by decide +kernel
theorem dX0_lossOf_1 : decode cX0_lossOf 1 = .ok (.iload_n 1, 1) := by decide +kernel
theorem dX0_lossOf_2 : decode cX0_lossOf 2 = .ok (.imul, 1) := by decide +kernel
theorem dX0_lossOf_3 : decode cX0_lossOf 3 = .ok (.sipush 1000, 3) := by decide +kernel
theorem dX0_lossOf_6 : decode cX0_lossOf 6 = .ok (.idiv, 1) := by decide +kernel
theorem dX0_lossOf_7 : decode cX0_lossOf 7 = .ok (.ireturn, 1) := by decide +kernel
set_option maxRecDepth 20000 in
theorem ggX0_spoilAll_X0_lossOf : GoodIn wsX0_spoilAll wsX0_lossOf := goodIn_r _ [7] (by decide +kernel) (by decide +kernel)
set_option maxRecDepth 20000 in
theorem gX0_spoilAll_X0_lossOf : GoodIn wsX0_spoilAll (va_wsS RX0 34 yX0_lossOf wsX0_lossOf) := goodIn_app (goodIn_of _ (by decide +kernel)) ggX0_spoilAll_X0_lossOf
theorem dX0_spoilAll_0 : decode cX0_spoilAll 0 = .ok (.iconst 0, 1) := by decide +kernel
theorem dX0_spoilAll_1 : decode cX0_spoilAll 1 = .ok (.istore_n 2, 1) := by decide +kernel
theorem dX0_spoilAll_2 : decode cX0_spoilAll 2 = .ok (.iload_n 2, 1) := by decide +kernel
theorem dX0_spoilAll_3 : decode cX0_spoilAll 3 = .ok (.aload_n 0, 1) := by decide +kernel
theorem dX0_spoilAll_4 : decode cX0_spoilAll 4 = .ok (.getfield 30, 3) := by decide +kernel
theorem dX0_spoilAll_7 : decode cX0_spoilAll 7 = .ok (.if_icmp .ge 40, 3) := by decide +kernel
theorem dX0_spoilAll_10 : decode cX0_spoilAll 10 = .ok (.aload_n 0, 1) := by decide +kernel
theorem dX0_spoilAll_11 : decode cX0_spoilAll 11 = .ok (.getfield 15, 3) := by decide +kernel
theorem dX0_spoilAll_14 : decode cX0_spoilAll 14 = .ok (.iload_n 2, 1) := by decide +kernel
theorem dX0_spoilAll_15 : decode cX0_spoilAll 15 = .ok (.iaload, 1) := by decide +kernel
theorem dX0_spoilAll_16 : decode cX0_spoilAll 16 = .ok (.iload_n 1, 1) := by decide +kernel
theorem dX0_spoilAll_17 : decode cX0_spoilAll 17 = .ok (.invokestatic 34, 3) := by decide +kernel
theorem dX0_spoilAll_20 : decode cX0_spoilAll 20 = .ok (.istore_n 3, 1) := by decide +kernel
theorem dX0_spoilAll_21 : decode cX0_spoilAll 21 = .ok (.aload_n 0, 1) := by decide +kernel
theorem dX0_spoilAll_22 : decode cX0_spoilAll 22 = .ok (.getfield 15, 3) := by decide +kernel
theorem dX0_spoilAll_25 : decode cX0_spoilAll 25 = .ok (.iload_n 2, 1) := by decide +kernel
theorem dX0_spoilAll_26 : decode cX0_spoilAll 26 = .ok (.dup2, 1) := by decide +kernel
theorem dX0_spoilAll_27 : decode cX0_spoilAll 27 = .ok (.iaload, 1) := by decide +kernel
theorem dX0_spoilAll_28 : decode cX0_spoilAll 28 = .ok (.iload_n 3, 1) := by decide +kernel
theorem dX0_spoilAll_29 : decode cX0_spoilAll 29 = .ok (.isub, 1) := by decide +kernel
theorem dX0_spoilAll_30 : decode cX0_spoilAll 30 = .ok (.iastore, 1) := by decide +kernel
theorem dX0_spoilAll_31 : decode cX0_spoilAll 31 = .ok (.aload_n 0, 1) := by decide +kernel
theorem dX0_spoilAll_32 : decode cX0_spoilAll 32 = .ok (.getfield 24, 3) := by decide +kernel
theorem dX0_spoilAll_35 : decode cX0_spoilAll 35 = .ok (.iload_n 2, 1) := by decide +kernel
theorem dX0_spoilAll_36 : decode cX0_spoilAll 36 = .ok (.dup2, 1) := by decide +kernel
theorem dX0_spoilAll_37 : decode cX0_spoilAll 37 = .ok (.iaload, 1) := by decide +kernel
theorem dX0_spoilAll_38 : decode cX0_spoilAll 38 = .ok (.iload_n 3, 1) := by decide +kernel
theorem dX0_spoilAll_39 : decode cX0_spoilAll 39 = .ok (.iadd, 1) := by decide +kernel
theorem dX0_spoilAll_40 : decode cX0_spoilAll 40 = .ok (.iastore, 1) := by decide +kernel
theorem dX0_spoilAll_41 : decode cX0_spoilAll 41 = .ok (.iinc 2 1, 3) := by decide +kernel
theorem dX0_spoilAll_44 : decode cX0_spoilAll 44 = .ok (.goto (-42), 3) := by decide +kernel
theorem dX0_spoilAll_47 : decode cX0_spoilAll 47 = .ok (.return_, 1) := by decide +kernel
set_option maxRecDepth 20000 in
theorem ggX0_leftAfter_X0_lossOf : GoodIn wsX0_leftAfter wsX0_lossOf := goodIn_r _ [5] (by decide +kernel) (by decide +kernel)
set_option maxRecDepth 20000 in
theorem gX0_leftAfter_X0_lossOf : GoodIn wsX0_leftAfter (va_wsS RX0 34 yX0_lossOf wsX0_lossOf) := goodIn_app (goodIn_of _ (by decide +kernel)) ggX0_leftAfter_X0_lossOf
theorem dX0_leftAfter_0 : decode cX0_leftAfter 0 = .ok (.aload_n 0, 1) := by decide +kernel
theorem dX0_leftAfter_1 : decode cX0_leftAfter 1 = .ok (.getfield 15, 3) := by decide +kernel
theorem dX0_leftAfter_4 : decode cX0_leftAfter 4 = .ok (.iload_n 1, 1) := by decide +kernel
theorem dX0_leftAfter_5 : decode cX0_leftAfter 5 = .ok (.iaload, 1) := by decide +kernel
theorem dX0_leftAfter_6 : decode cX0_leftAfter 6 = .ok (.istore 4, 2) := by decide +kernel
theorem dX0_leftAfter_8 : decode cX0_leftAfter 8 = .ok (.iconst 0, 1) := by decide +kernel
theorem dX0_leftAfter_9 : decode cX0_leftAfter 9 = .ok (.istore 5, 2) := by decide +kernel
theorem dX0_leftAfter_11 : decode cX0_leftAfter 11 = .ok (.iload 5, 2) := by decide +kernel
theorem dX0_leftAfter_13 : decode cX0_leftAfter 13 = .ok (.iload_n 2, 1) := by decide +kernel
theorem dX0_leftAfter_14 : decode cX0_leftAfter 14 = .ok (.if_icmp .ge 20, 3) := by decide +kernel
theorem dX0_leftAfter_17 : decode cX0_leftAfter 17 = .ok (.iload 4, 2) := by decide +kernel
theorem dX0_leftAfter_19 : decode cX0_leftAfter 19 = .ok (.iload 4, 2) := by decide +kernel
theorem dX0_leftAfter_21 : decode cX0_leftAfter 21 = .ok (.iload_n 3, 1) := by decide +kernel
theorem dX0_leftAfter_22 : decode cX0_leftAfter 22 = .ok (.invokestatic 34, 3) := by decide +kernel
theorem dX0_leftAfter_25 : decode cX0_leftAfter 25 = .ok (.isub, 1) := by decide +kernel
theorem dX0_leftAfter_26 : decode cX0_leftAfter 26 = .ok (.istore 4, 2) := by decide +kernel
theorem dX0_leftAfter_28 : decode cX0_leftAfter 28 = .ok (.iinc 5 1, 3) := by decide +kernel
theorem dX0_leftAfter_31 : decode cX0_leftAfter 31 = .ok (.goto (-20), 3) := by decide +kernel
theorem dX0_leftAfter_34 : decode cX0_leftAfter 34 = .ok (.iload 4, 2) := by decide +kernel
theorem dX0_leftAfter_36 : decode cX0_leftAfter 36 = .ok (.ireturn, 1) := by decide +kernel
theorem dX1_init_0 : decode cX1_init 0 = .ok (.aload_n 0, 1) := by decide +kernel
theorem dX1_init_1 : decode cX1_init 1 = .ok (.invokespecial 3, 3) := by decide +kernel
theorem dX1_init_4 : decode cX1_init 4 = .ok (.aload_n 0, 1) := by decide +kernel
theorem dX1_init_5 : decode cX1_init 5 = .ok (.iconst 3, 1) := by decide +kernel
theorem dX1_init_6 : decode cX1_init 6 = .ok (.newarray .int, 2) := by decide +kernel
theorem dX1_init_8 : decode cX1_init 8 = .ok (.putfield 9, 3) := by decide +kernel
theorem dX1_init_11 : decode cX1_init 11 = .ok (.aload_n 0, 1) := by decide +kernel
theorem dX1_init_12 : decode cX1_init 12 = .ok (.iconst 3, 1) := by decide +kernel
theorem dX1_init_13 : decode cX1_init 13 = .ok (.newarray .int, 2) := by decide +kernel
theorem dX1_init_15 : decode cX1_init 15 = .ok (.putfield 15, 3) := by decide +kernel
theorem dX1_init_18 : decode cX1_init 18 = .ok (.aload_n 0, 1) := by decide +kernel
theorem dX1_init_19 : decode cX1_init 19 = .ok (.iconst 3, 1) := by decide +kernel
theorem dX1_init_20 : decode cX1_init 20 = .ok (.newarray .int, 2) := by decide +kernel
theorem dX1_init_22 : decode cX1_init 22 = .ok (.putfield 18, 3) := by decide +kernel
theorem dX1_init_25 : decode cX1_init 25 = .ok (.return_, 1) := by decide +kernel
theorem dX1_hangs_0 : decode cX1_hangs 0 = .ok (.aload_n 0, 1) := by decide +kernel
theorem dX1_hangs_1 : decode cX1_hangs 1 = .ok (.getfield 18, 3) := by decide +kernel
theorem dX1_hangs_4 : decode cX1_hangs 4 = .ok (.iload_n 1, 1) := by decide +kernel
theorem dX1_hangs_5 : decode cX1_hangs 5 = .ok (.iaload, 1) := by decide +kernel
theorem dX1_hangs_6 : decode cX1_hangs 6 = .ok (.ifCond .le 7, 3) := by decide +kernel
theorem dX1_hangs_9 : decode cX1_hangs 9 = .ok (.iconst 1, 1) := by decide +kernel
theorem dX1_hangs_10 : decode cX1_hangs 10 = .ok (.goto 4, 3) := by decide +kernel
theorem dX1_hangs_13 : decode cX1_hangs 13 = .ok (.iconst 0, 1) := by decide +kernel
theorem dX1_hangs_14 : decode cX1_hangs 14 = .ok (.ireturn, 1) := by decide +kernel
set_option maxRecDepth 20000 in
theorem ggX1_bearsOne_X1_hangs : GoodIn wsX1_bearsOne wsX1_hangs := goodIn_r _ [6, 7, 8, 9, 10] (by decide +kernel) (by decide +kernel)
set_option maxRecDepth 20000 in
theorem gX1_bearsOne_X1_hangs : GoodIn wsX1_bearsOne (wsV RX1 21 RX1 yX1_hangs wsX1_hangs) := goodIn_app (goodIn_of _ (by decide +kernel)) ggX1_bearsOne_X1_hangs
theorem dX1_bearsOne_0 : decode cX1_bearsOne 0 = .ok (.iconst 0, 1) := by decide +kernel
theorem dX1_bearsOne_1 : decode cX1_bearsOne 1 = .ok (.istore_n 2, 1) := by decide +kernel
theorem dX1_bearsOne_2 : decode cX1_bearsOne 2 = .ok (.iload_n 2, 1) := by decide +kernel
theorem dX1_bearsOne_3 : decode cX1_bearsOne 3 = .ok (.iconst 3, 1) := by decide +kernel
theorem dX1_bearsOne_4 : decode cX1_bearsOne 4 = .ok (.if_icmp .ge 29, 3) := by decide +kernel
theorem dX1_bearsOne_7 : decode cX1_bearsOne 7 = .ok (.aload_n 0, 1) := by decide +kernel
theorem dX1_bearsOne_8 : decode cX1_bearsOne 8 = .ok (.iload_n 2, 1) := by decide +kernel
theorem dX1_bearsOne_9 : decode cX1_bearsOne 9 = .ok (.invokevirtual 21, 3) := by decide +kernel
theorem dX1_bearsOne_12 : decode cX1_bearsOne 12 = .ok (.ifCond .eq 15, 3) := by decide +kernel
theorem dX1_bearsOne_15 : decode cX1_bearsOne 15 = .ok (.aload_n 0, 1) := by decide +kernel
theorem dX1_bearsOne_16 : decode cX1_bearsOne 16 = .ok (.getfield 9, 3) := by decide +kernel
theorem dX1_bearsOne_19 : decode cX1_bearsOne 19 = .ok (.iload_n 2, 1) := by decide +kernel
theorem dX1_bearsOne_20 : decode cX1_bearsOne 20 = .ok (.iaload, 1) := by decide +kernel
theorem dX1_bearsOne_21 : decode cX1_bearsOne 21 = .ok (.iload_n 1, 1) := by decide +kernel
theorem dX1_bearsOne_22 : decode cX1_bearsOne 22 = .ok (.if_icmp .ne 5, 3) := by decide +kernel
theorem dX1_bearsOne_25 : decode cX1_bearsOne 25 = .ok (.iconst 1, 1) := by decide +kernel
theorem dX1_bearsOne_26 : decode cX1_bearsOne 26 = .ok (.ireturn, 1) := by decide +kernel
theorem dX1_bearsOne_27 : decode cX1_bearsOne 27 = .ok (.iinc 2 1, 3) := by decide +kernel
theorem dX1_bearsOne_30 : decode cX1_bearsOne 30 = .ok (.goto (-28), 3) := by decide +kernel
theorem dX1_bearsOne_33 : decode cX1_bearsOne 33 = .ok (.iconst 0, 1) := by decide +kernel
theorem dX1_bearsOne_34 : decode cX1_bearsOne 34 = .ok (.ireturn, 1) := by decide +kernel
theorem dX1_put_0 : decode cX1_put 0 = .ok (.aload_n 0, 1) := by decide +kernel
theorem dX1_put_1 : decode cX1_put 1 = .ok (.getfield 9, 3) := by decide +kernel
theorem dX1_put_4 : decode cX1_put 4 = .ok (.iload_n 1, 1) := by decide +kernel
theorem dX1_put_5 : decode cX1_put 5 = .ok (.iload_n 2, 1) := by decide +kernel
theorem dX1_put_6 : decode cX1_put 6 = .ok (.iastore, 1) := by decide +kernel
theorem dX1_put_7 : decode cX1_put 7 = .ok (.aload_n 0, 1) := by decide +kernel
theorem dX1_put_8 : decode cX1_put 8 = .ok (.getfield 15, 3) := by decide +kernel
theorem dX1_put_11 : decode cX1_put 11 = .ok (.iload_n 1, 1) := by decide +kernel
theorem dX1_put_12 : decode cX1_put 12 = .ok (.iload_n 3, 1) := by decide +kernel
theorem dX1_put_13 : decode cX1_put 13 = .ok (.iastore, 1) := by decide +kernel
theorem dX1_put_14 : decode cX1_put 14 = .ok (.aload_n 0, 1) := by decide +kernel
theorem dX1_put_15 : decode cX1_put 15 = .ok (.getfield 18, 3) := by decide +kernel
theorem dX1_put_18 : decode cX1_put 18 = .ok (.iload_n 1, 1) := by decide +kernel
theorem dX1_put_19 : decode cX1_put 19 = .ok (.iload 4, 2) := by decide +kernel
theorem dX1_put_21 : decode cX1_put 21 = .ok (.iastore, 1) := by decide +kernel
theorem dX1_put_22 : decode cX1_put 22 = .ok (.return_, 1) := by decide +kernel
theorem dX1_take_0 : decode cX1_take 0 = .ok (.aload_n 0, 1) := by decide +kernel
theorem dX1_take_1 : decode cX1_take 1 = .ok (.getfield 18, 3) := by decide +kernel
theorem dX1_take_4 : decode cX1_take 4 = .ok (.iload_n 1, 1) := by decide +kernel
theorem dX1_take_5 : decode cX1_take 5 = .ok (.iconst 0, 1) := by decide +kernel
theorem dX1_take_6 : decode cX1_take 6 = .ok (.iastore, 1) := by decide +kernel
theorem dX1_take_7 : decode cX1_take 7 = .ok (.return_, 1) := by decide +kernel
set_option maxRecDepth 20000 in
theorem ggX1_rulingOver_X1_hangs : GoodIn wsX1_rulingOver wsX1_hangs := goodIn_r _ [6, 7, 8, 9, 10] (by decide +kernel) (by decide +kernel)
set_option maxRecDepth 20000 in
theorem gX1_rulingOver_X1_hangs : GoodIn wsX1_rulingOver (wsV RX1 21 RX1 yX1_hangs wsX1_hangs) := goodIn_app (goodIn_of _ (by decide +kernel)) ggX1_rulingOver_X1_hangs
theorem dX1_rulingOver_0 : decode cX1_rulingOver 0 = .ok (.aload_n 0, 1) := by decide +kernel
theorem dX1_rulingOver_1 : decode cX1_rulingOver 1 = .ok (.iload_n 1, 1) := by decide +kernel
theorem dX1_rulingOver_2 : decode cX1_rulingOver 2 = .ok (.invokevirtual 21, 3) := by decide +kernel
theorem dX1_rulingOver_5 : decode cX1_rulingOver 5 = .ok (.ifCond .eq 12, 3) := by decide +kernel
theorem dX1_rulingOver_8 : decode cX1_rulingOver 8 = .ok (.aload_n 0, 1) := by decide +kernel
theorem dX1_rulingOver_9 : decode cX1_rulingOver 9 = .ok (.getfield 9, 3) := by decide +kernel
theorem dX1_rulingOver_12 : decode cX1_rulingOver 12 = .ok (.iload_n 1, 1) := by decide +kernel
theorem dX1_rulingOver_13 : decode cX1_rulingOver 13 = .ok (.iaload, 1) := by decide +kernel
theorem dX1_rulingOver_14 : decode cX1_rulingOver 14 = .ok (.goto 4, 3) := by decide +kernel
theorem dX1_rulingOver_17 : decode cX1_rulingOver 17 = .ok (.iload_n 1, 1) := by decide +kernel
theorem dX1_rulingOver_18 : decode cX1_rulingOver 18 = .ok (.ireturn, 1) := by decide +kernel
set_option maxRecDepth 20000 in
theorem ggX1_inProportion_X1_hangs : GoodIn wsX1_inProportion wsX1_hangs := goodIn_r _ [7, 2, 8, 9, 10] (by decide +kernel) (by decide +kernel)
set_option maxRecDepth 20000 in
theorem gX1_inProportion_X1_hangs : GoodIn wsX1_inProportion (wsV RX1 21 RX1 yX1_hangs wsX1_hangs) := goodIn_app (goodIn_of _ (by decide +kernel)) ggX1_inProportion_X1_hangs
theorem dX1_inProportion_0 : decode cX1_inProportion 0 = .ok (.aload_n 0, 1) := by decide +kernel
theorem dX1_inProportion_1 : decode cX1_inProportion 1 = .ok (.iload_n 1, 1) := by decide +kernel
theorem dX1_inProportion_2 : decode cX1_inProportion 2 = .ok (.invokevirtual 21, 3) := by decide +kernel
theorem dX1_inProportion_5 : decode cX1_inProportion 5 = .ok (.ifCond .eq 21, 3) := by decide +kernel
theorem dX1_inProportion_8 : decode cX1_inProportion 8 = .ok (.iload_n 2, 1) := by decide +kernel
theorem dX1_inProportion_9 : decode cX1_inProportion 9 = .ok (.aload_n 0, 1) := by decide +kernel
theorem dX1_inProportion_10 : decode cX1_inProportion 10 = .ok (.getfield 15, 3) := by decide +kernel
theorem dX1_inProportion_13 : decode cX1_inProportion 13 = .ok (.iload_n 1, 1) := by decide +kernel
theorem dX1_inProportion_14 : decode cX1_inProportion 14 = .ok (.iaload, 1) := by decide +kernel
theorem dX1_inProportion_15 : decode cX1_inProportion 15 = .ok (.imul, 1) := by decide +kernel
theorem dX1_inProportion_16 : decode cX1_inProportion 16 = .ok (.aload_n 0, 1) := by decide +kernel
theorem dX1_inProportion_17 : decode cX1_inProportion 17 = .ok (.getfield 18, 3) := by decide +kernel
theorem dX1_inProportion_20 : decode cX1_inProportion 20 = .ok (.iload_n 1, 1) := by decide +kernel
theorem dX1_inProportion_21 : decode cX1_inProportion 21 = .ok (.iaload, 1) := by decide +kernel
theorem dX1_inProportion_22 : decode cX1_inProportion 22 = .ok (.idiv, 1) := by decide +kernel
theorem dX1_inProportion_23 : decode cX1_inProportion 23 = .ok (.goto 4, 3) := by decide +kernel
theorem dX1_inProportion_26 : decode cX1_inProportion 26 = .ok (.iload_n 2, 1) := by decide +kernel
theorem dX1_inProportion_27 : decode cX1_inProportion 27 = .ok (.ireturn, 1) := by decide +kernel
theorem dX2_init_0 : decode cX2_init 0 = .ok (.aload_n 0, 1) := by decide +kernel
theorem dX2_init_1 : decode cX2_init 1 = .ok (.invokespecial 3, 3) := by decide +kernel
theorem dX2_init_4 : decode cX2_init 4 = .ok (.aload_n 0, 1) := by decide +kernel
theorem dX2_init_5 : decode cX2_init 5 = .ok (.bipush 100, 2) := by decide +kernel
theorem dX2_init_7 : decode cX2_init 7 = .ok (.newarray .int, 2) := by decide +kernel
theorem dX2_init_9 : decode cX2_init 9 = .ok (.putfield 9, 3) := by decide +kernel
theorem dX2_init_12 : decode cX2_init 12 = .ok (.aload_n 0, 1) := by decide +kernel
theorem dX2_init_13 : decode cX2_init 13 = .ok (.bipush 100, 2) := by decide +kernel
theorem dX2_init_15 : decode cX2_init 15 = .ok (.newarray .int, 2) := by decide +kernel
theorem dX2_init_17 : decode cX2_init 17 = .ok (.putfield 15, 3) := by decide +kernel
theorem dX2_init_20 : decode cX2_init 20 = .ok (.aload_n 0, 1) := by decide +kernel
theorem dX2_init_21 : decode cX2_init 21 = .ok (.bipush 100, 2) := by decide +kernel
theorem dX2_init_23 : decode cX2_init 23 = .ok (.newarray .int, 2) := by decide +kernel
theorem dX2_init_25 : decode cX2_init 25 = .ok (.putfield 18, 3) := by decide +kernel
theorem dX2_init_28 : decode cX2_init 28 = .ok (.return_, 1) := by decide +kernel
theorem dX2_add_0 : decode cX2_add 0 = .ok (.aload_n 0, 1) := by decide +kernel
theorem dX2_add_1 : decode cX2_add 1 = .ok (.getfield 9, 3) := by decide +kernel
theorem dX2_add_4 : decode cX2_add 4 = .ok (.aload_n 0, 1) := by decide +kernel
theorem dX2_add_5 : decode cX2_add 5 = .ok (.getfield 21, 3) := by decide +kernel
theorem dX2_add_8 : decode cX2_add 8 = .ok (.iload_n 1, 1) := by decide +kernel
theorem dX2_add_9 : decode cX2_add 9 = .ok (.iastore, 1) := by decide +kernel
theorem dX2_add_10 : decode cX2_add 10 = .ok (.aload_n 0, 1) := by decide +kernel
theorem dX2_add_11 : decode cX2_add 11 = .ok (.getfield 15, 3) := by decide +kernel
theorem dX2_add_14 : decode cX2_add 14 = .ok (.aload_n 0, 1) := by decide +kernel
theorem dX2_add_15 : decode cX2_add 15 = .ok (.getfield 21, 3) := by decide +kernel
theorem dX2_add_18 : decode cX2_add 18 = .ok (.iload_n 2, 1) := by decide +kernel
theorem dX2_add_19 : decode cX2_add 19 = .ok (.iastore, 1) := by decide +kernel
theorem dX2_add_20 : decode cX2_add 20 = .ok (.aload_n 0, 1) := by decide +kernel
theorem dX2_add_21 : decode cX2_add 21 = .ok (.getfield 18, 3) := by decide +kernel
theorem dX2_add_24 : decode cX2_add 24 = .ok (.aload_n 0, 1) := by decide +kernel
theorem dX2_add_25 : decode cX2_add 25 = .ok (.getfield 21, 3) := by decide +kernel
theorem dX2_add_28 : decode cX2_add 28 = .ok (.iload_n 3, 1) := by decide +kernel
theorem dX2_add_29 : decode cX2_add 29 = .ok (.iastore, 1) := by decide +kernel
theorem dX2_add_30 : decode cX2_add 30 = .ok (.aload_n 0, 1) := by decide +kernel
theorem dX2_add_31 : decode cX2_add 31 = .ok (.dup, 1) := by decide +kernel
theorem dX2_add_32 : decode cX2_add 32 = .ok (.getfield 21, 3) := by decide +kernel
theorem dX2_add_35 : decode cX2_add 35 = .ok (.iconst 1, 1) := by decide +kernel
theorem dX2_add_36 : decode cX2_add 36 = .ok (.iadd, 1) := by decide +kernel
theorem dX2_add_37 : decode cX2_add 37 = .ok (.putfield 21, 3) := by decide +kernel
theorem dX2_add_40 : decode cX2_add 40 = .ok (.return_, 1) := by decide +kernel
theorem dX3_init_0 : decode cX3_init 0 = .ok (.aload_n 0, 1) := by decide +kernel
theorem dX3_init_1 : decode cX3_init 1 = .ok (.invokespecial 3, 3) := by decide +kernel
theorem dX3_init_4 : decode cX3_init 4 = .ok (.aload_n 0, 1) := by decide +kernel
theorem dX3_init_5 : decode cX3_init 5 = .ok (.bipush 60, 2) := by decide +kernel
theorem dX3_init_7 : decode cX3_init 7 = .ok (.newarray .int, 2) := by decide +kernel
theorem dX3_init_9 : decode cX3_init 9 = .ok (.putfield 9, 3) := by decide +kernel
theorem dX3_init_12 : decode cX3_init 12 = .ok (.aload_n 0, 1) := by decide +kernel
theorem dX3_init_13 : decode cX3_init 13 = .ok (.bipush 60, 2) := by decide +kernel
theorem dX3_init_15 : decode cX3_init 15 = .ok (.newarray .int, 2) := by decide +kernel
theorem dX3_init_17 : decode cX3_init 17 = .ok (.putfield 15, 3) := by decide +kernel
theorem dX3_init_20 : decode cX3_init 20 = .ok (.aload_n 0, 1) := by decide +kernel
theorem dX3_init_21 : decode cX3_init 21 = .ok (.bipush 60, 2) := by decide +kernel
theorem dX3_init_23 : decode cX3_init 23 = .ok (.newarray .int, 2) := by decide +kernel
theorem dX3_init_25 : decode cX3_init 25 = .ok (.putfield 18, 3) := by decide +kernel
theorem dX3_init_28 : decode cX3_init 28 = .ok (.aload_n 0, 1) := by decide +kernel
theorem dX3_init_29 : decode cX3_init 29 = .ok (.bipush 60, 2) := by decide +kernel
theorem dX3_init_31 : decode cX3_init 31 = .ok (.newarray .int, 2) := by decide +kernel
theorem dX3_init_33 : decode cX3_init 33 = .ok (.putfield 21, 3) := by decide +kernel
theorem dX3_init_36 : decode cX3_init 36 = .ok (.aload_n 0, 1) := by decide +kernel
theorem dX3_init_37 : decode cX3_init 37 = .ok (.bipush 60, 2) := by decide +kernel
theorem dX3_init_39 : decode cX3_init 39 = .ok (.newarray .int, 2) := by decide +kernel
theorem dX3_init_41 : decode cX3_init 41 = .ok (.putfield 24, 3) := by decide +kernel
theorem dX3_init_44 : decode cX3_init 44 = .ok (.aload_n 0, 1) := by decide +kernel
theorem dX3_init_45 : decode cX3_init 45 = .ok (.bipush 60, 2) := by decide +kernel
theorem dX3_init_47 : decode cX3_init 47 = .ok (.newarray .int, 2) := by decide +kernel
theorem dX3_init_49 : decode cX3_init 49 = .ok (.putfield 27, 3) := by decide +kernel
theorem dX3_init_52 : decode cX3_init 52 = .ok (.aload_n 0, 1) := by decide +kernel
theorem dX3_init_53 : decode cX3_init 53 = .ok (.bipush 60, 2) := by decide +kernel
theorem dX3_init_55 : decode cX3_init 55 = .ok (.newarray .int, 2) := by decide +kernel
theorem dX3_init_57 : decode cX3_init 57 = .ok (.putfield 30, 3) := by decide +kernel
theorem dX3_init_60 : decode cX3_init 60 = .ok (.return_, 1) := by decide +kernel
theorem dX3_has_0 : decode cX3_has 0 = .ok (.iload_n 1, 1) := by decide +kernel
theorem dX3_has_1 : decode cX3_has 1 = .ok (.ifCond .lt 15, 3) := by decide +kernel
theorem dX3_has_4 : decode cX3_has 4 = .ok (.iload_n 1, 1) := by decide +kernel
theorem dX3_has_5 : decode cX3_has 5 = .ok (.aload_n 0, 1) := by decide +kernel
theorem dX3_has_6 : decode cX3_has 6 = .ok (.getfield 33, 3) := by decide +kernel
theorem dX3_has_9 : decode cX3_has 9 = .ok (.if_icmp .ge 7, 3) := by decide +kernel
theorem dX3_has_12 : decode cX3_has 12 = .ok (.iconst 1, 1) := by decide +kernel
theorem dX3_has_13 : decode cX3_has 13 = .ok (.goto 4, 3) := by decide +kernel
theorem dX3_has_16 : decode cX3_has 16 = .ok (.iconst 0, 1) := by decide +kernel
theorem dX3_has_17 : decode cX3_has 17 = .ok (.ireturn, 1) := by decide +kernel
theorem dX3_add_0 : decode cX3_add 0 = .ok (.aload_n 0, 1) := by decide +kernel
theorem dX3_add_1 : decode cX3_add 1 = .ok (.getfield 33, 3) := by decide +kernel
theorem dX3_add_4 : decode cX3_add 4 = .ok (.istore 7, 2) := by decide +kernel
theorem dX3_add_6 : decode cX3_add 6 = .ok (.aload_n 0, 1) := by decide +kernel
theorem dX3_add_7 : decode cX3_add 7 = .ok (.getfield 9, 3) := by decide +kernel
theorem dX3_add_10 : decode cX3_add 10 = .ok (.iload 7, 2) := by decide +kernel
theorem dX3_add_12 : decode cX3_add 12 = .ok (.iload_n 1, 1) := by decide +kernel
theorem dX3_add_13 : decode cX3_add 13 = .ok (.iastore, 1) := by decide +kernel
theorem dX3_add_14 : decode cX3_add 14 = .ok (.aload_n 0, 1) := by decide +kernel
theorem dX3_add_15 : decode cX3_add 15 = .ok (.getfield 15, 3) := by decide +kernel
theorem dX3_add_18 : decode cX3_add 18 = .ok (.iload 7, 2) := by decide +kernel
theorem dX3_add_20 : decode cX3_add 20 = .ok (.iload_n 2, 1) := by decide +kernel
theorem dX3_add_21 : decode cX3_add 21 = .ok (.iastore, 1) := by decide +kernel
theorem dX3_add_22 : decode cX3_add 22 = .ok (.aload_n 0, 1) := by decide +kernel
theorem dX3_add_23 : decode cX3_add 23 = .ok (.getfield 18, 3) := by decide +kernel
theorem dX3_add_26 : decode cX3_add 26 = .ok (.iload 7, 2) := by decide +kernel
theorem dX3_add_28 : decode cX3_add 28 = .ok (.iload_n 3, 1) := by decide +kernel
theorem dX3_add_29 : decode cX3_add 29 = .ok (.iastore, 1) := by decide +kernel
theorem dX3_add_30 : decode cX3_add 30 = .ok (.aload_n 0, 1) := by decide +kernel
theorem dX3_add_31 : decode cX3_add 31 = .ok (.getfield 21, 3) := by decide +kernel
theorem dX3_add_34 : decode cX3_add 34 = .ok (.iload 7, 2) := by decide +kernel
theorem dX3_add_36 : decode cX3_add 36 = .ok (.iload 4, 2) := by decide +kernel
theorem dX3_add_38 : decode cX3_add 38 = .ok (.iastore, 1) := by decide +kernel
theorem dX3_add_39 : decode cX3_add 39 = .ok (.aload_n 0, 1) := by decide +kernel
theorem dX3_add_40 : decode cX3_add 40 = .ok (.getfield 24, 3) := by decide +kernel
theorem dX3_add_43 : decode cX3_add 43 = .ok (.iload 7, 2) := by decide +kernel
theorem dX3_add_45 : decode cX3_add 45 = .ok (.iload 5, 2) := by decide +kernel
theorem dX3_add_47 : decode cX3_add 47 = .ok (.iastore, 1) := by decide +kernel
theorem dX3_add_48 : decode cX3_add 48 = .ok (.aload_n 0, 1) := by decide +kernel
theorem dX3_add_49 : decode cX3_add 49 = .ok (.getfield 27, 3) := by decide +kernel
theorem dX3_add_52 : decode cX3_add 52 = .ok (.iload 7, 2) := by decide +kernel
theorem dX3_add_54 : decode cX3_add 54 = .ok (.iload 6, 2) := by decide +kernel
theorem dX3_add_56 : decode cX3_add 56 = .ok (.iastore, 1) := by decide +kernel
theorem dX3_add_57 : decode cX3_add 57 = .ok (.aload_n 0, 1) := by decide +kernel
theorem dX3_add_58 : decode cX3_add 58 = .ok (.getfield 30, 3) := by decide +kernel
theorem dX3_add_61 : decode cX3_add 61 = .ok (.iload 7, 2) := by decide +kernel
theorem dX3_add_63 : decode cX3_add 63 = .ok (.iconst (-1), 1) := by decide +kernel
theorem dX3_add_64 : decode cX3_add 64 = .ok (.iastore, 1) := by decide +kernel
theorem dX3_add_65 : decode cX3_add 65 = .ok (.aload_n 0, 1) := by decide +kernel
theorem dX3_add_66 : decode cX3_add 66 = .ok (.iload 7, 2) := by decide +kernel
theorem dX3_add_68 : decode cX3_add 68 = .ok (.iconst 1, 1) := by decide +kernel
theorem dX3_add_69 : decode cX3_add 69 = .ok (.iadd, 1) := by decide +kernel
theorem dX3_add_70 : decode cX3_add 70 = .ok (.putfield 33, 3) := by decide +kernel
theorem dX3_add_73 : decode cX3_add 73 = .ok (.iload 7, 2) := by decide +kernel
theorem dX3_add_75 : decode cX3_add 75 = .ok (.ireturn, 1) := by decide +kernel
theorem dX3_struckOnes_0 : decode cX3_struckOnes 0 = .ok (.iconst 0, 1) := by decide +kernel
theorem dX3_struckOnes_1 : decode cX3_struckOnes 1 = .ok (.istore_n 1, 1) := by decide +kernel
theorem dX3_struckOnes_2 : decode cX3_struckOnes 2 = .ok (.iconst 0, 1) := by decide +kernel
theorem dX3_struckOnes_3 : decode cX3_struckOnes 3 = .ok (.istore_n 2, 1) := by decide +kernel
theorem dX3_struckOnes_4 : decode cX3_struckOnes 4 = .ok (.iload_n 2, 1) := by decide +kernel
theorem dX3_struckOnes_5 : decode cX3_struckOnes 5 = .ok (.aload_n 0, 1) := by decide +kernel
theorem dX3_struckOnes_6 : decode cX3_struckOnes 6 = .ok (.getfield 33, 3) := by decide +kernel
theorem dX3_struckOnes_9 : decode cX3_struckOnes 9 = .ok (.if_icmp .ge 22, 3) := by decide +kernel
theorem dX3_struckOnes_12 : decode cX3_struckOnes 12 = .ok (.aload_n 0, 1) := by decide +kernel
theorem dX3_struckOnes_13 : decode cX3_struckOnes 13 = .ok (.getfield 30, 3) := by decide +kernel
theorem dX3_struckOnes_16 : decode cX3_struckOnes 16 = .ok (.iload_n 2, 1) := by decide +kernel
theorem dX3_struckOnes_17 : decode cX3_struckOnes 17 = .ok (.iaload, 1) := by decide +kernel
theorem dX3_struckOnes_18 : decode cX3_struckOnes 18 = .ok (.iconst (-1), 1) := by decide +kernel
theorem dX3_struckOnes_19 : decode cX3_struckOnes 19 = .ok (.if_icmp .eq 6, 3) := by decide +kernel
theorem dX3_struckOnes_22 : decode cX3_struckOnes 22 = .ok (.iinc 1 1, 3) := by decide +kernel
theorem dX3_struckOnes_25 : decode cX3_struckOnes 25 = .ok (.iinc 2 1, 3) := by decide +kernel
theorem dX3_struckOnes_28 : decode cX3_struckOnes 28 = .ok (.goto (-24), 3) := by decide +kernel
theorem dX3_struckOnes_31 : decode cX3_struckOnes 31 = .ok (.iload_n 1, 1) := by decide +kernel
theorem dX3_struckOnes_32 : decode cX3_struckOnes 32 = .ok (.ireturn, 1) := by decide +kernel
theorem dX3_isKnown_0 : decode cX3_isKnown 0 = .ok (.aload_n 0, 1) := by decide +kernel
theorem dX3_isKnown_1 : decode cX3_isKnown 1 = .ok (.getfield 27, 3) := by decide +kernel
theorem dX3_isKnown_4 : decode cX3_isKnown 4 = .ok (.iload_n 1, 1) := by decide +kernel
theorem dX3_isKnown_5 : decode cX3_isKnown 5 = .ok (.iaload, 1) := by decide +kernel
theorem dX3_isKnown_6 : decode cX3_isKnown 6 = .ok (.iload_n 2, 1) := by decide +kernel
theorem dX3_isKnown_7 : decode cX3_isKnown 7 = .ok (.if_icmp .gt 27, 3) := by decide +kernel
theorem dX3_isKnown_10 : decode cX3_isKnown 10 = .ok (.aload_n 0, 1) := by decide +kernel
theorem dX3_isKnown_11 : decode cX3_isKnown 11 = .ok (.getfield 30, 3) := by decide +kernel
theorem dX3_isKnown_14 : decode cX3_isKnown 14 = .ok (.iload_n 1, 1) := by decide +kernel
theorem dX3_isKnown_15 : decode cX3_isKnown 15 = .ok (.iaload, 1) := by decide +kernel
theorem dX3_isKnown_16 : decode cX3_isKnown 16 = .ok (.iconst (-1), 1) := by decide +kernel
theorem dX3_isKnown_17 : decode cX3_isKnown 17 = .ok (.if_icmp .eq 13, 3) := by decide +kernel
theorem dX3_isKnown_20 : decode cX3_isKnown 20 = .ok (.aload_n 0, 1) := by decide +kernel
theorem dX3_isKnown_21 : decode cX3_isKnown 21 = .ok (.getfield 30, 3) := by decide +kernel
theorem dX3_isKnown_24 : decode cX3_isKnown 24 = .ok (.iload_n 1, 1) := by decide +kernel
theorem dX3_isKnown_25 : decode cX3_isKnown 25 = .ok (.iaload, 1) := by decide +kernel
theorem dX3_isKnown_26 : decode cX3_isKnown 26 = .ok (.iload_n 2, 1) := by decide +kernel
theorem dX3_isKnown_27 : decode cX3_isKnown 27 = .ok (.if_icmp .le 7, 3) := by decide +kernel
theorem dX3_isKnown_30 : decode cX3_isKnown 30 = .ok (.iconst 1, 1) := by decide +kernel
theorem dX3_isKnown_31 : decode cX3_isKnown 31 = .ok (.goto 4, 3) := by decide +kernel
theorem dX3_isKnown_34 : decode cX3_isKnown 34 = .ok (.iconst 0, 1) := by decide +kernel
theorem dX3_isKnown_35 : decode cX3_isKnown 35 = .ok (.ireturn, 1) := by decide +kernel
set_option maxRecDepth 20000 in
theorem ggX3_weeklyKnown_X3_isKnown : GoodIn wsX3_weeklyKnown wsX3_isKnown := goodIn_r _ [10, 11, 12, 13, 14, 15, 16, 17, 18, 19, 20] (by decide +kernel) (by decide +kernel)
set_option maxRecDepth 20000 in
theorem gX3_weeklyKnown_X3_isKnown : GoodIn wsX3_weeklyKnown (wsV RX3 37 RX3 yX3_isKnown wsX3_isKnown) := goodIn_app (goodIn_of _ (by decide +kernel)) ggX3_weeklyKnown_X3_isKnown
theorem dX3_weeklyKnown_0 : decode cX3_weeklyKnown 0 = .ok (.iconst (-1), 1) := by decide +kernel
theorem dX3_weeklyKnown_1 : decode cX3_weeklyKnown 1 = .ok (.istore 5, 2) := by decide +kernel
theorem dX3_weeklyKnown_3 : decode cX3_weeklyKnown 3 = .ok (.iconst 0, 1) := by decide +kernel
theorem dX3_weeklyKnown_4 : decode cX3_weeklyKnown 4 = .ok (.istore 6, 2) := by decide +kernel
theorem dX3_weeklyKnown_6 : decode cX3_weeklyKnown 6 = .ok (.iconst 0, 1) := by decide +kernel
theorem dX3_weeklyKnown_7 : decode cX3_weeklyKnown 7 = .ok (.istore 7, 2) := by decide +kernel
theorem dX3_weeklyKnown_9 : decode cX3_weeklyKnown 9 = .ok (.iconst 0, 1) := by decide +kernel
theorem dX3_weeklyKnown_10 : decode cX3_weeklyKnown 10 = .ok (.istore 8, 2) := by decide +kernel
theorem dX3_weeklyKnown_12 : decode cX3_weeklyKnown 12 = .ok (.iload 8, 2) := by decide +kernel
theorem dX3_weeklyKnown_14 : decode cX3_weeklyKnown 14 = .ok (.aload_n 0, 1) := by decide +kernel
theorem dX3_weeklyKnown_15 : decode cX3_weeklyKnown 15 = .ok (.getfield 33, 3) := by decide +kernel
theorem dX3_weeklyKnown_18 : decode cX3_weeklyKnown 18 = .ok (.if_icmp .ge 122, 3) := by decide +kernel
theorem dX3_weeklyKnown_21 : decode cX3_weeklyKnown 21 = .ok (.aload_n 0, 1) := by decide +kernel
theorem dX3_weeklyKnown_22 : decode cX3_weeklyKnown 22 = .ok (.getfield 15, 3) := by decide +kernel
theorem dX3_weeklyKnown_25 : decode cX3_weeklyKnown 25 = .ok (.iload 8, 2) := by decide +kernel
theorem dX3_weeklyKnown_27 : decode cX3_weeklyKnown 27 = .ok (.iaload, 1) := by decide +kernel
theorem dX3_weeklyKnown_28 : decode cX3_weeklyKnown 28 = .ok (.iload_n 1, 1) := by decide +kernel
theorem dX3_weeklyKnown_29 : decode cX3_weeklyKnown 29 = .ok (.if_icmp .ne 105, 3) := by decide +kernel
theorem dX3_weeklyKnown_32 : decode cX3_weeklyKnown 32 = .ok (.aload_n 0, 1) := by decide +kernel
theorem dX3_weeklyKnown_33 : decode cX3_weeklyKnown 33 = .ok (.getfield 18, 3) := by decide +kernel
theorem dX3_weeklyKnown_36 : decode cX3_weeklyKnown 36 = .ok (.iload 8, 2) := by decide +kernel
theorem dX3_weeklyKnown_38 : decode cX3_weeklyKnown 38 = .ok (.iaload, 1) := by decide +kernel
theorem dX3_weeklyKnown_39 : decode cX3_weeklyKnown 39 = .ok (.iload_n 2, 1) := by decide +kernel
theorem dX3_weeklyKnown_40 : decode cX3_weeklyKnown 40 = .ok (.if_icmp .gt 94, 3) := by decide +kernel
theorem dX3_weeklyKnown_43 : decode cX3_weeklyKnown 43 = .ok (.aload_n 0, 1) := by decide +kernel
theorem dX3_weeklyKnown_44 : decode cX3_weeklyKnown 44 = .ok (.getfield 18, 3) := by decide +kernel
theorem dX3_weeklyKnown_47 : decode cX3_weeklyKnown 47 = .ok (.iload 8, 2) := by decide +kernel
theorem dX3_weeklyKnown_49 : decode cX3_weeklyKnown 49 = .ok (.iaload, 1) := by decide +kernel
theorem dX3_weeklyKnown_50 : decode cX3_weeklyKnown 50 = .ok (.iload 5, 2) := by decide +kernel
theorem dX3_weeklyKnown_52 : decode cX3_weeklyKnown 52 = .ok (.if_icmp .lt 82, 3) := by decide +kernel
theorem dX3_weeklyKnown_55 : decode cX3_weeklyKnown 55 = .ok (.iload 8, 2) := by decide +kernel
theorem dX3_weeklyKnown_57 : decode cX3_weeklyKnown 57 = .ok (.iload 4, 2) := by decide +kernel
theorem dX3_weeklyKnown_59 : decode cX3_weeklyKnown 59 = .ok (.if_icmp .eq 75, 3) := by decide +kernel
theorem dX3_weeklyKnown_62 : decode cX3_weeklyKnown 62 = .ok (.aload_n 0, 1) := by decide +kernel
theorem dX3_weeklyKnown_63 : decode cX3_weeklyKnown 63 = .ok (.iload 8, 2) := by decide +kernel
theorem dX3_weeklyKnown_65 : decode cX3_weeklyKnown 65 = .ok (.iload_n 3, 1) := by decide +kernel
theorem dX3_weeklyKnown_66 : decode cX3_weeklyKnown 66 = .ok (.invokevirtual 37, 3) := by decide +kernel
theorem dX3_weeklyKnown_69 : decode cX3_weeklyKnown 69 = .ok (.ifCond .ne 6, 3) := by decide +kernel
theorem dX3_weeklyKnown_72 : decode cX3_weeklyKnown 72 = .ok (.goto 62, 3) := by decide +kernel
theorem dX3_weeklyKnown_75 : decode cX3_weeklyKnown 75 = .ok (.aload_n 0, 1) := by decide +kernel
theorem dX3_weeklyKnown_76 : decode cX3_weeklyKnown 76 = .ok (.getfield 18, 3) := by decide +kernel
theorem dX3_weeklyKnown_79 : decode cX3_weeklyKnown 79 = .ok (.iload 8, 2) := by decide +kernel
theorem dX3_weeklyKnown_81 : decode cX3_weeklyKnown 81 = .ok (.iaload, 1) := by decide +kernel
theorem dX3_weeklyKnown_82 : decode cX3_weeklyKnown 82 = .ok (.iload 5, 2) := by decide +kernel
theorem dX3_weeklyKnown_84 : decode cX3_weeklyKnown 84 = .ok (.if_icmp .le 18, 3) := by decide +kernel
theorem dX3_weeklyKnown_87 : decode cX3_weeklyKnown 87 = .ok (.aload_n 0, 1) := by decide +kernel
theorem dX3_weeklyKnown_88 : decode cX3_weeklyKnown 88 = .ok (.getfield 18, 3) := by decide +kernel
theorem dX3_weeklyKnown_91 : decode cX3_weeklyKnown 91 = .ok (.iload 8, 2) := by decide +kernel
theorem dX3_weeklyKnown_93 : decode cX3_weeklyKnown 93 = .ok (.iaload, 1) := by decide +kernel
theorem dX3_weeklyKnown_94 : decode cX3_weeklyKnown 94 = .ok (.istore 5, 2) := by decide +kernel
theorem dX3_weeklyKnown_96 : decode cX3_weeklyKnown 96 = .ok (.iconst 0, 1) := by decide +kernel
theorem dX3_weeklyKnown_97 : decode cX3_weeklyKnown 97 = .ok (.istore 6, 2) := by decide +kernel
theorem dX3_weeklyKnown_99 : decode cX3_weeklyKnown 99 = .ok (.iconst 0, 1) := by decide +kernel
theorem dX3_weeklyKnown_100 : decode cX3_weeklyKnown 100 = .ok (.istore 7, 2) := by decide +kernel
theorem dX3_weeklyKnown_102 : decode cX3_weeklyKnown 102 = .ok (.iload 6, 2) := by decide +kernel
theorem dX3_weeklyKnown_104 : decode cX3_weeklyKnown 104 = .ok (.aload_n 0, 1) := by decide +kernel
theorem dX3_weeklyKnown_105 : decode cX3_weeklyKnown 105 = .ok (.getfield 24, 3) := by decide +kernel
theorem dX3_weeklyKnown_108 : decode cX3_weeklyKnown 108 = .ok (.iload 8, 2) := by decide +kernel
theorem dX3_weeklyKnown_110 : decode cX3_weeklyKnown 110 = .ok (.iaload, 1) := by decide +kernel
theorem dX3_weeklyKnown_111 : decode cX3_weeklyKnown 111 = .ok (.aload_n 0, 1) := by decide +kernel
theorem dX3_weeklyKnown_112 : decode cX3_weeklyKnown 112 = .ok (.getfield 21, 3) := by decide +kernel
theorem dX3_weeklyKnown_115 : decode cX3_weeklyKnown 115 = .ok (.iload 8, 2) := by decide +kernel
theorem dX3_weeklyKnown_117 : decode cX3_weeklyKnown 117 = .ok (.iaload, 1) := by decide +kernel
theorem dX3_weeklyKnown_118 : decode cX3_weeklyKnown 118 = .ok (.imul, 1) := by decide +kernel
theorem dX3_weeklyKnown_119 : decode cX3_weeklyKnown 119 = .ok (.iadd, 1) := by decide +kernel
theorem dX3_weeklyKnown_120 : decode cX3_weeklyKnown 120 = .ok (.istore 6, 2) := by decide +kernel
theorem dX3_weeklyKnown_122 : decode cX3_weeklyKnown 122 = .ok (.iload 7, 2) := by decide +kernel
theorem dX3_weeklyKnown_124 : decode cX3_weeklyKnown 124 = .ok (.aload_n 0, 1) := by decide +kernel
theorem dX3_weeklyKnown_125 : decode cX3_weeklyKnown 125 = .ok (.getfield 21, 3) := by decide +kernel
theorem dX3_weeklyKnown_128 : decode cX3_weeklyKnown 128 = .ok (.iload 8, 2) := by decide +kernel
theorem dX3_weeklyKnown_130 : decode cX3_weeklyKnown 130 = .ok (.iaload, 1) := by decide +kernel
theorem dX3_weeklyKnown_131 : decode cX3_weeklyKnown 131 = .ok (.iadd, 1) := by decide +kernel
theorem dX3_weeklyKnown_132 : decode cX3_weeklyKnown 132 = .ok (.istore 7, 2) := by decide +kernel
theorem dX3_weeklyKnown_134 : decode cX3_weeklyKnown 134 = .ok (.iinc 8 1, 3) := by decide +kernel
theorem dX3_weeklyKnown_137 : decode cX3_weeklyKnown 137 = .ok (.goto (-125), 3) := by decide +kernel
theorem dX3_weeklyKnown_140 : decode cX3_weeklyKnown 140 = .ok (.iload 7, 2) := by decide +kernel
theorem dX3_weeklyKnown_142 : decode cX3_weeklyKnown 142 = .ok (.ifCond .ne 7, 3) := by decide +kernel
theorem dX3_weeklyKnown_145 : decode cX3_weeklyKnown 145 = .ok (.iconst (-1), 1) := by decide +kernel
theorem dX3_weeklyKnown_146 : decode cX3_weeklyKnown 146 = .ok (.goto 8, 3) := by decide +kernel
theorem dX3_weeklyKnown_149 : decode cX3_weeklyKnown 149 = .ok (.iload 6, 2) := by decide +kernel
theorem dX3_weeklyKnown_151 : decode cX3_weeklyKnown 151 = .ok (.iload 7, 2) := by decide +kernel
theorem dX3_weeklyKnown_153 : decode cX3_weeklyKnown 153 = .ok (.idiv, 1) := by decide +kernel
theorem dX3_weeklyKnown_154 : decode cX3_weeklyKnown 154 = .ok (.ireturn, 1) := by decide +kernel
set_option maxRecDepth 20000 in
theorem ggX3_averageKnown_X3_weeklyKnown : GoodIn wsX3_averageKnown wsX3_weeklyKnown := goodIn_r _ [5, 6, 7, 8, 9, 10, 11, 12, 13, 4, 14, 15, 16, 17, 18, 19, 20, 21, 22, 23, 24] (by decide +kernel) (by decide +kernel)
set_option maxRecDepth 20000 in
theorem gX3_averageKnown_X3_weeklyKnown : GoodIn wsX3_averageKnown (wsV RX3 41 RX3 yX3_weeklyKnown wsX3_weeklyKnown) := goodIn_app (goodIn_of _ (by decide +kernel)) ggX3_averageKnown_X3_weeklyKnown
theorem dX3_averageKnown_0 : decode cX3_averageKnown 0 = .ok (.iconst 0, 1) := by decide +kernel
theorem dX3_averageKnown_1 : decode cX3_averageKnown 1 = .ok (.istore 4, 2) := by decide +kernel
theorem dX3_averageKnown_3 : decode cX3_averageKnown 3 = .ok (.iload_n 2, 1) := by decide +kernel
theorem dX3_averageKnown_4 : decode cX3_averageKnown 4 = .ok (.bipush 6, 2) := by decide +kernel
theorem dX3_averageKnown_6 : decode cX3_averageKnown 6 = .ok (.isub, 1) := by decide +kernel
theorem dX3_averageKnown_7 : decode cX3_averageKnown 7 = .ok (.istore 5, 2) := by decide +kernel
theorem dX3_averageKnown_9 : decode cX3_averageKnown 9 = .ok (.iload 5, 2) := by decide +kernel
theorem dX3_averageKnown_11 : decode cX3_averageKnown 11 = .ok (.iload_n 2, 1) := by decide +kernel
theorem dX3_averageKnown_12 : decode cX3_averageKnown 12 = .ok (.if_icmp .ge 35, 3) := by decide +kernel
theorem dX3_averageKnown_15 : decode cX3_averageKnown 15 = .ok (.aload_n 0, 1) := by decide +kernel
theorem dX3_averageKnown_16 : decode cX3_averageKnown 16 = .ok (.iload_n 1, 1) := by decide +kernel
theorem dX3_averageKnown_17 : decode cX3_averageKnown 17 = .ok (.iload 5, 2) := by decide +kernel
theorem dX3_averageKnown_19 : decode cX3_averageKnown 19 = .ok (.iload_n 2, 1) := by decide +kernel
theorem dX3_averageKnown_20 : decode cX3_averageKnown 20 = .ok (.iload_n 3, 1) := by decide +kernel
theorem dX3_averageKnown_21 : decode cX3_averageKnown 21 = .ok (.invokevirtual 41, 3) := by decide +kernel
theorem dX3_averageKnown_24 : decode cX3_averageKnown 24 = .ok (.istore 6, 2) := by decide +kernel
theorem dX3_averageKnown_26 : decode cX3_averageKnown 26 = .ok (.iload 6, 2) := by decide +kernel
theorem dX3_averageKnown_28 : decode cX3_averageKnown 28 = .ok (.iconst (-1), 1) := by decide +kernel
theorem dX3_averageKnown_29 : decode cX3_averageKnown 29 = .ok (.if_icmp .ne 5, 3) := by decide +kernel
theorem dX3_averageKnown_32 : decode cX3_averageKnown 32 = .ok (.iconst (-1), 1) := by decide +kernel
theorem dX3_averageKnown_33 : decode cX3_averageKnown 33 = .ok (.ireturn, 1) := by decide +kernel
theorem dX3_averageKnown_34 : decode cX3_averageKnown 34 = .ok (.iload 4, 2) := by decide +kernel
theorem dX3_averageKnown_36 : decode cX3_averageKnown 36 = .ok (.iload 6, 2) := by decide +kernel
theorem dX3_averageKnown_38 : decode cX3_averageKnown 38 = .ok (.iadd, 1) := by decide +kernel
theorem dX3_averageKnown_39 : decode cX3_averageKnown 39 = .ok (.istore 4, 2) := by decide +kernel
theorem dX3_averageKnown_41 : decode cX3_averageKnown 41 = .ok (.iinc 5 1, 3) := by decide +kernel
theorem dX3_averageKnown_44 : decode cX3_averageKnown 44 = .ok (.goto (-35), 3) := by decide +kernel
theorem dX3_averageKnown_47 : decode cX3_averageKnown 47 = .ok (.iload 4, 2) := by decide +kernel
theorem dX3_averageKnown_49 : decode cX3_averageKnown 49 = .ok (.bipush 6, 2) := by decide +kernel
theorem dX3_averageKnown_51 : decode cX3_averageKnown 51 = .ok (.idiv, 1) := by decide +kernel
theorem dX3_averageKnown_52 : decode cX3_averageKnown 52 = .ok (.ireturn, 1) := by decide +kernel
set_option maxRecDepth 20000 in
theorem ggX3_townsKnown_X3_isKnown : GoodIn wsX3_townsKnown wsX3_isKnown := goodIn_r _ [8, 9, 10, 18, 19, 20, 21, 22, 23, 24, 25] (by decide +kernel) (by decide +kernel)
set_option maxRecDepth 20000 in
theorem gX3_townsKnown_X3_isKnown : GoodIn wsX3_townsKnown (wsV RX3 37 RX3 yX3_isKnown wsX3_isKnown) := goodIn_app (goodIn_of _ (by decide +kernel)) ggX3_townsKnown_X3_isKnown
set_option maxRecDepth 20000 in
theorem ggX3_townsKnown_J6_bitCount_0f7a4 : GoodIn wsX3_townsKnown wsJ6_bitCount_0f7a4 := goodIn_r _ [14, 15, 16, 17] (by decide +kernel) (by decide +kernel)
set_option maxRecDepth 20000 in
theorem gX3_townsKnown_J6_bitCount_0f7a4 : GoodIn wsX3_townsKnown (va_wsS RX3 45 yJ6_bitCount_0f7a4 wsJ6_bitCount_0f7a4) := goodIn_app (goodIn_of _ (by decide +kernel)) ggX3_townsKnown_J6_bitCount_0f7a4
theorem dX3_townsKnown_0 : decode cX3_townsKnown 0 = .ok (.iconst 0, 1) := by decide +kernel
theorem dX3_townsKnown_1 : decode cX3_townsKnown 1 = .ok (.istore_n 3, 1) := by decide +kernel
theorem dX3_townsKnown_2 : decode cX3_townsKnown 2 = .ok (.iconst 0, 1) := by decide +kernel
theorem dX3_townsKnown_3 : decode cX3_townsKnown 3 = .ok (.istore 4, 2) := by decide +kernel
theorem dX3_townsKnown_5 : decode cX3_townsKnown 5 = .ok (.iload 4, 2) := by decide +kernel
theorem dX3_townsKnown_7 : decode cX3_townsKnown 7 = .ok (.aload_n 0, 1) := by decide +kernel
theorem dX3_townsKnown_8 : decode cX3_townsKnown 8 = .ok (.getfield 33, 3) := by decide +kernel
theorem dX3_townsKnown_11 : decode cX3_townsKnown 11 = .ok (.if_icmp .ge 42, 3) := by decide +kernel
theorem dX3_townsKnown_14 : decode cX3_townsKnown 14 = .ok (.aload_n 0, 1) := by decide +kernel
theorem dX3_townsKnown_15 : decode cX3_townsKnown 15 = .ok (.getfield 18, 3) := by decide +kernel
theorem dX3_townsKnown_18 : decode cX3_townsKnown 18 = .ok (.iload 4, 2) := by decide +kernel
theorem dX3_townsKnown_20 : decode cX3_townsKnown 20 = .ok (.iaload, 1) := by decide +kernel
theorem dX3_townsKnown_21 : decode cX3_townsKnown 21 = .ok (.iload_n 1, 1) := by decide +kernel
theorem dX3_townsKnown_22 : decode cX3_townsKnown 22 = .ok (.if_icmp .ne 25, 3) := by decide +kernel
theorem dX3_townsKnown_25 : decode cX3_townsKnown 25 = .ok (.aload_n 0, 1) := by decide +kernel
theorem dX3_townsKnown_26 : decode cX3_townsKnown 26 = .ok (.iload 4, 2) := by decide +kernel
theorem dX3_townsKnown_28 : decode cX3_townsKnown 28 = .ok (.iload_n 2, 1) := by decide +kernel
theorem dX3_townsKnown_29 : decode cX3_townsKnown 29 = .ok (.invokevirtual 37, 3) := by decide +kernel
theorem dX3_townsKnown_32 : decode cX3_townsKnown 32 = .ok (.ifCond .eq 15, 3) := by decide +kernel
theorem dX3_townsKnown_35 : decode cX3_townsKnown 35 = .ok (.iload_n 3, 1) := by decide +kernel
theorem dX3_townsKnown_36 : decode cX3_townsKnown 36 = .ok (.iconst 1, 1) := by decide +kernel
theorem dX3_townsKnown_37 : decode cX3_townsKnown 37 = .ok (.aload_n 0, 1) := by decide +kernel
theorem dX3_townsKnown_38 : decode cX3_townsKnown 38 = .ok (.getfield 9, 3) := by decide +kernel
theorem dX3_townsKnown_41 : decode cX3_townsKnown 41 = .ok (.iload 4, 2) := by decide +kernel
theorem dX3_townsKnown_43 : decode cX3_townsKnown 43 = .ok (.iaload, 1) := by decide +kernel
theorem dX3_townsKnown_44 : decode cX3_townsKnown 44 = .ok (.ishl, 1) := by decide +kernel
theorem dX3_townsKnown_45 : decode cX3_townsKnown 45 = .ok (.ior, 1) := by decide +kernel
theorem dX3_townsKnown_46 : decode cX3_townsKnown 46 = .ok (.istore_n 3, 1) := by decide +kernel
theorem dX3_townsKnown_47 : decode cX3_townsKnown 47 = .ok (.iinc 4 1, 3) := by decide +kernel
theorem dX3_townsKnown_50 : decode cX3_townsKnown 50 = .ok (.goto (-45), 3) := by decide +kernel
theorem dX3_townsKnown_53 : decode cX3_townsKnown 53 = .ok (.iload_n 3, 1) := by decide +kernel
theorem dX3_townsKnown_54 : decode cX3_townsKnown 54 = .ok (.invokestatic 45, 3) := by decide +kernel
theorem dX3_townsKnown_57 : decode cX3_townsKnown 57 = .ok (.ireturn, 1) := by decide +kernel
theorem dX4_init_0 : decode cX4_init 0 = .ok (.aload_n 0, 1) := by decide +kernel
theorem dX4_init_1 : decode cX4_init 1 = .ok (.invokespecial 3, 3) := by decide +kernel
theorem dX4_init_4 : decode cX4_init 4 = .ok (.aload_n 0, 1) := by decide +kernel
theorem dX4_init_5 : decode cX4_init 5 = .ok (.bipush 8, 2) := by decide +kernel
theorem dX4_init_7 : decode cX4_init 7 = .ok (.newarray .int, 2) := by decide +kernel
theorem dX4_init_9 : decode cX4_init 9 = .ok (.putfield 9, 3) := by decide +kernel
theorem dX4_init_12 : decode cX4_init 12 = .ok (.aload_n 0, 1) := by decide +kernel
theorem dX4_init_13 : decode cX4_init 13 = .ok (.bipush 8, 2) := by decide +kernel
theorem dX4_init_15 : decode cX4_init 15 = .ok (.newarray .int, 2) := by decide +kernel
theorem dX4_init_17 : decode cX4_init 17 = .ok (.putfield 15, 3) := by decide +kernel
theorem dX4_init_20 : decode cX4_init 20 = .ok (.aload_n 0, 1) := by decide +kernel
theorem dX4_init_21 : decode cX4_init 21 = .ok (.bipush 8, 2) := by decide +kernel
theorem dX4_init_23 : decode cX4_init 23 = .ok (.newarray .int, 2) := by decide +kernel
theorem dX4_init_25 : decode cX4_init 25 = .ok (.putfield 18, 3) := by decide +kernel
theorem dX4_init_28 : decode cX4_init 28 = .ok (.aload_n 0, 1) := by decide +kernel
theorem dX4_init_29 : decode cX4_init 29 = .ok (.bipush 8, 2) := by decide +kernel
theorem dX4_init_31 : decode cX4_init 31 = .ok (.newarray .int, 2) := by decide +kernel
theorem dX4_init_33 : decode cX4_init 33 = .ok (.putfield 21, 3) := by decide +kernel
theorem dX4_init_36 : decode cX4_init 36 = .ok (.aload_n 0, 1) := by decide +kernel
theorem dX4_init_37 : decode cX4_init 37 = .ok (.bipush 8, 2) := by decide +kernel
theorem dX4_init_39 : decode cX4_init 39 = .ok (.bipush 8, 2) := by decide +kernel
theorem dX4_init_41 : decode cX4_init 41 = .ok (.multianewarray 24 2, 4) := by decide +kernel
theorem dX4_init_45 : decode cX4_init 45 = .ok (.putfield 26, 3) := by decide +kernel
theorem dX4_init_48 : decode cX4_init 48 = .ok (.aload_n 0, 1) := by decide +kernel
theorem dX4_init_49 : decode cX4_init 49 = .ok (.bipush 8, 2) := by decide +kernel
theorem dX4_init_51 : decode cX4_init 51 = .ok (.bipush 8, 2) := by decide +kernel
theorem dX4_init_53 : decode cX4_init 53 = .ok (.multianewarray 24 2, 4) := by decide +kernel
theorem dX4_init_57 : decode cX4_init 57 = .ok (.putfield 29, 3) := by decide +kernel
theorem dX4_init_60 : decode cX4_init 60 = .ok (.return_, 1) := by decide +kernel
theorem dX4_has_0 : decode cX4_has 0 = .ok (.iload_n 1, 1) := by decide +kernel
theorem dX4_has_1 : decode cX4_has 1 = .ok (.ifCond .lt 15, 3) := by decide +kernel
theorem dX4_has_4 : decode cX4_has 4 = .ok (.iload_n 1, 1) := by decide +kernel
theorem dX4_has_5 : decode cX4_has 5 = .ok (.aload_n 0, 1) := by decide +kernel
theorem dX4_has_6 : decode cX4_has 6 = .ok (.getfield 32, 3) := by decide +kernel
theorem dX4_has_9 : decode cX4_has 9 = .ok (.if_icmp .ge 7, 3) := by decide +kernel
theorem dX4_has_12 : decode cX4_has 12 = .ok (.iconst 1, 1) := by decide +kernel
theorem dX4_has_13 : decode cX4_has 13 = .ok (.goto 4, 3) := by decide +kernel
theorem dX4_has_16 : decode cX4_has 16 = .ok (.iconst 0, 1) := by decide +kernel
theorem dX4_has_17 : decode cX4_has 17 = .ok (.ireturn, 1) := by decide +kernel
set_option maxRecDepth 20000 in
theorem ggX4_isOf_X4_has : GoodIn wsX4_isOf wsX4_has := goodIn_r _ [6, 7, 8, 9, 10, 11, 12, 13, 14] (by decide +kernel) (by decide +kernel)
set_option maxRecDepth 20000 in
theorem gX4_isOf_X4_has : GoodIn wsX4_isOf (wsV RX4 36 RX4 yX4_has wsX4_has) := goodIn_app (goodIn_of _ (by decide +kernel)) ggX4_isOf_X4_has
theorem dX4_isOf_0 : decode cX4_isOf 0 = .ok (.aload_n 0, 1) := by decide +kernel
theorem dX4_isOf_1 : decode cX4_isOf 1 = .ok (.iload_n 1, 1) := by decide +kernel
theorem dX4_isOf_2 : decode cX4_isOf 2 = .ok (.invokevirtual 36, 3) := by decide +kernel
theorem dX4_isOf_5 : decode cX4_isOf 5 = .ok (.ifCond .eq 17, 3) := by decide +kernel
theorem dX4_isOf_8 : decode cX4_isOf 8 = .ok (.aload_n 0, 1) := by decide +kernel
theorem dX4_isOf_9 : decode cX4_isOf 9 = .ok (.getfield 9, 3) := by decide +kernel
theorem dX4_isOf_12 : decode cX4_isOf 12 = .ok (.iload_n 1, 1) := by decide +kernel
theorem dX4_isOf_13 : decode cX4_isOf 13 = .ok (.iaload, 1) := by decide +kernel
theorem dX4_isOf_14 : decode cX4_isOf 14 = .ok (.iload_n 2, 1) := by decide +kernel
theorem dX4_isOf_15 : decode cX4_isOf 15 = .ok (.if_icmp .ne 7, 3) := by decide +kernel
theorem dX4_isOf_18 : decode cX4_isOf 18 = .ok (.iconst 1, 1) := by decide +kernel
theorem dX4_isOf_19 : decode cX4_isOf 19 = .ok (.goto 4, 3) := by decide +kernel
theorem dX4_isOf_22 : decode cX4_isOf 22 = .ok (.iconst 0, 1) := by decide +kernel
theorem dX4_isOf_23 : decode cX4_isOf 23 = .ok (.ireturn, 1) := by decide +kernel
theorem dX4_add_0 : decode cX4_add 0 = .ok (.aload_n 0, 1) := by decide +kernel
theorem dX4_add_1 : decode cX4_add 1 = .ok (.getfield 32, 3) := by decide +kernel
theorem dX4_add_4 : decode cX4_add 4 = .ok (.istore 4, 2) := by decide +kernel
theorem dX4_add_6 : decode cX4_add 6 = .ok (.aload_n 0, 1) := by decide +kernel
theorem dX4_add_7 : decode cX4_add 7 = .ok (.getfield 9, 3) := by decide +kernel
theorem dX4_add_10 : decode cX4_add 10 = .ok (.iload 4, 2) := by decide +kernel
theorem dX4_add_12 : decode cX4_add 12 = .ok (.iload_n 1, 1) := by decide +kernel
theorem dX4_add_13 : decode cX4_add 13 = .ok (.iastore, 1) := by decide +kernel
theorem dX4_add_14 : decode cX4_add 14 = .ok (.aload_n 0, 1) := by decide +kernel
theorem dX4_add_15 : decode cX4_add 15 = .ok (.getfield 15, 3) := by decide +kernel
theorem dX4_add_18 : decode cX4_add 18 = .ok (.iload 4, 2) := by decide +kernel
theorem dX4_add_20 : decode cX4_add 20 = .ok (.iload_n 2, 1) := by decide +kernel
theorem dX4_add_21 : decode cX4_add 21 = .ok (.iastore, 1) := by decide +kernel
theorem dX4_add_22 : decode cX4_add 22 = .ok (.aload_n 0, 1) := by decide +kernel
theorem dX4_add_23 : decode cX4_add 23 = .ok (.getfield 18, 3) := by decide +kernel
theorem dX4_add_26 : decode cX4_add 26 = .ok (.iload 4, 2) := by decide +kernel
theorem dX4_add_28 : decode cX4_add 28 = .ok (.iload_n 3, 1) := by decide +kernel
theorem dX4_add_29 : decode cX4_add 29 = .ok (.iastore, 1) := by decide +kernel
theorem dX4_add_30 : decode cX4_add 30 = .ok (.aload_n 0, 1) := by decide +kernel
theorem dX4_add_31 : decode cX4_add 31 = .ok (.iload 4, 2) := by decide +kernel
theorem dX4_add_33 : decode cX4_add 33 = .ok (.iconst 1, 1) := by decide +kernel
theorem dX4_add_34 : decode cX4_add 34 = .ok (.iadd, 1) := by decide +kernel
theorem dX4_add_35 : decode cX4_add 35 = .ok (.putfield 32, 3) := by decide +kernel
theorem dX4_add_38 : decode cX4_add 38 = .ok (.iload 4, 2) := by decide +kernel
theorem dX4_add_40 : decode cX4_add 40 = .ok (.ireturn, 1) := by decide +kernel
theorem dX4_lastPrice_0 : decode cX4_lastPrice 0 = .ok (.aload_n 0, 1) := by decide +kernel
theorem dX4_lastPrice_1 : decode cX4_lastPrice 1 = .ok (.getfield 21, 3) := by decide +kernel
theorem dX4_lastPrice_4 : decode cX4_lastPrice 4 = .ok (.iload_n 1, 1) := by decide +kernel
theorem dX4_lastPrice_5 : decode cX4_lastPrice 5 = .ok (.iaload, 1) := by decide +kernel
theorem dX4_lastPrice_6 : decode cX4_lastPrice 6 = .ok (.ifCond .ne 7, 3) := by decide +kernel
theorem dX4_lastPrice_9 : decode cX4_lastPrice 9 = .ok (.iconst (-1), 1) := by decide +kernel
theorem dX4_lastPrice_10 : decode cX4_lastPrice 10 = .ok (.goto 18, 3) := by decide +kernel
theorem dX4_lastPrice_13 : decode cX4_lastPrice 13 = .ok (.aload_n 0, 1) := by decide +kernel
theorem dX4_lastPrice_14 : decode cX4_lastPrice 14 = .ok (.getfield 26, 3) := by decide +kernel
theorem dX4_lastPrice_17 : decode cX4_lastPrice 17 = .ok (.iload_n 1, 1) := by decide +kernel
theorem dX4_lastPrice_18 : decode cX4_lastPrice 18 = .ok (.aaload, 1) := by decide +kernel
theorem dX4_lastPrice_19 : decode cX4_lastPrice 19 = .ok (.aload_n 0, 1) := by decide +kernel
theorem dX4_lastPrice_20 : decode cX4_lastPrice 20 = .ok (.getfield 21, 3) := by decide +kernel
theorem dX4_lastPrice_23 : decode cX4_lastPrice 23 = .ok (.iload_n 1, 1) := by decide +kernel
theorem dX4_lastPrice_24 : decode cX4_lastPrice 24 = .ok (.iaload, 1) := by decide +kernel
theorem dX4_lastPrice_25 : decode cX4_lastPrice 25 = .ok (.iconst 1, 1) := by decide +kernel
theorem dX4_lastPrice_26 : decode cX4_lastPrice 26 = .ok (.isub, 1) := by decide +kernel
theorem dX4_lastPrice_27 : decode cX4_lastPrice 27 = .ok (.iaload, 1) := by decide +kernel
theorem dX4_lastPrice_28 : decode cX4_lastPrice 28 = .ok (.ireturn, 1) := by decide +kernel
theorem dX4_isSettled_0 : decode cX4_isSettled 0 = .ok (.aload_n 0, 1) := by decide +kernel
theorem dX4_isSettled_1 : decode cX4_isSettled 1 = .ok (.getfield 15, 3) := by decide +kernel
theorem dX4_isSettled_4 : decode cX4_isSettled 4 = .ok (.iload_n 1, 1) := by decide +kernel
theorem dX4_isSettled_5 : decode cX4_isSettled 5 = .ok (.iaload, 1) := by decide +kernel
theorem dX4_isSettled_6 : decode cX4_isSettled 6 = .ok (.iload_n 2, 1) := by decide +kernel
theorem dX4_isSettled_7 : decode cX4_isSettled 7 = .ok (.if_icmp .gt 17, 3) := by decide +kernel
theorem dX4_isSettled_10 : decode cX4_isSettled 10 = .ok (.aload_n 0, 1) := by decide +kernel
theorem dX4_isSettled_11 : decode cX4_isSettled 11 = .ok (.getfield 18, 3) := by decide +kernel
theorem dX4_isSettled_14 : decode cX4_isSettled 14 = .ok (.iload_n 1, 1) := by decide +kernel
theorem dX4_isSettled_15 : decode cX4_isSettled 15 = .ok (.iaload, 1) := by decide +kernel
theorem dX4_isSettled_16 : decode cX4_isSettled 16 = .ok (.iload_n 2, 1) := by decide +kernel
theorem dX4_isSettled_17 : decode cX4_isSettled 17 = .ok (.if_icmp .eq 7, 3) := by decide +kernel
theorem dX4_isSettled_20 : decode cX4_isSettled 20 = .ok (.iconst 1, 1) := by decide +kernel
theorem dX4_isSettled_21 : decode cX4_isSettled 21 = .ok (.goto 4, 3) := by decide +kernel
theorem dX4_isSettled_24 : decode cX4_isSettled 24 = .ok (.iconst 0, 1) := by decide +kernel
theorem dX4_isSettled_25 : decode cX4_isSettled 25 = .ok (.ireturn, 1) := by decide +kernel
theorem dX4_addStep_0 : decode cX4_addStep 0 = .ok (.aload_n 0, 1) := by decide +kernel
theorem dX4_addStep_1 : decode cX4_addStep 1 = .ok (.getfield 26, 3) := by decide +kernel
theorem dX4_addStep_4 : decode cX4_addStep 4 = .ok (.iload_n 1, 1) := by decide +kernel
theorem dX4_addStep_5 : decode cX4_addStep 5 = .ok (.aaload, 1) := by decide +kernel
theorem dX4_addStep_6 : decode cX4_addStep 6 = .ok (.aload_n 0, 1) := by decide +kernel
theorem dX4_addStep_7 : decode cX4_addStep 7 = .ok (.getfield 21, 3) := by decide +kernel
theorem dX4_addStep_10 : decode cX4_addStep 10 = .ok (.iload_n 1, 1) := by decide +kernel
theorem dX4_addStep_11 : decode cX4_addStep 11 = .ok (.iaload, 1) := by decide +kernel
theorem dX4_addStep_12 : decode cX4_addStep 12 = .ok (.iload_n 2, 1) := by decide +kernel
theorem dX4_addStep_13 : decode cX4_addStep 13 = .ok (.iastore, 1) := by decide +kernel
theorem dX4_addStep_14 : decode cX4_addStep 14 = .ok (.aload_n 0, 1) := by decide +kernel
theorem dX4_addStep_15 : decode cX4_addStep 15 = .ok (.getfield 29, 3) := by decide +kernel
theorem dX4_addStep_18 : decode cX4_addStep 18 = .ok (.iload_n 1, 1) := by decide +kernel
theorem dX4_addStep_19 : decode cX4_addStep 19 = .ok (.aaload, 1) := by decide +kernel
theorem dX4_addStep_20 : decode cX4_addStep 20 = .ok (.aload_n 0, 1) := by decide +kernel
theorem dX4_addStep_21 : decode cX4_addStep 21 = .ok (.getfield 21, 3) := by decide +kernel
theorem dX4_addStep_24 : decode cX4_addStep 24 = .ok (.iload_n 1, 1) := by decide +kernel
theorem dX4_addStep_25 : decode cX4_addStep 25 = .ok (.iaload, 1) := by decide +kernel
theorem dX4_addStep_26 : decode cX4_addStep 26 = .ok (.iload_n 3, 1) := by decide +kernel
theorem dX4_addStep_27 : decode cX4_addStep 27 = .ok (.iastore, 1) := by decide +kernel
theorem dX4_addStep_28 : decode cX4_addStep 28 = .ok (.aload_n 0, 1) := by decide +kernel
theorem dX4_addStep_29 : decode cX4_addStep 29 = .ok (.getfield 21, 3) := by decide +kernel
theorem dX4_addStep_32 : decode cX4_addStep 32 = .ok (.iload_n 1, 1) := by decide +kernel
theorem dX4_addStep_33 : decode cX4_addStep 33 = .ok (.dup2, 1) := by decide +kernel
theorem dX4_addStep_34 : decode cX4_addStep 34 = .ok (.iaload, 1) := by decide +kernel
theorem dX4_addStep_35 : decode cX4_addStep 35 = .ok (.iconst 1, 1) := by decide +kernel
theorem dX4_addStep_36 : decode cX4_addStep 36 = .ok (.iadd, 1) := by decide +kernel
theorem dX4_addStep_37 : decode cX4_addStep 37 = .ok (.iastore, 1) := by decide +kernel
theorem dX4_addStep_38 : decode cX4_addStep 38 = .ok (.aload_n 0, 1) := by decide +kernel
theorem dX4_addStep_39 : decode cX4_addStep 39 = .ok (.getfield 21, 3) := by decide +kernel
theorem dX4_addStep_42 : decode cX4_addStep 42 = .ok (.iload_n 1, 1) := by decide +kernel
theorem dX4_addStep_43 : decode cX4_addStep 43 = .ok (.iaload, 1) := by decide +kernel
theorem dX4_addStep_44 : decode cX4_addStep 44 = .ok (.ireturn, 1) := by decide +kernel
theorem dX4_inForce_0 : decode cX4_inForce 0 = .ok (.iconst (-1), 1) := by decide +kernel
theorem dX4_inForce_1 : decode cX4_inForce 1 = .ok (.istore_n 3, 1) := by decide +kernel
theorem dX4_inForce_2 : decode cX4_inForce 2 = .ok (.iconst 0, 1) := by decide +kernel
theorem dX4_inForce_3 : decode cX4_inForce 3 = .ok (.istore 4, 2) := by decide +kernel
theorem dX4_inForce_5 : decode cX4_inForce 5 = .ok (.iload 4, 2) := by decide +kernel
theorem dX4_inForce_7 : decode cX4_inForce 7 = .ok (.aload_n 0, 1) := by decide +kernel
theorem dX4_inForce_8 : decode cX4_inForce 8 = .ok (.getfield 32, 3) := by decide +kernel
theorem dX4_inForce_11 : decode cX4_inForce 11 = .ok (.if_icmp .ge 77, 3) := by decide +kernel
theorem dX4_inForce_14 : decode cX4_inForce 14 = .ok (.aload_n 0, 1) := by decide +kernel
theorem dX4_inForce_15 : decode cX4_inForce 15 = .ok (.getfield 9, 3) := by decide +kernel
theorem dX4_inForce_18 : decode cX4_inForce 18 = .ok (.iload 4, 2) := by decide +kernel
theorem dX4_inForce_20 : decode cX4_inForce 20 = .ok (.iaload, 1) := by decide +kernel
theorem dX4_inForce_21 : decode cX4_inForce 21 = .ok (.iload_n 1, 1) := by decide +kernel
theorem dX4_inForce_22 : decode cX4_inForce 22 = .ok (.if_icmp .ne 28, 3) := by decide +kernel
theorem dX4_inForce_25 : decode cX4_inForce 25 = .ok (.aload_n 0, 1) := by decide +kernel
theorem dX4_inForce_26 : decode cX4_inForce 26 = .ok (.getfield 21, 3) := by decide +kernel
theorem dX4_inForce_29 : decode cX4_inForce 29 = .ok (.iload 4, 2) := by decide +kernel
theorem dX4_inForce_31 : decode cX4_inForce 31 = .ok (.iaload, 1) := by decide +kernel
theorem dX4_inForce_32 : decode cX4_inForce 32 = .ok (.ifCond .le 18, 3) := by decide +kernel
theorem dX4_inForce_35 : decode cX4_inForce 35 = .ok (.aload_n 0, 1) := by decide +kernel
theorem dX4_inForce_36 : decode cX4_inForce 36 = .ok (.getfield 15, 3) := by decide +kernel
theorem dX4_inForce_39 : decode cX4_inForce 39 = .ok (.iload 4, 2) := by decide +kernel
theorem dX4_inForce_41 : decode cX4_inForce 41 = .ok (.iaload, 1) := by decide +kernel
theorem dX4_inForce_42 : decode cX4_inForce 42 = .ok (.iload_n 2, 1) := by decide +kernel
theorem dX4_inForce_43 : decode cX4_inForce 43 = .ok (.if_icmp .gt 7, 3) := by decide +kernel
theorem dX4_inForce_46 : decode cX4_inForce 46 = .ok (.iconst 1, 1) := by decide +kernel
theorem dX4_inForce_47 : decode cX4_inForce 47 = .ok (.goto 4, 3) := by decide +kernel
theorem dX4_inForce_50 : decode cX4_inForce 50 = .ok (.iconst 0, 1) := by decide +kernel
theorem dX4_inForce_51 : decode cX4_inForce 51 = .ok (.istore 5, 2) := by decide +kernel
theorem dX4_inForce_53 : decode cX4_inForce 53 = .ok (.iload 5, 2) := by decide +kernel
theorem dX4_inForce_55 : decode cX4_inForce 55 = .ok (.ifCond .eq 27, 3) := by decide +kernel
theorem dX4_inForce_58 : decode cX4_inForce 58 = .ok (.iload_n 3, 1) := by decide +kernel
theorem dX4_inForce_59 : decode cX4_inForce 59 = .ok (.iconst (-1), 1) := by decide +kernel
theorem dX4_inForce_60 : decode cX4_inForce 60 = .ok (.if_icmp .eq 19, 3) := by decide +kernel
theorem dX4_inForce_63 : decode cX4_inForce 63 = .ok (.aload_n 0, 1) := by decide +kernel
theorem dX4_inForce_64 : decode cX4_inForce 64 = .ok (.getfield 15, 3) := by decide +kernel
theorem dX4_inForce_67 : decode cX4_inForce 67 = .ok (.iload 4, 2) := by decide +kernel
theorem dX4_inForce_69 : decode cX4_inForce 69 = .ok (.iaload, 1) := by decide +kernel
theorem dX4_inForce_70 : decode cX4_inForce 70 = .ok (.aload_n 0, 1) := by decide +kernel
theorem dX4_inForce_71 : decode cX4_inForce 71 = .ok (.getfield 15, 3) := by decide +kernel
theorem dX4_inForce_74 : decode cX4_inForce 74 = .ok (.iload_n 3, 1) := by decide +kernel
theorem dX4_inForce_75 : decode cX4_inForce 75 = .ok (.iaload, 1) := by decide +kernel
theorem dX4_inForce_76 : decode cX4_inForce 76 = .ok (.if_icmp .lt 6, 3) := by decide +kernel
theorem dX4_inForce_79 : decode cX4_inForce 79 = .ok (.iload 4, 2) := by decide +kernel
theorem dX4_inForce_81 : decode cX4_inForce 81 = .ok (.istore_n 3, 1) := by decide +kernel
theorem dX4_inForce_82 : decode cX4_inForce 82 = .ok (.iinc 4 1, 3) := by decide +kernel
theorem dX4_inForce_85 : decode cX4_inForce 85 = .ok (.goto (-80), 3) := by decide +kernel
theorem dX4_inForce_88 : decode cX4_inForce 88 = .ok (.iload_n 3, 1) := by decide +kernel
theorem dX4_inForce_89 : decode cX4_inForce 89 = .ok (.ireturn, 1) := by decide +kernel
set_option maxRecDepth 20000 in
theorem ggX4_dutyBy_X4_has : GoodIn wsX4_dutyBy wsX4_has := goodIn_r _ [8, 9, 10, 11, 12, 13, 14, 15, 16] (by decide +kernel) (by decide +kernel)
set_option maxRecDepth 20000 in
theorem gX4_dutyBy_X4_has : GoodIn wsX4_dutyBy (wsV RX4 36 RX4 yX4_has wsX4_has) := goodIn_app (goodIn_of _ (by decide +kernel)) ggX4_dutyBy_X4_has
theorem dX4_dutyBy_0 : decode cX4_dutyBy 0 = .ok (.aload_n 0, 1) := by decide +kernel
theorem dX4_dutyBy_1 : decode cX4_dutyBy 1 = .ok (.iload_n 1, 1) := by decide +kernel
theorem dX4_dutyBy_2 : decode cX4_dutyBy 2 = .ok (.invokevirtual 36, 3) := by decide +kernel
theorem dX4_dutyBy_5 : decode cX4_dutyBy 5 = .ok (.ifCond .eq 12, 3) := by decide +kernel
theorem dX4_dutyBy_8 : decode cX4_dutyBy 8 = .ok (.aload_n 0, 1) := by decide +kernel
theorem dX4_dutyBy_9 : decode cX4_dutyBy 9 = .ok (.getfield 21, 3) := by decide +kernel
theorem dX4_dutyBy_12 : decode cX4_dutyBy 12 = .ok (.iload_n 1, 1) := by decide +kernel
theorem dX4_dutyBy_13 : decode cX4_dutyBy 13 = .ok (.iaload, 1) := by decide +kernel
theorem dX4_dutyBy_14 : decode cX4_dutyBy 14 = .ok (.ifCond .ne 5, 3) := by decide +kernel
theorem dX4_dutyBy_17 : decode cX4_dutyBy 17 = .ok (.iconst 0, 1) := by decide +kernel
theorem dX4_dutyBy_18 : decode cX4_dutyBy 18 = .ok (.ireturn, 1) := by decide +kernel
theorem dX4_dutyBy_19 : decode cX4_dutyBy 19 = .ok (.aload_n 0, 1) := by decide +kernel
theorem dX4_dutyBy_20 : decode cX4_dutyBy 20 = .ok (.getfield 29, 3) := by decide +kernel
theorem dX4_dutyBy_23 : decode cX4_dutyBy 23 = .ok (.iload_n 1, 1) := by decide +kernel
theorem dX4_dutyBy_24 : decode cX4_dutyBy 24 = .ok (.aaload, 1) := by decide +kernel
theorem dX4_dutyBy_25 : decode cX4_dutyBy 25 = .ok (.iconst 0, 1) := by decide +kernel
theorem dX4_dutyBy_26 : decode cX4_dutyBy 26 = .ok (.iaload, 1) := by decide +kernel
theorem dX4_dutyBy_27 : decode cX4_dutyBy 27 = .ok (.istore_n 3, 1) := by decide +kernel
theorem dX4_dutyBy_28 : decode cX4_dutyBy 28 = .ok (.iconst 1, 1) := by decide +kernel
theorem dX4_dutyBy_29 : decode cX4_dutyBy 29 = .ok (.istore 4, 2) := by decide +kernel
theorem dX4_dutyBy_31 : decode cX4_dutyBy 31 = .ok (.iload 4, 2) := by decide +kernel
theorem dX4_dutyBy_33 : decode cX4_dutyBy 33 = .ok (.aload_n 0, 1) := by decide +kernel
theorem dX4_dutyBy_34 : decode cX4_dutyBy 34 = .ok (.getfield 21, 3) := by decide +kernel
theorem dX4_dutyBy_37 : decode cX4_dutyBy 37 = .ok (.iload_n 1, 1) := by decide +kernel
theorem dX4_dutyBy_38 : decode cX4_dutyBy 38 = .ok (.iaload, 1) := by decide +kernel
theorem dX4_dutyBy_39 : decode cX4_dutyBy 39 = .ok (.if_icmp .ge 32, 3) := by decide +kernel
theorem dX4_dutyBy_42 : decode cX4_dutyBy 42 = .ok (.aload_n 0, 1) := by decide +kernel
theorem dX4_dutyBy_43 : decode cX4_dutyBy 43 = .ok (.getfield 26, 3) := by decide +kernel
theorem dX4_dutyBy_46 : decode cX4_dutyBy 46 = .ok (.iload_n 1, 1) := by decide +kernel
theorem dX4_dutyBy_47 : decode cX4_dutyBy 47 = .ok (.aaload, 1) := by decide +kernel
theorem dX4_dutyBy_48 : decode cX4_dutyBy 48 = .ok (.iload 4, 2) := by decide +kernel
theorem dX4_dutyBy_50 : decode cX4_dutyBy 50 = .ok (.iaload, 1) := by decide +kernel
theorem dX4_dutyBy_51 : decode cX4_dutyBy 51 = .ok (.iload_n 2, 1) := by decide +kernel
theorem dX4_dutyBy_52 : decode cX4_dutyBy 52 = .ok (.if_icmp .gt 13, 3) := by decide +kernel
theorem dX4_dutyBy_55 : decode cX4_dutyBy 55 = .ok (.aload_n 0, 1) := by decide +kernel
theorem dX4_dutyBy_56 : decode cX4_dutyBy 56 = .ok (.getfield 29, 3) := by decide +kernel
theorem dX4_dutyBy_59 : decode cX4_dutyBy 59 = .ok (.iload_n 1, 1) := by decide +kernel
theorem dX4_dutyBy_60 : decode cX4_dutyBy 60 = .ok (.aaload, 1) := by decide +kernel
theorem dX4_dutyBy_61 : decode cX4_dutyBy 61 = .ok (.iload 4, 2) := by decide +kernel
theorem dX4_dutyBy_63 : decode cX4_dutyBy 63 = .ok (.iaload, 1) := by decide +kernel
theorem dX4_dutyBy_64 : decode cX4_dutyBy 64 = .ok (.istore_n 3, 1) := by decide +kernel
theorem dX4_dutyBy_65 : decode cX4_dutyBy 65 = .ok (.iinc 4 1, 3) := by decide +kernel
theorem dX4_dutyBy_68 : decode cX4_dutyBy 68 = .ok (.goto (-37), 3) := by decide +kernel
theorem dX4_dutyBy_71 : decode cX4_dutyBy 71 = .ok (.iload_n 3, 1) := by decide +kernel
theorem dX4_dutyBy_72 : decode cX4_dutyBy 72 = .ok (.ireturn, 1) := by decide +kernel
set_option maxRecDepth 20000 in
theorem ggX5_init_X3_init : GoodIn wsX5_init wsX3_init := goodIn_r _ [25, 26, 2, 3, 27, 28, 29, 30, 31, 32, 33, 34, 66, 67, 68, 69, 70, 71, 72, 73] (by decide +kernel) (by decide +kernel)
set_option maxRecDepth 20000 in
theorem gX5_init_X3_init_n11 : GoodIn wsX5_init (wsX3_init) := ggX5_init_X3_init
set_option maxRecDepth 20000 in
theorem ggX5_init_X4_init : GoodIn wsX5_init wsX4_init := goodIn_r _ [36, 37, 2, 3, 27, 38, 39, 40, 41, 42, 43, 44, 82, 83, 84, 85, 86, 87, 88] (by decide +kernel) (by decide +kernel)
set_option maxRecDepth 20000 in
theorem gX5_init_X4_init_n18 : GoodIn wsX5_init (wsX4_init) := ggX5_init_X4_init
set_option maxRecDepth 20000 in
theorem ggX5_init_X1_init : GoodIn wsX5_init wsX1_init := goodIn_r _ [46, 47, 2, 3, 27, 48, 49, 50, 89, 90, 91] (by decide +kernel) (by decide +kernel)
set_option maxRecDepth 20000 in
theorem gX5_init_X1_init_n25 : GoodIn wsX5_init (wsX1_init) := ggX5_init_X1_init
set_option maxRecDepth 20000 in
theorem ggX5_init_X0_init : GoodIn wsX5_init wsX0_init := goodIn_r _ [52, 53, 2, 3, 27, 54, 55, 56, 57, 58, 59, 92, 93, 94, 95, 96, 97, 98] (by decide +kernel) (by decide +kernel)
set_option maxRecDepth 20000 in
theorem gX5_init_X0_init_n32 : GoodIn wsX5_init (wsX0_init) := ggX5_init_X0_init
set_option maxRecDepth 20000 in
theorem ggX5_init_X2_init : GoodIn wsX5_init wsX2_init := goodIn_r _ [61, 62, 2, 3, 27, 63, 64, 65, 99, 100, 101, 102] (by decide +kernel) (by decide +kernel)
set_option maxRecDepth 20000 in
theorem gX5_init_X2_init_n39 : GoodIn wsX5_init (wsX2_init) := ggX5_init_X2_init
theorem dX5_init_0 : decode cX5_init 0 = .ok (.aload_n 0, 1) := by decide +kernel
theorem dX5_init_1 : decode cX5_init 1 = .ok (.invokespecial 3, 3) := by decide +kernel
theorem dX5_init_4 : decode cX5_init 4 = .ok (.aload_n 0, 1) := by decide +kernel
theorem dX5_init_5 : decode cX5_init 5 = .ok (.new 9, 3) := by decide +kernel
theorem dX5_init_8 : decode cX5_init 8 = .ok (.dup, 1) := by decide +kernel
theorem dX5_init_9 : decode cX5_init 9 = .ok (.invokespecial 11, 3) := by decide +kernel
theorem dX5_init_12 : decode cX5_init 12 = .ok (.putfield 12, 3) := by decide +kernel
theorem dX5_init_15 : decode cX5_init 15 = .ok (.aload_n 0, 1) := by decide +kernel
theorem dX5_init_16 : decode cX5_init 16 = .ok (.new 16, 3) := by decide +kernel
theorem dX5_init_19 : decode cX5_init 19 = .ok (.dup, 1) := by decide +kernel
theorem dX5_init_20 : decode cX5_init 20 = .ok (.invokespecial 18, 3) := by decide +kernel
theorem dX5_init_23 : decode cX5_init 23 = .ok (.putfield 19, 3) := by decide +kernel
theorem dX5_init_26 : decode cX5_init 26 = .ok (.aload_n 0, 1) := by decide +kernel
theorem dX5_init_27 : decode cX5_init 27 = .ok (.new 23, 3) := by decide +kernel
theorem dX5_init_30 : decode cX5_init 30 = .ok (.dup, 1) := by decide +kernel
theorem dX5_init_31 : decode cX5_init 31 = .ok (.invokespecial 25, 3) := by decide +kernel
theorem dX5_init_34 : decode cX5_init 34 = .ok (.putfield 26, 3) := by decide +kernel
theorem dX5_init_37 : decode cX5_init 37 = .ok (.aload_n 0, 1) := by decide +kernel
theorem dX5_init_38 : decode cX5_init 38 = .ok (.new 30, 3) := by decide +kernel
theorem dX5_init_41 : decode cX5_init 41 = .ok (.dup, 1) := by decide +kernel
theorem dX5_init_42 : decode cX5_init 42 = .ok (.invokespecial 32, 3) := by decide +kernel
theorem dX5_init_45 : decode cX5_init 45 = .ok (.putfield 33, 3) := by decide +kernel
theorem dX5_init_48 : decode cX5_init 48 = .ok (.aload_n 0, 1) := by decide +kernel
theorem dX5_init_49 : decode cX5_init 49 = .ok (.new 37, 3) := by decide +kernel
theorem dX5_init_52 : decode cX5_init 52 = .ok (.dup, 1) := by decide +kernel
theorem dX5_init_53 : decode cX5_init 53 = .ok (.invokespecial 39, 3) := by decide +kernel
theorem dX5_init_56 : decode cX5_init 56 = .ok (.putfield 40, 3) := by decide +kernel
theorem dX5_init_59 : decode cX5_init 59 = .ok (.return_, 1) := by decide +kernel
set_option maxRecDepth 20000 in
theorem ggX5_weeks_X5_isOutside : GoodIn wsX5_weeks wsX5_isOutside := goodIn_r _ [7] (by decide +kernel) (by decide +kernel)
set_option maxRecDepth 20000 in
theorem gX5_weeks_X5_isOutside : GoodIn wsX5_weeks (va_wsS RX5 44 yX5_isOutside wsX5_isOutside) := goodIn_app (goodIn_of _ (by decide +kernel)) ggX5_weeks_X5_isOutside
set_option maxRecDepth 20000 in
theorem ggX5_weeks_X0_spoilAll : GoodIn wsX5_weeks wsX0_spoilAll := goodIn_r _ [12, 13, 14, 15, 16, 17, 11, 18, 27, 28, 29, 30, 31, 32, 33] (by decide +kernel) (by decide +kernel)
set_option maxRecDepth 20000 in
theorem gX5_weeks_X0_spoilAll : GoodIn wsX5_weeks (wsV RX5 55 RX0 yX0_spoilAll wsX0_spoilAll) := goodIn_app (goodIn_of _ (by decide +kernel)) ggX5_weeks_X0_spoilAll
theorem dX5_weeks_0 : decode cX5_weeks 0 = .ok (.iload_n 1, 1) := by decide +kernel
theorem dX5_weeks_1 : decode cX5_weeks 1 = .ok (.iconst 1, 1) := by decide +kernel
theorem dX5_weeks_2 : decode cX5_weeks 2 = .ok (.bipush 20, 2) := by decide +kernel
theorem dX5_weeks_4 : decode cX5_weeks 4 = .ok (.invokestatic 44, 3) := by decide +kernel
theorem dX5_weeks_7 : decode cX5_weeks 7 = .ok (.ifCond .ne 15, 3) := by decide +kernel
theorem dX5_weeks_10 : decode cX5_weeks 10 = .ok (.aload_n 0, 1) := by decide +kernel
theorem dX5_weeks_11 : decode cX5_weeks 11 = .ok (.getfield 48, 3) := by decide +kernel
theorem dX5_weeks_14 : decode cX5_weeks 14 = .ok (.iload_n 1, 1) := by decide +kernel
theorem dX5_weeks_15 : decode cX5_weeks 15 = .ok (.iadd, 1) := by decide +kernel
theorem dX5_weeks_16 : decode cX5_weeks 16 = .ok (.sipush 200, 3) := by decide +kernel
theorem dX5_weeks_19 : decode cX5_weeks 19 = .ok (.if_icmp .le 6, 3) := by decide +kernel
theorem dX5_weeks_22 : decode cX5_weeks 22 = .ok (.bipush (-2), 2) := by decide +kernel
theorem dX5_weeks_24 : decode cX5_weeks 24 = .ok (.ireturn, 1) := by decide +kernel
theorem dX5_weeks_25 : decode cX5_weeks 25 = .ok (.iconst 0, 1) := by decide +kernel
theorem dX5_weeks_26 : decode cX5_weeks 26 = .ok (.istore_n 2, 1) := by decide +kernel
theorem dX5_weeks_27 : decode cX5_weeks 27 = .ok (.iload_n 2, 1) := by decide +kernel
theorem dX5_weeks_28 : decode cX5_weeks 28 = .ok (.iload_n 1, 1) := by decide +kernel
theorem dX5_weeks_29 : decode cX5_weeks 29 = .ok (.if_icmp .ge 30, 3) := by decide +kernel
theorem dX5_weeks_32 : decode cX5_weeks 32 = .ok (.aload_n 0, 1) := by decide +kernel
theorem dX5_weeks_33 : decode cX5_weeks 33 = .ok (.dup, 1) := by decide +kernel
theorem dX5_weeks_34 : decode cX5_weeks 34 = .ok (.getfield 48, 3) := by decide +kernel
theorem dX5_weeks_37 : decode cX5_weeks 37 = .ok (.iconst 1, 1) := by decide +kernel
theorem dX5_weeks_38 : decode cX5_weeks 38 = .ok (.iadd, 1) := by decide +kernel
theorem dX5_weeks_39 : decode cX5_weeks 39 = .ok (.putfield 48, 3) := by decide +kernel
theorem dX5_weeks_42 : decode cX5_weeks 42 = .ok (.aload_n 0, 1) := by decide +kernel
theorem dX5_weeks_43 : decode cX5_weeks 43 = .ok (.getfield 33, 3) := by decide +kernel
theorem dX5_weeks_46 : decode cX5_weeks 46 = .ok (.aload_n 0, 1) := by decide +kernel
theorem dX5_weeks_47 : decode cX5_weeks 47 = .ok (.getfield 52, 3) := by decide +kernel
theorem dX5_weeks_50 : decode cX5_weeks 50 = .ok (.invokevirtual 55, 3) := by decide +kernel
theorem dX5_weeks_53 : decode cX5_weeks 53 = .ok (.iinc 2 1, 3) := by decide +kernel
theorem dX5_weeks_56 : decode cX5_weeks 56 = .ok (.goto (-29), 3) := by decide +kernel
theorem dX5_weeks_59 : decode cX5_weeks 59 = .ok (.aload_n 0, 1) := by decide +kernel
theorem dX5_weeks_60 : decode cX5_weeks 60 = .ok (.getfield 48, 3) := by decide +kernel
theorem dX5_weeks_63 : decode cX5_weeks 63 = .ok (.ireturn, 1) := by decide +kernel
set_option maxRecDepth 20000 in
theorem ggX5_sale_X5_isOutside : GoodIn wsX5_sale wsX5_isOutside := goodIn_r _ [7] (by decide +kernel) (by decide +kernel)
set_option maxRecDepth 20000 in
theorem gX5_sale_X5_isOutside : GoodIn wsX5_sale (va_wsS RX5 44 yX5_isOutside wsX5_isOutside) := goodIn_app (goodIn_of _ (by decide +kernel)) ggX5_sale_X5_isOutside
set_option maxRecDepth 20000 in
theorem ggX5_sale_X5_isNoGrain : GoodIn wsX5_sale wsX5_isNoGrain := goodIn_r _ [10, 4, 5, 6, 7] (by decide +kernel) (by decide +kernel)
set_option maxRecDepth 20000 in
theorem gX5_sale_X5_isNoGrain : GoodIn wsX5_sale (va_wsS RX5 59 yX5_isNoGrain wsX5_isNoGrain) := goodIn_app (goodIn_of _ (by decide +kernel)) ggX5_sale_X5_isNoGrain
set_option maxRecDepth 20000 in
theorem ggX5_sale_X3_add : GoodIn wsX5_sale wsX3_add := goodIn_r _ [15, 16, 17, 18, 19, 20, 21, 22, 23, 32, 33, 34, 35, 36, 37, 38, 39] (by decide +kernel) (by decide +kernel)
set_option maxRecDepth 20000 in
theorem gX5_sale_X3_add : GoodIn wsX5_sale (wsV RX5 66 RX3 yX3_add wsX3_add) := goodIn_app (goodIn_of _ (by decide +kernel)) ggX5_sale_X3_add
theorem dX5_sale_0 : decode cX5_sale 0 = .ok (.iload_n 1, 1) := by decide +kernel
theorem dX5_sale_1 : decode cX5_sale 1 = .ok (.iconst 0, 1) := by decide +kernel
theorem dX5_sale_2 : decode cX5_sale 2 = .ok (.bipush 9, 2) := by decide +kernel
theorem dX5_sale_4 : decode cX5_sale 4 = .ok (.invokestatic 44, 3) := by decide +kernel
theorem dX5_sale_7 : decode cX5_sale 7 = .ok (.ifCond .ne 46, 3) := by decide +kernel
theorem dX5_sale_10 : decode cX5_sale 10 = .ok (.iload_n 2, 1) := by decide +kernel
theorem dX5_sale_11 : decode cX5_sale 11 = .ok (.invokestatic 59, 3) := by decide +kernel
theorem dX5_sale_14 : decode cX5_sale 14 = .ok (.ifCond .ne 39, 3) := by decide +kernel
theorem dX5_sale_17 : decode cX5_sale 17 = .ok (.iload_n 3, 1) := by decide +kernel
theorem dX5_sale_18 : decode cX5_sale 18 = .ok (.iconst 0, 1) := by decide +kernel
theorem dX5_sale_19 : decode cX5_sale 19 = .ok (.aload_n 0, 1) := by decide +kernel
theorem dX5_sale_20 : decode cX5_sale 20 = .ok (.getfield 48, 3) := by decide +kernel
theorem dX5_sale_23 : decode cX5_sale 23 = .ok (.invokestatic 44, 3) := by decide +kernel
theorem dX5_sale_26 : decode cX5_sale 26 = .ok (.ifCond .ne 27, 3) := by decide +kernel
theorem dX5_sale_29 : decode cX5_sale 29 = .ok (.iload 4, 2) := by decide +kernel
theorem dX5_sale_31 : decode cX5_sale 31 = .ok (.iconst 1, 1) := by decide +kernel
theorem dX5_sale_32 : decode cX5_sale 32 = .ok (.sipush 1000, 3) := by decide +kernel
theorem dX5_sale_35 : decode cX5_sale 35 = .ok (.invokestatic 44, 3) := by decide +kernel
theorem dX5_sale_38 : decode cX5_sale 38 = .ok (.ifCond .ne 15, 3) := by decide +kernel
theorem dX5_sale_41 : decode cX5_sale 41 = .ok (.iload 5, 2) := by decide +kernel
theorem dX5_sale_43 : decode cX5_sale 43 = .ok (.iconst 1, 1) := by decide +kernel
theorem dX5_sale_44 : decode cX5_sale 44 = .ok (.sipush 2000, 3) := by decide +kernel
theorem dX5_sale_47 : decode cX5_sale 47 = .ok (.invokestatic 44, 3) := by decide +kernel
theorem dX5_sale_50 : decode cX5_sale 50 = .ok (.ifCond .eq 6, 3) := by decide +kernel
theorem dX5_sale_53 : decode cX5_sale 53 = .ok (.bipush (-2), 2) := by decide +kernel
theorem dX5_sale_55 : decode cX5_sale 55 = .ok (.ireturn, 1) := by decide +kernel
theorem dX5_sale_56 : decode cX5_sale 56 = .ok (.aload_n 0, 1) := by decide +kernel
theorem dX5_sale_57 : decode cX5_sale 57 = .ok (.getfield 12, 3) := by decide +kernel
theorem dX5_sale_60 : decode cX5_sale 60 = .ok (.getfield 63, 3) := by decide +kernel
theorem dX5_sale_63 : decode cX5_sale 63 = .ok (.bipush 60, 2) := by decide +kernel
theorem dX5_sale_65 : decode cX5_sale 65 = .ok (.if_icmp .lt 6, 3) := by decide +kernel
theorem dX5_sale_68 : decode cX5_sale 68 = .ok (.bipush (-4), 2) := by decide +kernel
theorem dX5_sale_70 : decode cX5_sale 70 = .ok (.ireturn, 1) := by decide +kernel
theorem dX5_sale_71 : decode cX5_sale 71 = .ok (.aload_n 0, 1) := by decide +kernel
end
section
theorem dX5_sale_72 : decode cX5_sale 72 = .ok (.getfield 12, 3) := by decide +kernel
theorem dX5_sale_75 : decode cX5_sale 75 = .ok (.iload_n 1, 1) := by decide +kernel
theorem dX5_sale_76 : decode cX5_sale 76 = .ok (.iload_n 2, 1) := by decide +kernel
theorem dX5_sale_77 : decode cX5_sale 77 = .ok (.iload_n 3, 1) := by decide +kernel
theorem dX5_sale_78 : decode cX5_sale 78 = .ok (.iload 4, 2) := by decide +kernel
theorem dX5_sale_80 : decode cX5_sale 80 = .ok (.iload 5, 2) := by decide +kernel
theorem dX5_sale_82 : decode cX5_sale 82 = .ok (.aload_n 0, 1) := by decide +kernel
theorem dX5_sale_83 : decode cX5_sale 83 = .ok (.getfield 48, 3) := by decide +kernel
theorem dX5_sale_86 : decode cX5_sale 86 = .ok (.invokevirtual 66, 3) := by decide +kernel
theorem dX5_sale_89 : decode cX5_sale 89 = .ok (.ireturn, 1) := by decide +kernel
set_option maxRecDepth 20000 in
theorem ggX5_strike_X3_has : GoodIn wsX5_strike wsX3_has := goodIn_r _ [8, 9, 18, 19, 20, 21, 22, 23, 24, 25] (by decide +kernel) (by decide +kernel)
set_option maxRecDepth 20000 in
theorem gX5_strike_X3_has : GoodIn wsX5_strike (wsV RX5 70 RX3 yX3_has wsX3_has) := goodIn_app (goodIn_of _ (by decide +kernel)) ggX5_strike_X3_has
theorem dX5_strike_0 : decode cX5_strike 0 = .ok (.aload_n 0, 1) := by decide +kernel
theorem dX5_strike_1 : decode cX5_strike 1 = .ok (.getfield 12, 3) := by decide +kernel
theorem dX5_strike_4 : decode cX5_strike 4 = .ok (.iload_n 1, 1) := by decide +kernel
theorem dX5_strike_5 : decode cX5_strike 5 = .ok (.invokevirtual 70, 3) := by decide +kernel
theorem dX5_strike_8 : decode cX5_strike 8 = .ok (.ifCond .ne 6, 3) := by decide +kernel
theorem dX5_strike_11 : decode cX5_strike 11 = .ok (.bipush (-2), 2) := by decide +kernel
theorem dX5_strike_13 : decode cX5_strike 13 = .ok (.ireturn, 1) := by decide +kernel
theorem dX5_strike_14 : decode cX5_strike 14 = .ok (.aload_n 0, 1) := by decide +kernel
theorem dX5_strike_15 : decode cX5_strike 15 = .ok (.getfield 12, 3) := by decide +kernel
theorem dX5_strike_18 : decode cX5_strike 18 = .ok (.getfield 73, 3) := by decide +kernel
theorem dX5_strike_21 : decode cX5_strike 21 = .ok (.iload_n 1, 1) := by decide +kernel
theorem dX5_strike_22 : decode cX5_strike 22 = .ok (.iaload, 1) := by decide +kernel
theorem dX5_strike_23 : decode cX5_strike 23 = .ok (.iconst (-1), 1) := by decide +kernel
theorem dX5_strike_24 : decode cX5_strike 24 = .ok (.if_icmp .eq 6, 3) := by decide +kernel
theorem dX5_strike_27 : decode cX5_strike 27 = .ok (.bipush (-3), 2) := by decide +kernel
theorem dX5_strike_29 : decode cX5_strike 29 = .ok (.ireturn, 1) := by decide +kernel
theorem dX5_strike_30 : decode cX5_strike 30 = .ok (.aload_n 0, 1) := by decide +kernel
theorem dX5_strike_31 : decode cX5_strike 31 = .ok (.getfield 12, 3) := by decide +kernel
theorem dX5_strike_34 : decode cX5_strike 34 = .ok (.getfield 73, 3) := by decide +kernel
theorem dX5_strike_37 : decode cX5_strike 37 = .ok (.iload_n 1, 1) := by decide +kernel
theorem dX5_strike_38 : decode cX5_strike 38 = .ok (.aload_n 0, 1) := by decide +kernel
theorem dX5_strike_39 : decode cX5_strike 39 = .ok (.getfield 48, 3) := by decide +kernel
theorem dX5_strike_42 : decode cX5_strike 42 = .ok (.iastore, 1) := by decide +kernel
theorem dX5_strike_43 : decode cX5_strike 43 = .ok (.iconst 1, 1) := by decide +kernel
theorem dX5_strike_44 : decode cX5_strike 44 = .ok (.ireturn, 1) := by decide +kernel
set_option maxRecDepth 20000 in
theorem ggX5_sold_X3_has : GoodIn wsX5_sold wsX3_has := goodIn_r _ [13, 14, 23, 24, 25, 26, 27, 28, 29, 30] (by decide +kernel) (by decide +kernel)
set_option maxRecDepth 20000 in
theorem gX5_sold_X3_has : GoodIn wsX5_sold (wsV RX5 70 RX3 yX3_has wsX3_has) := goodIn_app (goodIn_of _ (by decide +kernel)) ggX5_sold_X3_has
theorem dX5_sold_0 : decode cX5_sold 0 = .ok (.aload_n 0, 1) := by decide +kernel
theorem dX5_sold_1 : decode cX5_sold 1 = .ok (.getfield 12, 3) := by decide +kernel
theorem dX5_sold_4 : decode cX5_sold 4 = .ok (.iload_n 1, 1) := by decide +kernel
theorem dX5_sold_5 : decode cX5_sold 5 = .ok (.invokevirtual 70, 3) := by decide +kernel
theorem dX5_sold_8 : decode cX5_sold 8 = .ok (.ifCond .ne 6, 3) := by decide +kernel
theorem dX5_sold_11 : decode cX5_sold 11 = .ok (.bipush (-2), 2) := by decide +kernel
theorem dX5_sold_13 : decode cX5_sold 13 = .ok (.ireturn, 1) := by decide +kernel
theorem dX5_sold_14 : decode cX5_sold 14 = .ok (.iload_n 2, 1) := by decide +kernel
theorem dX5_sold_15 : decode cX5_sold 15 = .ok (.tableswitch 111 0 6 #[41, 51, 61, 71, 81, 91, 101], 41) := by decide +kernel
theorem dX5_sold_56 : decode cX5_sold 56 = .ok (.aload_n 0, 1) := by decide +kernel
theorem dX5_sold_57 : decode cX5_sold 57 = .ok (.getfield 12, 3) := by decide +kernel
theorem dX5_sold_60 : decode cX5_sold 60 = .ok (.getfield 77, 3) := by decide +kernel
theorem dX5_sold_63 : decode cX5_sold 63 = .ok (.iload_n 1, 1) := by decide +kernel
theorem dX5_sold_64 : decode cX5_sold 64 = .ok (.iaload, 1) := by decide +kernel
theorem dX5_sold_65 : decode cX5_sold 65 = .ok (.ireturn, 1) := by decide +kernel
theorem dX5_sold_66 : decode cX5_sold 66 = .ok (.aload_n 0, 1) := by decide +kernel
theorem dX5_sold_67 : decode cX5_sold 67 = .ok (.getfield 12, 3) := by decide +kernel
theorem dX5_sold_70 : decode cX5_sold 70 = .ok (.getfield 80, 3) := by decide +kernel
theorem dX5_sold_73 : decode cX5_sold 73 = .ok (.iload_n 1, 1) := by decide +kernel
theorem dX5_sold_74 : decode cX5_sold 74 = .ok (.iaload, 1) := by decide +kernel
theorem dX5_sold_75 : decode cX5_sold 75 = .ok (.ireturn, 1) := by decide +kernel
theorem dX5_sold_76 : decode cX5_sold 76 = .ok (.aload_n 0, 1) := by decide +kernel
theorem dX5_sold_77 : decode cX5_sold 77 = .ok (.getfield 12, 3) := by decide +kernel
theorem dX5_sold_80 : decode cX5_sold 80 = .ok (.getfield 83, 3) := by decide +kernel
theorem dX5_sold_83 : decode cX5_sold 83 = .ok (.iload_n 1, 1) := by decide +kernel
theorem dX5_sold_84 : decode cX5_sold 84 = .ok (.iaload, 1) := by decide +kernel
theorem dX5_sold_85 : decode cX5_sold 85 = .ok (.ireturn, 1) := by decide +kernel
theorem dX5_sold_86 : decode cX5_sold 86 = .ok (.aload_n 0, 1) := by decide +kernel
theorem dX5_sold_87 : decode cX5_sold 87 = .ok (.getfield 12, 3) := by decide +kernel
theorem dX5_sold_90 : decode cX5_sold 90 = .ok (.getfield 86, 3) := by decide +kernel
theorem dX5_sold_93 : decode cX5_sold 93 = .ok (.iload_n 1, 1) := by decide +kernel
theorem dX5_sold_94 : decode cX5_sold 94 = .ok (.iaload, 1) := by decide +kernel
theorem dX5_sold_95 : decode cX5_sold 95 = .ok (.ireturn, 1) := by decide +kernel
theorem dX5_sold_96 : decode cX5_sold 96 = .ok (.aload_n 0, 1) := by decide +kernel
theorem dX5_sold_97 : decode cX5_sold 97 = .ok (.getfield 12, 3) := by decide +kernel
theorem dX5_sold_100 : decode cX5_sold 100 = .ok (.getfield 89, 3) := by decide +kernel
theorem dX5_sold_103 : decode cX5_sold 103 = .ok (.iload_n 1, 1) := by decide +kernel
theorem dX5_sold_104 : decode cX5_sold 104 = .ok (.iaload, 1) := by decide +kernel
theorem dX5_sold_105 : decode cX5_sold 105 = .ok (.ireturn, 1) := by decide +kernel
theorem dX5_sold_106 : decode cX5_sold 106 = .ok (.aload_n 0, 1) := by decide +kernel
theorem dX5_sold_107 : decode cX5_sold 107 = .ok (.getfield 12, 3) := by decide +kernel
theorem dX5_sold_110 : decode cX5_sold 110 = .ok (.getfield 92, 3) := by decide +kernel
theorem dX5_sold_113 : decode cX5_sold 113 = .ok (.iload_n 1, 1) := by decide +kernel
theorem dX5_sold_114 : decode cX5_sold 114 = .ok (.iaload, 1) := by decide +kernel
theorem dX5_sold_115 : decode cX5_sold 115 = .ok (.ireturn, 1) := by decide +kernel
theorem dX5_sold_116 : decode cX5_sold 116 = .ok (.aload_n 0, 1) := by decide +kernel
theorem dX5_sold_117 : decode cX5_sold 117 = .ok (.getfield 12, 3) := by decide +kernel
theorem dX5_sold_120 : decode cX5_sold 120 = .ok (.getfield 73, 3) := by decide +kernel
theorem dX5_sold_123 : decode cX5_sold 123 = .ok (.iload_n 1, 1) := by decide +kernel
theorem dX5_sold_124 : decode cX5_sold 124 = .ok (.iaload, 1) := by decide +kernel
theorem dX5_sold_125 : decode cX5_sold 125 = .ok (.ireturn, 1) := by decide +kernel
theorem dX5_sold_126 : decode cX5_sold 126 = .ok (.bipush (-2), 2) := by decide +kernel
theorem dX5_sold_128 : decode cX5_sold 128 = .ok (.ireturn, 1) := by decide +kernel
set_option maxRecDepth 20000 in
theorem ggX5_weekly_X5_isNoGrain : GoodIn wsX5_weekly wsX5_isNoGrain := goodIn_r _ [5, 6, 7, 4, 8] (by decide +kernel) (by decide +kernel)
set_option maxRecDepth 20000 in
theorem gX5_weekly_X5_isNoGrain : GoodIn wsX5_weekly (va_wsS RX5 59 yX5_isNoGrain wsX5_isNoGrain) := goodIn_app (goodIn_of _ (by decide +kernel)) ggX5_weekly_X5_isNoGrain
set_option maxRecDepth 20000 in
theorem ggX5_weekly_X5_isOutside : GoodIn wsX5_weekly wsX5_isOutside := goodIn_r _ [8] (by decide +kernel) (by decide +kernel)
set_option maxRecDepth 20000 in
theorem gX5_weekly_X5_isOutside : GoodIn wsX5_weekly (va_wsS RX5 44 yX5_isOutside wsX5_isOutside) := goodIn_app (goodIn_of _ (by decide +kernel)) ggX5_weekly_X5_isOutside
set_option maxRecDepth 20000 in
theorem ggX5_weekly_X3_weeklyKnown : GoodIn wsX5_weekly wsX3_weeklyKnown := goodIn_r _ [13, 14, 15, 16, 17, 18, 19, 20, 21, 12, 22, 23, 24, 33, 34, 35, 36, 37, 38, 39, 40] (by decide +kernel) (by decide +kernel)
set_option maxRecDepth 20000 in
theorem gX5_weekly_X3_weeklyKnown : GoodIn wsX5_weekly (wsV RX5 95 RX3 yX3_weeklyKnown wsX3_weeklyKnown) := goodIn_app (goodIn_of _ (by decide +kernel)) ggX5_weekly_X3_weeklyKnown
theorem dX5_weekly_0 : decode cX5_weekly 0 = .ok (.iload_n 1, 1) := by decide +kernel
theorem dX5_weekly_1 : decode cX5_weekly 1 = .ok (.invokestatic 59, 3) := by decide +kernel
theorem dX5_weekly_4 : decode cX5_weekly 4 = .ok (.ifCond .ne 25, 3) := by decide +kernel
theorem dX5_weekly_7 : decode cX5_weekly 7 = .ok (.iload_n 2, 1) := by decide +kernel
theorem dX5_weekly_8 : decode cX5_weekly 8 = .ok (.iconst 0, 1) := by decide +kernel
theorem dX5_weekly_9 : decode cX5_weekly 9 = .ok (.sipush 200, 3) := by decide +kernel
theorem dX5_weekly_12 : decode cX5_weekly 12 = .ok (.invokestatic 44, 3) := by decide +kernel
theorem dX5_weekly_15 : decode cX5_weekly 15 = .ok (.ifCond .ne 14, 3) := by decide +kernel
theorem dX5_weekly_18 : decode cX5_weekly 18 = .ok (.iload_n 3, 1) := by decide +kernel
theorem dX5_weekly_19 : decode cX5_weekly 19 = .ok (.iconst 0, 1) := by decide +kernel
theorem dX5_weekly_20 : decode cX5_weekly 20 = .ok (.sipush 200, 3) := by decide +kernel
theorem dX5_weekly_23 : decode cX5_weekly 23 = .ok (.invokestatic 44, 3) := by decide +kernel
theorem dX5_weekly_26 : decode cX5_weekly 26 = .ok (.ifCond .eq 6, 3) := by decide +kernel
theorem dX5_weekly_29 : decode cX5_weekly 29 = .ok (.bipush (-2), 2) := by decide +kernel
theorem dX5_weekly_31 : decode cX5_weekly 31 = .ok (.ireturn, 1) := by decide +kernel
theorem dX5_weekly_32 : decode cX5_weekly 32 = .ok (.aload_n 0, 1) := by decide +kernel
theorem dX5_weekly_33 : decode cX5_weekly 33 = .ok (.getfield 12, 3) := by decide +kernel
theorem dX5_weekly_36 : decode cX5_weekly 36 = .ok (.iload_n 1, 1) := by decide +kernel
theorem dX5_weekly_37 : decode cX5_weekly 37 = .ok (.iload_n 2, 1) := by decide +kernel
theorem dX5_weekly_38 : decode cX5_weekly 38 = .ok (.iload_n 3, 1) := by decide +kernel
theorem dX5_weekly_39 : decode cX5_weekly 39 = .ok (.iconst (-1), 1) := by decide +kernel
theorem dX5_weekly_40 : decode cX5_weekly 40 = .ok (.invokevirtual 95, 3) := by decide +kernel
theorem dX5_weekly_43 : decode cX5_weekly 43 = .ok (.ireturn, 1) := by decide +kernel
set_option maxRecDepth 20000 in
theorem ggX5_average_X5_isNoGrain : GoodIn wsX5_average wsX5_isNoGrain := goodIn_r _ [5, 6, 7, 4, 8] (by decide +kernel) (by decide +kernel)
set_option maxRecDepth 20000 in
theorem gX5_average_X5_isNoGrain : GoodIn wsX5_average (va_wsS RX5 59 yX5_isNoGrain wsX5_isNoGrain) := goodIn_app (goodIn_of _ (by decide +kernel)) ggX5_average_X5_isNoGrain
set_option maxRecDepth 20000 in
theorem ggX5_average_X5_isOutside : GoodIn wsX5_average wsX5_isOutside := goodIn_r _ [8] (by decide +kernel) (by decide +kernel)
set_option maxRecDepth 20000 in
theorem gX5_average_X5_isOutside : GoodIn wsX5_average (va_wsS RX5 44 yX5_isOutside wsX5_isOutside) := goodIn_app (goodIn_of _ (by decide +kernel)) ggX5_average_X5_isOutside
set_option maxRecDepth 20000 in
theorem ggX5_average_X3_averageKnown : GoodIn wsX5_average wsX3_averageKnown := goodIn_r _ [13, 14, 15, 16, 12, 17, 18, 19, 20, 21, 22, 23, 24, 25, 26, 27, 28, 37, 38, 39, 40, 41, 42, 43, 44] (by decide +kernel) (by decide +kernel)
set_option maxRecDepth 20000 in
theorem gX5_average_X3_averageKnown : GoodIn wsX5_average (wsV RX5 99 RX3 yX3_averageKnown wsX3_averageKnown) := goodIn_app (goodIn_of _ (by decide +kernel)) ggX5_average_X3_averageKnown
theorem dX5_average_0 : decode cX5_average 0 = .ok (.iload_n 1, 1) := by decide +kernel
theorem dX5_average_1 : decode cX5_average 1 = .ok (.invokestatic 59, 3) := by decide +kernel
theorem dX5_average_4 : decode cX5_average 4 = .ok (.ifCond .ne 14, 3) := by decide +kernel
theorem dX5_average_7 : decode cX5_average 7 = .ok (.iload_n 2, 1) := by decide +kernel
theorem dX5_average_8 : decode cX5_average 8 = .ok (.iconst 0, 1) := by decide +kernel
theorem dX5_average_9 : decode cX5_average 9 = .ok (.sipush 220, 3) := by decide +kernel
theorem dX5_average_12 : decode cX5_average 12 = .ok (.invokestatic 44, 3) := by decide +kernel
theorem dX5_average_15 : decode cX5_average 15 = .ok (.ifCond .eq 6, 3) := by decide +kernel
theorem dX5_average_18 : decode cX5_average 18 = .ok (.bipush (-2), 2) := by decide +kernel
theorem dX5_average_20 : decode cX5_average 20 = .ok (.ireturn, 1) := by decide +kernel
theorem dX5_average_21 : decode cX5_average 21 = .ok (.aload_n 0, 1) := by decide +kernel
theorem dX5_average_22 : decode cX5_average 22 = .ok (.getfield 12, 3) := by decide +kernel
theorem dX5_average_25 : decode cX5_average 25 = .ok (.iload_n 1, 1) := by decide +kernel
theorem dX5_average_26 : decode cX5_average 26 = .ok (.iload_n 2, 1) := by decide +kernel
theorem dX5_average_27 : decode cX5_average 27 = .ok (.iconst (-1), 1) := by decide +kernel
theorem dX5_average_28 : decode cX5_average 28 = .ok (.invokevirtual 99, 3) := by decide +kernel
theorem dX5_average_31 : decode cX5_average 31 = .ok (.ireturn, 1) := by decide +kernel
set_option maxRecDepth 20000 in
theorem ggX5_towns_X5_isOutside : GoodIn wsX5_towns wsX5_isOutside := goodIn_r _ [5] (by decide +kernel) (by decide +kernel)
set_option maxRecDepth 20000 in
theorem gX5_towns_X5_isOutside : GoodIn wsX5_towns (va_wsS RX5 44 yX5_isOutside wsX5_isOutside) := goodIn_app (goodIn_of _ (by decide +kernel)) ggX5_towns_X5_isOutside
set_option maxRecDepth 20000 in
theorem ggX5_towns_X3_townsKnown : GoodIn wsX5_towns wsX3_townsKnown := goodIn_r _ [10, 11, 12, 13, 14, 15, 16, 9, 17, 18, 19, 20, 21, 22, 23, 24, 25, 26, 35, 36, 37, 38, 39, 40, 41, 42] (by decide +kernel) (by decide +kernel)
set_option maxRecDepth 20000 in
theorem gX5_towns_X3_townsKnown : GoodIn wsX5_towns (wsV RX5 103 RX3 yX3_townsKnown wsX3_townsKnown) := goodIn_app (goodIn_of _ (by decide +kernel)) ggX5_towns_X3_townsKnown
theorem dX5_towns_0 : decode cX5_towns 0 = .ok (.iload_n 1, 1) := by decide +kernel
theorem dX5_towns_1 : decode cX5_towns 1 = .ok (.iconst 0, 1) := by decide +kernel
theorem dX5_towns_2 : decode cX5_towns 2 = .ok (.sipush 200, 3) := by decide +kernel
theorem dX5_towns_5 : decode cX5_towns 5 = .ok (.invokestatic 44, 3) := by decide +kernel
theorem dX5_towns_8 : decode cX5_towns 8 = .ok (.ifCond .ne 14, 3) := by decide +kernel
theorem dX5_towns_11 : decode cX5_towns 11 = .ok (.iload_n 2, 1) := by decide +kernel
theorem dX5_towns_12 : decode cX5_towns 12 = .ok (.iconst 0, 1) := by decide +kernel
theorem dX5_towns_13 : decode cX5_towns 13 = .ok (.sipush 200, 3) := by decide +kernel
theorem dX5_towns_16 : decode cX5_towns 16 = .ok (.invokestatic 44, 3) := by decide +kernel
theorem dX5_towns_19 : decode cX5_towns 19 = .ok (.ifCond .eq 6, 3) := by decide +kernel
theorem dX5_towns_22 : decode cX5_towns 22 = .ok (.bipush (-2), 2) := by decide +kernel
theorem dX5_towns_24 : decode cX5_towns 24 = .ok (.ireturn, 1) := by decide +kernel
theorem dX5_towns_25 : decode cX5_towns 25 = .ok (.aload_n 0, 1) := by decide +kernel
theorem dX5_towns_26 : decode cX5_towns 26 = .ok (.getfield 12, 3) := by decide +kernel
theorem dX5_towns_29 : decode cX5_towns 29 = .ok (.iload_n 1, 1) := by decide +kernel
theorem dX5_towns_30 : decode cX5_towns 30 = .ok (.iload_n 2, 1) := by decide +kernel
theorem dX5_towns_31 : decode cX5_towns 31 = .ok (.invokevirtual 103, 3) := by decide +kernel
theorem dX5_towns_34 : decode cX5_towns 34 = .ok (.ireturn, 1) := by decide +kernel
set_option maxRecDepth 20000 in
theorem ggX5_scale_X5_isNoGrain : GoodIn wsX5_scale wsX5_isNoGrain := goodIn_r _ [7, 8, 9, 6, 10] (by decide +kernel) (by decide +kernel)
set_option maxRecDepth 20000 in
theorem gX5_scale_X5_isNoGrain : GoodIn wsX5_scale (va_wsS RX5 59 yX5_isNoGrain wsX5_isNoGrain) := goodIn_app (goodIn_of _ (by decide +kernel)) ggX5_scale_X5_isNoGrain
set_option maxRecDepth 20000 in
theorem ggX5_scale_X5_isOutside : GoodIn wsX5_scale wsX5_isOutside := goodIn_r _ [10] (by decide +kernel) (by decide +kernel)
set_option maxRecDepth 20000 in
theorem gX5_scale_X5_isOutside : GoodIn wsX5_scale (va_wsS RX5 44 yX5_isOutside wsX5_isOutside) := goodIn_app (goodIn_of _ (by decide +kernel)) ggX5_scale_X5_isOutside
set_option maxRecDepth 20000 in
theorem ggX5_scale_X4_add : GoodIn wsX5_scale wsX4_add := goodIn_r _ [15, 16, 17, 18, 19, 28, 29, 30, 31, 32, 33, 34] (by decide +kernel) (by decide +kernel)
set_option maxRecDepth 20000 in
theorem gX5_scale_X4_add : GoodIn wsX5_scale (wsV RX5 108 RX4 yX4_add wsX4_add) := goodIn_app (goodIn_of _ (by decide +kernel)) ggX5_scale_X4_add
theorem dX5_scale_0 : decode cX5_scale 0 = .ok (.iload_n 1, 1) := by decide +kernel
theorem dX5_scale_1 : decode cX5_scale 1 = .ok (.invokestatic 59, 3) := by decide +kernel
theorem dX5_scale_4 : decode cX5_scale 4 = .ok (.ifCond .ne 17, 3) := by decide +kernel
theorem dX5_scale_7 : decode cX5_scale 7 = .ok (.iload_n 2, 1) := by decide +kernel
theorem dX5_scale_8 : decode cX5_scale 8 = .ok (.aload_n 0, 1) := by decide +kernel
theorem dX5_scale_9 : decode cX5_scale 9 = .ok (.getfield 48, 3) := by decide +kernel
theorem dX5_scale_12 : decode cX5_scale 12 = .ok (.sipush 200, 3) := by decide +kernel
theorem dX5_scale_15 : decode cX5_scale 15 = .ok (.invokestatic 44, 3) := by decide +kernel
theorem dX5_scale_18 : decode cX5_scale 18 = .ok (.ifCond .eq 6, 3) := by decide +kernel
theorem dX5_scale_21 : decode cX5_scale 21 = .ok (.bipush (-2), 2) := by decide +kernel
theorem dX5_scale_23 : decode cX5_scale 23 = .ok (.ireturn, 1) := by decide +kernel
theorem dX5_scale_24 : decode cX5_scale 24 = .ok (.aload_n 0, 1) := by decide +kernel
theorem dX5_scale_25 : decode cX5_scale 25 = .ok (.getfield 19, 3) := by decide +kernel
theorem dX5_scale_28 : decode cX5_scale 28 = .ok (.getfield 107, 3) := by decide +kernel
theorem dX5_scale_31 : decode cX5_scale 31 = .ok (.bipush 8, 2) := by decide +kernel
theorem dX5_scale_33 : decode cX5_scale 33 = .ok (.if_icmp .lt 6, 3) := by decide +kernel
theorem dX5_scale_36 : decode cX5_scale 36 = .ok (.bipush (-4), 2) := by decide +kernel
theorem dX5_scale_38 : decode cX5_scale 38 = .ok (.ireturn, 1) := by decide +kernel
theorem dX5_scale_39 : decode cX5_scale 39 = .ok (.aload_n 0, 1) := by decide +kernel
theorem dX5_scale_40 : decode cX5_scale 40 = .ok (.getfield 19, 3) := by decide +kernel
theorem dX5_scale_43 : decode cX5_scale 43 = .ok (.iload_n 1, 1) := by decide +kernel
theorem dX5_scale_44 : decode cX5_scale 44 = .ok (.iload_n 2, 1) := by decide +kernel
theorem dX5_scale_45 : decode cX5_scale 45 = .ok (.aload_n 0, 1) := by decide +kernel
theorem dX5_scale_46 : decode cX5_scale 46 = .ok (.getfield 48, 3) := by decide +kernel
theorem dX5_scale_49 : decode cX5_scale 49 = .ok (.invokevirtual 108, 3) := by decide +kernel
theorem dX5_scale_52 : decode cX5_scale 52 = .ok (.ireturn, 1) := by decide +kernel
set_option maxRecDepth 20000 in
theorem ggX5_step_X4_has : GoodIn wsX5_step wsX4_has := goodIn_r _ [8, 9, 39, 40, 41, 42, 43, 44, 45] (by decide +kernel) (by decide +kernel)
set_option maxRecDepth 20000 in
theorem gX5_step_X4_has : GoodIn wsX5_step (wsV RX5 110 RX4 yX4_has wsX4_has) := goodIn_app (goodIn_of _ (by decide +kernel)) ggX5_step_X4_has
set_option maxRecDepth 20000 in
theorem ggX5_step_X5_isOutside : GoodIn wsX5_step wsX5_isOutside := goodIn_r _ [13] (by decide +kernel) (by decide +kernel)
set_option maxRecDepth 20000 in
theorem gX5_step_X5_isOutside : GoodIn wsX5_step (va_wsS RX5 44 yX5_isOutside wsX5_isOutside) := goodIn_app (goodIn_of _ (by decide +kernel)) ggX5_step_X5_isOutside
set_option maxRecDepth 20000 in
theorem ggX5_step_X4_lastPrice : GoodIn wsX5_step wsX4_lastPrice := goodIn_r _ [17, 18, 19, 39, 40, 41, 42, 43, 44, 45] (by decide +kernel) (by decide +kernel)
set_option maxRecDepth 20000 in
theorem gX5_step_X4_lastPrice : GoodIn wsX5_step (wsV RX5 111 RX4 yX4_lastPrice wsX4_lastPrice) := goodIn_app (goodIn_of _ (by decide +kernel)) ggX5_step_X4_lastPrice
set_option maxRecDepth 20000 in
theorem ggX5_step_X4_isSettled : GoodIn wsX5_step wsX4_isSettled := goodIn_r _ [23, 24, 25, 39, 40, 41, 42, 43, 44, 45] (by decide +kernel) (by decide +kernel)
set_option maxRecDepth 20000 in
theorem gX5_step_X4_isSettled : GoodIn wsX5_step (wsV RX5 115 RX4 yX4_isSettled wsX4_isSettled) := goodIn_app (goodIn_of _ (by decide +kernel)) ggX5_step_X4_isSettled
set_option maxRecDepth 20000 in
theorem ggX5_step_X4_addStep : GoodIn wsX5_step wsX4_addStep := goodIn_r _ [29, 19, 18, 30, 39, 40, 41, 42, 43, 44, 45] (by decide +kernel) (by decide +kernel)
set_option maxRecDepth 20000 in
theorem gX5_step_X4_addStep : GoodIn wsX5_step (wsV RX5 122 RX4 yX4_addStep wsX4_addStep) := goodIn_app (goodIn_of _ (by decide +kernel)) ggX5_step_X4_addStep
theorem dX5_step_0 : decode cX5_step 0 = .ok (.aload_n 0, 1) := by decide +kernel
theorem dX5_step_1 : decode cX5_step 1 = .ok (.getfield 19, 3) := by decide +kernel
theorem dX5_step_4 : decode cX5_step 4 = .ok (.iload_n 1, 1) := by decide +kernel
theorem dX5_step_5 : decode cX5_step 5 = .ok (.invokevirtual 110, 3) := by decide +kernel
theorem dX5_step_8 : decode cX5_step 8 = .ok (.ifCond .eq 37, 3) := by decide +kernel
theorem dX5_step_11 : decode cX5_step 11 = .ok (.iload_n 2, 1) := by decide +kernel
theorem dX5_step_12 : decode cX5_step 12 = .ok (.iconst 0, 1) := by decide +kernel
theorem dX5_step_13 : decode cX5_step 13 = .ok (.sipush 2000, 3) := by decide +kernel
theorem dX5_step_16 : decode cX5_step 16 = .ok (.invokestatic 44, 3) := by decide +kernel
theorem dX5_step_19 : decode cX5_step 19 = .ok (.ifCond .ne 26, 3) := by decide +kernel
theorem dX5_step_22 : decode cX5_step 22 = .ok (.iload_n 3, 1) := by decide +kernel
theorem dX5_step_23 : decode cX5_step 23 = .ok (.iconst 0, 1) := by decide +kernel
theorem dX5_step_24 : decode cX5_step 24 = .ok (.sipush 2000, 3) := by decide +kernel
theorem dX5_step_27 : decode cX5_step 27 = .ok (.invokestatic 44, 3) := by decide +kernel
theorem dX5_step_30 : decode cX5_step 30 = .ok (.ifCond .ne 15, 3) := by decide +kernel
theorem dX5_step_33 : decode cX5_step 33 = .ok (.iload_n 2, 1) := by decide +kernel
theorem dX5_step_34 : decode cX5_step 34 = .ok (.aload_n 0, 1) := by decide +kernel
theorem dX5_step_35 : decode cX5_step 35 = .ok (.getfield 19, 3) := by decide +kernel
theorem dX5_step_38 : decode cX5_step 38 = .ok (.iload_n 1, 1) := by decide +kernel
theorem dX5_step_39 : decode cX5_step 39 = .ok (.invokevirtual 111, 3) := by decide +kernel
theorem dX5_step_42 : decode cX5_step 42 = .ok (.if_icmp .gt 6, 3) := by decide +kernel
theorem dX5_step_45 : decode cX5_step 45 = .ok (.bipush (-2), 2) := by decide +kernel
theorem dX5_step_47 : decode cX5_step 47 = .ok (.ireturn, 1) := by decide +kernel
theorem dX5_step_48 : decode cX5_step 48 = .ok (.aload_n 0, 1) := by decide +kernel
theorem dX5_step_49 : decode cX5_step 49 = .ok (.getfield 19, 3) := by decide +kernel
theorem dX5_step_52 : decode cX5_step 52 = .ok (.iload_n 1, 1) := by decide +kernel
theorem dX5_step_53 : decode cX5_step 53 = .ok (.aload_n 0, 1) := by decide +kernel
theorem dX5_step_54 : decode cX5_step 54 = .ok (.getfield 48, 3) := by decide +kernel
theorem dX5_step_57 : decode cX5_step 57 = .ok (.invokevirtual 115, 3) := by decide +kernel
theorem dX5_step_60 : decode cX5_step 60 = .ok (.ifCond .eq 6, 3) := by decide +kernel
theorem dX5_step_63 : decode cX5_step 63 = .ok (.bipush (-3), 2) := by decide +kernel
theorem dX5_step_65 : decode cX5_step 65 = .ok (.ireturn, 1) := by decide +kernel
theorem dX5_step_66 : decode cX5_step 66 = .ok (.aload_n 0, 1) := by decide +kernel
theorem dX5_step_67 : decode cX5_step 67 = .ok (.getfield 19, 3) := by decide +kernel
theorem dX5_step_70 : decode cX5_step 70 = .ok (.getfield 119, 3) := by decide +kernel
theorem dX5_step_73 : decode cX5_step 73 = .ok (.iload_n 1, 1) := by decide +kernel
theorem dX5_step_74 : decode cX5_step 74 = .ok (.iaload, 1) := by decide +kernel
theorem dX5_step_75 : decode cX5_step 75 = .ok (.bipush 8, 2) := by decide +kernel
theorem dX5_step_77 : decode cX5_step 77 = .ok (.if_icmp .lt 6, 3) := by decide +kernel
theorem dX5_step_80 : decode cX5_step 80 = .ok (.bipush (-4), 2) := by decide +kernel
theorem dX5_step_82 : decode cX5_step 82 = .ok (.ireturn, 1) := by decide +kernel
theorem dX5_step_83 : decode cX5_step 83 = .ok (.aload_n 0, 1) := by decide +kernel
theorem dX5_step_84 : decode cX5_step 84 = .ok (.getfield 19, 3) := by decide +kernel
theorem dX5_step_87 : decode cX5_step 87 = .ok (.iload_n 1, 1) := by decide +kernel
theorem dX5_step_88 : decode cX5_step 88 = .ok (.iload_n 2, 1) := by decide +kernel
theorem dX5_step_89 : decode cX5_step 89 = .ok (.iload_n 3, 1) := by decide +kernel
theorem dX5_step_90 : decode cX5_step 90 = .ok (.invokevirtual 122, 3) := by decide +kernel
theorem dX5_step_93 : decode cX5_step 93 = .ok (.ireturn, 1) := by decide +kernel
set_option maxRecDepth 20000 in
theorem ggX5_hang_X5_isNoGrain : GoodIn wsX5_hang wsX5_isNoGrain := goodIn_r _ [5, 6, 7, 4, 8] (by decide +kernel) (by decide +kernel)
set_option maxRecDepth 20000 in
theorem gX5_hang_X5_isNoGrain : GoodIn wsX5_hang (va_wsS RX5 59 yX5_isNoGrain wsX5_isNoGrain) := goodIn_app (goodIn_of _ (by decide +kernel)) ggX5_hang_X5_isNoGrain
set_option maxRecDepth 20000 in
theorem ggX5_hang_X5_isOutside : GoodIn wsX5_hang wsX5_isOutside := goodIn_r _ [8] (by decide +kernel) (by decide +kernel)
set_option maxRecDepth 20000 in
theorem gX5_hang_X5_isOutside : GoodIn wsX5_hang (va_wsS RX5 44 yX5_isOutside wsX5_isOutside) := goodIn_app (goodIn_of _ (by decide +kernel)) ggX5_hang_X5_isOutside
set_option maxRecDepth 20000 in
theorem ggX5_hang_X1_hangs : GoodIn wsX5_hang wsX1_hangs := goodIn_r _ [13, 14, 34, 35, 36] (by decide +kernel) (by decide +kernel)
set_option maxRecDepth 20000 in
theorem gX5_hang_X1_hangs : GoodIn wsX5_hang (wsV RX5 125 RX1 yX1_hangs wsX1_hangs) := goodIn_app (goodIn_of _ (by decide +kernel)) ggX5_hang_X1_hangs
set_option maxRecDepth 20000 in
theorem ggX5_hang_X1_bearsOne : GoodIn wsX5_hang wsX1_bearsOne := goodIn_r _ [18, 19, 20, 10, 11, 12, 13, 14, 34, 35, 36] (by decide +kernel) (by decide +kernel)
set_option maxRecDepth 20000 in
theorem gX5_hang_X1_bearsOne : GoodIn wsX5_hang (wsV RX5 128 RX1 yX1_bearsOne wsX1_bearsOne) := goodIn_app (goodIn_of _ (by decide +kernel)) ggX5_hang_X1_bearsOne
set_option maxRecDepth 20000 in
theorem ggX5_hang_X1_put : GoodIn wsX5_hang wsX1_put := goodIn_r _ [24, 19, 25, 14, 34, 35, 36] (by decide +kernel) (by decide +kernel)
set_option maxRecDepth 20000 in
theorem gX5_hang_X1_put : GoodIn wsX5_hang (wsV RX5 131 RX1 yX1_put wsX1_put) := goodIn_app (goodIn_of _ (by decide +kernel)) ggX5_hang_X1_put
theorem dX5_hang_0 : decode cX5_hang 0 = .ok (.iload_n 1, 1) := by decide +kernel
theorem dX5_hang_1 : decode cX5_hang 1 = .ok (.invokestatic 59, 3) := by decide +kernel
theorem dX5_hang_4 : decode cX5_hang 4 = .ok (.ifCond .ne 36, 3) := by decide +kernel
theorem dX5_hang_7 : decode cX5_hang 7 = .ok (.iload_n 2, 1) := by decide +kernel
theorem dX5_hang_8 : decode cX5_hang 8 = .ok (.invokestatic 59, 3) := by decide +kernel
theorem dX5_hang_11 : decode cX5_hang 11 = .ok (.ifCond .ne 29, 3) := by decide +kernel
theorem dX5_hang_14 : decode cX5_hang 14 = .ok (.iload_n 1, 1) := by decide +kernel
theorem dX5_hang_15 : decode cX5_hang 15 = .ok (.iload_n 2, 1) := by decide +kernel
theorem dX5_hang_16 : decode cX5_hang 16 = .ok (.if_icmp .eq 24, 3) := by decide +kernel
theorem dX5_hang_19 : decode cX5_hang 19 = .ok (.iload_n 3, 1) := by decide +kernel
theorem dX5_hang_20 : decode cX5_hang 20 = .ok (.iconst 1, 1) := by decide +kernel
theorem dX5_hang_21 : decode cX5_hang 21 = .ok (.bipush 100, 2) := by decide +kernel
theorem dX5_hang_23 : decode cX5_hang 23 = .ok (.invokestatic 44, 3) := by decide +kernel
theorem dX5_hang_26 : decode cX5_hang 26 = .ok (.ifCond .ne 14, 3) := by decide +kernel
theorem dX5_hang_29 : decode cX5_hang 29 = .ok (.iload 4, 2) := by decide +kernel
theorem dX5_hang_31 : decode cX5_hang 31 = .ok (.iconst 1, 1) := by decide +kernel
theorem dX5_hang_32 : decode cX5_hang 32 = .ok (.bipush 100, 2) := by decide +kernel
theorem dX5_hang_34 : decode cX5_hang 34 = .ok (.invokestatic 44, 3) := by decide +kernel
theorem dX5_hang_37 : decode cX5_hang 37 = .ok (.ifCond .eq 6, 3) := by decide +kernel
theorem dX5_hang_40 : decode cX5_hang 40 = .ok (.bipush (-2), 2) := by decide +kernel
theorem dX5_hang_42 : decode cX5_hang 42 = .ok (.ireturn, 1) := by decide +kernel
theorem dX5_hang_43 : decode cX5_hang 43 = .ok (.aload_n 0, 1) := by decide +kernel
theorem dX5_hang_44 : decode cX5_hang 44 = .ok (.getfield 26, 3) := by decide +kernel
theorem dX5_hang_47 : decode cX5_hang 47 = .ok (.iload_n 2, 1) := by decide +kernel
theorem dX5_hang_48 : decode cX5_hang 48 = .ok (.invokevirtual 125, 3) := by decide +kernel
theorem dX5_hang_51 : decode cX5_hang 51 = .ok (.ifCond .ne 14, 3) := by decide +kernel
theorem dX5_hang_54 : decode cX5_hang 54 = .ok (.aload_n 0, 1) := by decide +kernel
theorem dX5_hang_55 : decode cX5_hang 55 = .ok (.getfield 26, 3) := by decide +kernel
theorem dX5_hang_58 : decode cX5_hang 58 = .ok (.iload_n 1, 1) := by decide +kernel
theorem dX5_hang_59 : decode cX5_hang 59 = .ok (.invokevirtual 128, 3) := by decide +kernel
theorem dX5_hang_62 : decode cX5_hang 62 = .ok (.ifCond .eq 6, 3) := by decide +kernel
theorem dX5_hang_65 : decode cX5_hang 65 = .ok (.bipush (-3), 2) := by decide +kernel
theorem dX5_hang_67 : decode cX5_hang 67 = .ok (.ireturn, 1) := by decide +kernel
theorem dX5_hang_68 : decode cX5_hang 68 = .ok (.aload_n 0, 1) := by decide +kernel
theorem dX5_hang_69 : decode cX5_hang 69 = .ok (.getfield 26, 3) := by decide +kernel
theorem dX5_hang_72 : decode cX5_hang 72 = .ok (.iload_n 1, 1) := by decide +kernel
theorem dX5_hang_73 : decode cX5_hang 73 = .ok (.iload_n 2, 1) := by decide +kernel
theorem dX5_hang_74 : decode cX5_hang 74 = .ok (.iload_n 3, 1) := by decide +kernel
theorem dX5_hang_75 : decode cX5_hang 75 = .ok (.iload 4, 2) := by decide +kernel
theorem dX5_hang_77 : decode cX5_hang 77 = .ok (.invokevirtual 131, 3) := by decide +kernel
theorem dX5_hang_80 : decode cX5_hang 80 = .ok (.iconst 1, 1) := by decide +kernel
theorem dX5_hang_81 : decode cX5_hang 81 = .ok (.ireturn, 1) := by decide +kernel
set_option maxRecDepth 20000 in
theorem ggX5_unhang_X5_isNoGrain : GoodIn wsX5_unhang wsX5_isNoGrain := goodIn_r _ [5, 6, 7, 4, 8] (by decide +kernel) (by decide +kernel)
set_option maxRecDepth 20000 in
theorem gX5_unhang_X5_isNoGrain : GoodIn wsX5_unhang (va_wsS RX5 59 yX5_isNoGrain wsX5_isNoGrain) := goodIn_app (goodIn_of _ (by decide +kernel)) ggX5_unhang_X5_isNoGrain
set_option maxRecDepth 20000 in
theorem ggX5_unhang_X1_hangs : GoodIn wsX5_unhang wsX1_hangs := goodIn_r _ [13, 14, 27, 28, 29] (by decide +kernel) (by decide +kernel)
set_option maxRecDepth 20000 in
theorem gX5_unhang_X1_hangs : GoodIn wsX5_unhang (wsV RX5 125 RX1 yX1_hangs wsX1_hangs) := goodIn_app (goodIn_of _ (by decide +kernel)) ggX5_unhang_X1_hangs
set_option maxRecDepth 20000 in
theorem ggX5_unhang_X1_take : GoodIn wsX5_unhang wsX1_take := goodIn_r _ [18, 14, 27, 28, 29] (by decide +kernel) (by decide +kernel)
set_option maxRecDepth 20000 in
theorem gX5_unhang_X1_take : GoodIn wsX5_unhang (wsV RX5 135 RX1 yX1_take wsX1_take) := goodIn_app (goodIn_of _ (by decide +kernel)) ggX5_unhang_X1_take
theorem dX5_unhang_0 : decode cX5_unhang 0 = .ok (.iload_n 1, 1) := by decide +kernel
theorem dX5_unhang_1 : decode cX5_unhang 1 = .ok (.invokestatic 59, 3) := by decide +kernel
theorem dX5_unhang_4 : decode cX5_unhang 4 = .ok (.ifCond .eq 6, 3) := by decide +kernel
theorem dX5_unhang_7 : decode cX5_unhang 7 = .ok (.bipush (-2), 2) := by decide +kernel
theorem dX5_unhang_9 : decode cX5_unhang 9 = .ok (.ireturn, 1) := by decide +kernel
theorem dX5_unhang_10 : decode cX5_unhang 10 = .ok (.aload_n 0, 1) := by decide +kernel
theorem dX5_unhang_11 : decode cX5_unhang 11 = .ok (.getfield 26, 3) := by decide +kernel
theorem dX5_unhang_14 : decode cX5_unhang 14 = .ok (.iload_n 1, 1) := by decide +kernel
theorem dX5_unhang_15 : decode cX5_unhang 15 = .ok (.invokevirtual 125, 3) := by decide +kernel
theorem dX5_unhang_18 : decode cX5_unhang 18 = .ok (.ifCond .ne 6, 3) := by decide +kernel
theorem dX5_unhang_21 : decode cX5_unhang 21 = .ok (.bipush (-3), 2) := by decide +kernel
theorem dX5_unhang_23 : decode cX5_unhang 23 = .ok (.ireturn, 1) := by decide +kernel
theorem dX5_unhang_24 : decode cX5_unhang 24 = .ok (.aload_n 0, 1) := by decide +kernel
theorem dX5_unhang_25 : decode cX5_unhang 25 = .ok (.getfield 26, 3) := by decide +kernel
theorem dX5_unhang_28 : decode cX5_unhang 28 = .ok (.iload_n 1, 1) := by decide +kernel
theorem dX5_unhang_29 : decode cX5_unhang 29 = .ok (.invokevirtual 135, 3) := by decide +kernel
theorem dX5_unhang_32 : decode cX5_unhang 32 = .ok (.iconst 1, 1) := by decide +kernel
theorem dX5_unhang_33 : decode cX5_unhang 33 = .ok (.ireturn, 1) := by decide +kernel
set_option maxRecDepth 20000 in
theorem ggX5_force_X5_isNoGrain : GoodIn wsX5_force wsX5_isNoGrain := goodIn_r _ [5, 6, 7, 4, 8] (by decide +kernel) (by decide +kernel)
set_option maxRecDepth 20000 in
theorem gX5_force_X5_isNoGrain : GoodIn wsX5_force (va_wsS RX5 59 yX5_isNoGrain wsX5_isNoGrain) := goodIn_app (goodIn_of _ (by decide +kernel)) ggX5_force_X5_isNoGrain
set_option maxRecDepth 20000 in
theorem ggX5_force_X5_isOutside : GoodIn wsX5_force wsX5_isOutside := goodIn_r _ [8] (by decide +kernel) (by decide +kernel)
set_option maxRecDepth 20000 in
theorem gX5_force_X5_isOutside : GoodIn wsX5_force (va_wsS RX5 44 yX5_isOutside wsX5_isOutside) := goodIn_app (goodIn_of _ (by decide +kernel)) ggX5_force_X5_isOutside
set_option maxRecDepth 20000 in
theorem ggX5_force_X4_inForce : GoodIn wsX5_force wsX4_inForce := goodIn_r _ [13, 14, 15, 16, 17, 26, 27, 28, 29, 30, 31, 32] (by decide +kernel) (by decide +kernel)
set_option maxRecDepth 20000 in
theorem gX5_force_X4_inForce : GoodIn wsX5_force (wsV RX5 138 RX4 yX4_inForce wsX4_inForce) := goodIn_app (goodIn_of _ (by decide +kernel)) ggX5_force_X4_inForce
theorem dX5_force_0 : decode cX5_force 0 = .ok (.iload_n 1, 1) := by decide +kernel
theorem dX5_force_1 : decode cX5_force 1 = .ok (.invokestatic 59, 3) := by decide +kernel
theorem dX5_force_4 : decode cX5_force 4 = .ok (.ifCond .ne 14, 3) := by decide +kernel
theorem dX5_force_7 : decode cX5_force 7 = .ok (.iload_n 2, 1) := by decide +kernel
theorem dX5_force_8 : decode cX5_force 8 = .ok (.iconst 0, 1) := by decide +kernel
theorem dX5_force_9 : decode cX5_force 9 = .ok (.sipush 220, 3) := by decide +kernel
theorem dX5_force_12 : decode cX5_force 12 = .ok (.invokestatic 44, 3) := by decide +kernel
theorem dX5_force_15 : decode cX5_force 15 = .ok (.ifCond .eq 6, 3) := by decide +kernel
theorem dX5_force_18 : decode cX5_force 18 = .ok (.bipush (-2), 2) := by decide +kernel
theorem dX5_force_20 : decode cX5_force 20 = .ok (.ireturn, 1) := by decide +kernel
theorem dX5_force_21 : decode cX5_force 21 = .ok (.aload_n 0, 1) := by decide +kernel
theorem dX5_force_22 : decode cX5_force 22 = .ok (.getfield 19, 3) := by decide +kernel
theorem dX5_force_25 : decode cX5_force 25 = .ok (.iload_n 1, 1) := by decide +kernel
theorem dX5_force_26 : decode cX5_force 26 = .ok (.iload_n 2, 1) := by decide +kernel
theorem dX5_force_27 : decode cX5_force 27 = .ok (.invokevirtual 138, 3) := by decide +kernel
theorem dX5_force_30 : decode cX5_force 30 = .ok (.ireturn, 1) := by decide +kernel
set_option maxRecDepth 20000 in
theorem ggX5_duty_X5_isNoGrain : GoodIn wsX5_duty wsX5_isNoGrain := goodIn_r _ [4, 5, 6, 3, 7] (by decide +kernel) (by decide +kernel)
set_option maxRecDepth 20000 in
theorem gX5_duty_X5_isNoGrain : GoodIn wsX5_duty (va_wsS RX5 59 yX5_isNoGrain wsX5_isNoGrain) := goodIn_app (goodIn_of _ (by decide +kernel)) ggX5_duty_X5_isNoGrain
set_option maxRecDepth 20000 in
theorem ggX5_duty_X5_isOutside : GoodIn wsX5_duty wsX5_isOutside := goodIn_r _ [7] (by decide +kernel) (by decide +kernel)
set_option maxRecDepth 20000 in
theorem gX5_duty_X5_isOutside : GoodIn wsX5_duty (va_wsS RX5 44 yX5_isOutside wsX5_isOutside) := goodIn_app (goodIn_of _ (by decide +kernel)) ggX5_duty_X5_isOutside
set_option maxRecDepth 20000 in
theorem ggX5_duty_X5_dutyAt : GoodIn wsX5_duty wsX5_dutyAt := goodIn_r _ [11, 12, 13, 14, 15, 16, 17, 18, 19, 20, 21, 22, 23, 24, 25, 26, 27, 28, 29, 30, 31, 32, 33, 34, 35, 36, 37, 38, 39, 40, 41, 42, 43, 44, 45, 46, 47, 48, 49, 50, 51, 52, 53, 54, 55, 56, 57, 58, 59, 60, 61, 62, 63, 64, 65, 66, 67, 68, 69, 70, 71, 72, 73, 74, 75, 76, 77, 78, 79, 80, 81, 82, 83, 84, 85, 86, 87, 88, 89, 90, 91, 92, 93, 94, 95, 96, 97, 98, 99] (by decide +kernel) (by decide +kernel)
set_option maxRecDepth 20000 in
theorem gX5_duty_X5_dutyAt : GoodIn wsX5_duty (wsV RX5 141 RX5 yX5_dutyAt wsX5_dutyAt) := goodIn_app (goodIn_of _ (by decide +kernel)) ggX5_duty_X5_dutyAt
theorem dX5_duty_0 : decode cX5_duty 0 = .ok (.iload_n 1, 1) := by decide +kernel
theorem dX5_duty_1 : decode cX5_duty 1 = .ok (.invokestatic 59, 3) := by decide +kernel
theorem dX5_duty_4 : decode cX5_duty 4 = .ok (.ifCond .ne 14, 3) := by decide +kernel
theorem dX5_duty_7 : decode cX5_duty 7 = .ok (.iload_n 2, 1) := by decide +kernel
theorem dX5_duty_8 : decode cX5_duty 8 = .ok (.iconst 0, 1) := by decide +kernel
theorem dX5_duty_9 : decode cX5_duty 9 = .ok (.sipush 220, 3) := by decide +kernel
theorem dX5_duty_12 : decode cX5_duty 12 = .ok (.invokestatic 44, 3) := by decide +kernel
theorem dX5_duty_15 : decode cX5_duty 15 = .ok (.ifCond .eq 6, 3) := by decide +kernel
theorem dX5_duty_18 : decode cX5_duty 18 = .ok (.bipush (-2), 2) := by decide +kernel
theorem dX5_duty_20 : decode cX5_duty 20 = .ok (.ireturn, 1) := by decide +kernel
theorem dX5_duty_21 : decode cX5_duty 21 = .ok (.aload_n 0, 1) := by decide +kernel
theorem dX5_duty_22 : decode cX5_duty 22 = .ok (.iload_n 1, 1) := by decide +kernel
theorem dX5_duty_23 : decode cX5_duty 23 = .ok (.iload_n 2, 1) := by decide +kernel
theorem dX5_duty_24 : decode cX5_duty 24 = .ok (.iconst (-1), 1) := by decide +kernel
theorem dX5_duty_25 : decode cX5_duty 25 = .ok (.iconst (-1), 1) := by decide +kernel
theorem dX5_duty_26 : decode cX5_duty 26 = .ok (.invokevirtual 141, 3) := by decide +kernel
theorem dX5_duty_29 : decode cX5_duty 29 = .ok (.ireturn, 1) := by decide +kernel
set_option maxRecDepth 20000 in
theorem ggX5_cargo_X5_isNoGrain : GoodIn wsX5_cargo wsX5_isNoGrain := goodIn_r _ [7, 8, 9, 6, 10] (by decide +kernel) (by decide +kernel)
set_option maxRecDepth 20000 in
theorem gX5_cargo_X5_isNoGrain : GoodIn wsX5_cargo (va_wsS RX5 59 yX5_isNoGrain wsX5_isNoGrain) := goodIn_app (goodIn_of _ (by decide +kernel)) ggX5_cargo_X5_isNoGrain
set_option maxRecDepth 20000 in
theorem ggX5_cargo_X5_isOutside : GoodIn wsX5_cargo wsX5_isOutside := goodIn_r _ [10] (by decide +kernel) (by decide +kernel)
set_option maxRecDepth 20000 in
theorem gX5_cargo_X5_isOutside : GoodIn wsX5_cargo (va_wsS RX5 44 yX5_isOutside wsX5_isOutside) := goodIn_app (goodIn_of _ (by decide +kernel)) ggX5_cargo_X5_isOutside
set_option maxRecDepth 20000 in
theorem ggX5_cargo_X0_add : GoodIn wsX5_cargo wsX0_add := goodIn_r _ [15, 16, 17, 18, 19, 28, 29, 30, 31, 32, 33, 34] (by decide +kernel) (by decide +kernel)
set_option maxRecDepth 20000 in
theorem gX5_cargo_X0_add : GoodIn wsX5_cargo (wsV RX5 145 RX0 yX0_add wsX0_add) := goodIn_app (goodIn_of _ (by decide +kernel)) ggX5_cargo_X0_add
theorem dX5_cargo_0 : decode cX5_cargo 0 = .ok (.iload_n 1, 1) := by decide +kernel
theorem dX5_cargo_1 : decode cX5_cargo 1 = .ok (.invokestatic 59, 3) := by decide +kernel
theorem dX5_cargo_4 : decode cX5_cargo 4 = .ok (.ifCond .ne 14, 3) := by decide +kernel
theorem dX5_cargo_7 : decode cX5_cargo 7 = .ok (.iload_n 2, 1) := by decide +kernel
theorem dX5_cargo_8 : decode cX5_cargo 8 = .ok (.iconst 1, 1) := by decide +kernel
theorem dX5_cargo_9 : decode cX5_cargo 9 = .ok (.sipush 10000, 3) := by decide +kernel
theorem dX5_cargo_12 : decode cX5_cargo 12 = .ok (.invokestatic 44, 3) := by decide +kernel
theorem dX5_cargo_15 : decode cX5_cargo 15 = .ok (.ifCond .eq 6, 3) := by decide +kernel
theorem dX5_cargo_18 : decode cX5_cargo 18 = .ok (.bipush (-2), 2) := by decide +kernel
theorem dX5_cargo_20 : decode cX5_cargo 20 = .ok (.ireturn, 1) := by decide +kernel
theorem dX5_cargo_21 : decode cX5_cargo 21 = .ok (.aload_n 0, 1) := by decide +kernel
theorem dX5_cargo_22 : decode cX5_cargo 22 = .ok (.getfield 33, 3) := by decide +kernel
theorem dX5_cargo_25 : decode cX5_cargo 25 = .ok (.getfield 144, 3) := by decide +kernel
theorem dX5_cargo_28 : decode cX5_cargo 28 = .ok (.bipush 20, 2) := by decide +kernel
theorem dX5_cargo_30 : decode cX5_cargo 30 = .ok (.if_icmp .lt 6, 3) := by decide +kernel
theorem dX5_cargo_33 : decode cX5_cargo 33 = .ok (.bipush (-4), 2) := by decide +kernel
theorem dX5_cargo_35 : decode cX5_cargo 35 = .ok (.ireturn, 1) := by decide +kernel
theorem dX5_cargo_36 : decode cX5_cargo 36 = .ok (.aload_n 0, 1) := by decide +kernel
theorem dX5_cargo_37 : decode cX5_cargo 37 = .ok (.getfield 33, 3) := by decide +kernel
theorem dX5_cargo_40 : decode cX5_cargo 40 = .ok (.iload_n 1, 1) := by decide +kernel
theorem dX5_cargo_41 : decode cX5_cargo 41 = .ok (.iload_n 2, 1) := by decide +kernel
theorem dX5_cargo_42 : decode cX5_cargo 42 = .ok (.aload_n 0, 1) := by decide +kernel
theorem dX5_cargo_43 : decode cX5_cargo 43 = .ok (.getfield 48, 3) := by decide +kernel
theorem dX5_cargo_46 : decode cX5_cargo 46 = .ok (.invokevirtual 145, 3) := by decide +kernel
theorem dX5_cargo_49 : decode cX5_cargo 49 = .ok (.ireturn, 1) := by decide +kernel
set_option maxRecDepth 20000 in
theorem ggX5_spoil_X5_isOutside : GoodIn wsX5_spoil wsX5_isOutside := goodIn_r _ [5] (by decide +kernel) (by decide +kernel)
set_option maxRecDepth 20000 in
theorem gX5_spoil_X5_isOutside : GoodIn wsX5_spoil (va_wsS RX5 44 yX5_isOutside wsX5_isOutside) := goodIn_app (goodIn_of _ (by decide +kernel)) ggX5_spoil_X5_isOutside
theorem dX5_spoil_0 : decode cX5_spoil 0 = .ok (.iload_n 1, 1) := by decide +kernel
theorem dX5_spoil_1 : decode cX5_spoil 1 = .ok (.iconst 0, 1) := by decide +kernel
theorem dX5_spoil_2 : decode cX5_spoil 2 = .ok (.bipush 100, 2) := by decide +kernel
theorem dX5_spoil_4 : decode cX5_spoil 4 = .ok (.invokestatic 44, 3) := by decide +kernel
theorem dX5_spoil_7 : decode cX5_spoil 7 = .ok (.ifCond .eq 6, 3) := by decide +kernel
theorem dX5_spoil_10 : decode cX5_spoil 10 = .ok (.bipush (-2), 2) := by decide +kernel
theorem dX5_spoil_12 : decode cX5_spoil 12 = .ok (.ireturn, 1) := by decide +kernel
theorem dX5_spoil_13 : decode cX5_spoil 13 = .ok (.aload_n 0, 1) := by decide +kernel
theorem dX5_spoil_14 : decode cX5_spoil 14 = .ok (.getfield 52, 3) := by decide +kernel
theorem dX5_spoil_17 : decode cX5_spoil 17 = .ok (.istore_n 2, 1) := by decide +kernel
theorem dX5_spoil_18 : decode cX5_spoil 18 = .ok (.aload_n 0, 1) := by decide +kernel
theorem dX5_spoil_19 : decode cX5_spoil 19 = .ok (.iload_n 1, 1) := by decide +kernel
theorem dX5_spoil_20 : decode cX5_spoil 20 = .ok (.putfield 52, 3) := by decide +kernel
theorem dX5_spoil_23 : decode cX5_spoil 23 = .ok (.iload_n 2, 1) := by decide +kernel
theorem dX5_spoil_24 : decode cX5_spoil 24 = .ok (.ireturn, 1) := by decide +kernel
set_option maxRecDepth 20000 in
theorem ggX5_letOut_X0_has : GoodIn wsX5_letOut wsX0_has := goodIn_r _ [16, 17, 105, 106, 107, 108, 109, 110, 111] (by decide +kernel) (by decide +kernel)
set_option maxRecDepth 20000 in
theorem gX5_letOut_X0_has : GoodIn wsX5_letOut (wsV RX5 146 RX0 yX0_has wsX0_has) := goodIn_app (goodIn_of _ (by decide +kernel)) ggX5_letOut_X0_has
set_option maxRecDepth 20000 in
theorem ggX5_letOut_X5_isOutside : GoodIn wsX5_letOut wsX5_isOutside := goodIn_r _ [21] (by decide +kernel) (by decide +kernel)
set_option maxRecDepth 20000 in
theorem gX5_letOut_X5_isOutside : GoodIn wsX5_letOut (va_wsS RX5 44 yX5_isOutside wsX5_isOutside) := goodIn_app (goodIn_of _ (by decide +kernel)) ggX5_letOut_X5_isOutside
set_option maxRecDepth 20000 in
theorem ggX5_letOut_X5_dutyAt : GoodIn wsX5_letOut wsX5_dutyAt := goodIn_r _ [25, 26, 27, 28, 29, 30, 31, 32, 33, 34, 35, 36, 37, 38, 39, 40, 41, 42, 43, 44, 45, 46, 47, 48, 49, 50, 51, 52, 53, 54, 55, 56, 57, 58, 59, 60, 61, 62, 63, 64, 65, 66, 67, 68, 69, 70, 71, 72, 73, 74, 75, 76, 77, 78, 79, 80, 81, 82, 83, 84, 85, 86, 87, 97, 98, 99, 100, 101, 102, 103, 104, 116, 117, 118, 119, 120, 121, 122, 123, 124, 125, 126, 127, 128, 129, 130, 131, 132, 133] (by decide +kernel) (by decide +kernel)
set_option maxRecDepth 20000 in
theorem gX5_letOut_X5_dutyAt : GoodIn wsX5_letOut (wsV RX5 141 RX5 yX5_dutyAt wsX5_dutyAt) := goodIn_app (goodIn_of _ (by decide +kernel)) ggX5_letOut_X5_dutyAt
set_option maxRecDepth 20000 in
theorem ggX5_letOut_X2_add : GoodIn wsX5_letOut wsX2_add := goodIn_r _ [92, 93, 94, 95, 96, 112, 113, 114, 115] (by decide +kernel) (by decide +kernel)
set_option maxRecDepth 20000 in
theorem gX5_letOut_X2_add : GoodIn wsX5_letOut (wsV RX5 161 RX2 yX2_add wsX2_add) := goodIn_app (goodIn_of _ (by decide +kernel)) ggX5_letOut_X2_add
theorem dX5_letOut_0 : decode cX5_letOut 0 = .ok (.aload_n 0, 1) := by decide +kernel
theorem dX5_letOut_1 : decode cX5_letOut 1 = .ok (.getfield 33, 3) := by decide +kernel
theorem dX5_letOut_4 : decode cX5_letOut 4 = .ok (.iload_n 1, 1) := by decide +kernel
theorem dX5_letOut_5 : decode cX5_letOut 5 = .ok (.invokevirtual 146, 3) := by decide +kernel
theorem dX5_letOut_8 : decode cX5_letOut 8 = .ok (.ifCond .eq 14, 3) := by decide +kernel
theorem dX5_letOut_11 : decode cX5_letOut 11 = .ok (.iload_n 2, 1) := by decide +kernel
theorem dX5_letOut_12 : decode cX5_letOut 12 = .ok (.iconst 1, 1) := by decide +kernel
theorem dX5_letOut_13 : decode cX5_letOut 13 = .ok (.sipush 10000, 3) := by decide +kernel
theorem dX5_letOut_16 : decode cX5_letOut 16 = .ok (.invokestatic 44, 3) := by decide +kernel
theorem dX5_letOut_19 : decode cX5_letOut 19 = .ok (.ifCond .eq 7, 3) := by decide +kernel
theorem dX5_letOut_22 : decode cX5_letOut 22 = .ok (.ldc2_w 147, 3) := by decide +kernel
theorem dX5_letOut_25 : decode cX5_letOut 25 = .ok (.lreturn, 1) := by decide +kernel
theorem dX5_letOut_26 : decode cX5_letOut 26 = .ok (.iload_n 2, 1) := by decide +kernel
theorem dX5_letOut_27 : decode cX5_letOut 27 = .ok (.aload_n 0, 1) := by decide +kernel
theorem dX5_letOut_28 : decode cX5_letOut 28 = .ok (.getfield 33, 3) := by decide +kernel
theorem dX5_letOut_31 : decode cX5_letOut 31 = .ok (.getfield 149, 3) := by decide +kernel
theorem dX5_letOut_34 : decode cX5_letOut 34 = .ok (.iload_n 1, 1) := by decide +kernel
theorem dX5_letOut_35 : decode cX5_letOut 35 = .ok (.iaload, 1) := by decide +kernel
theorem dX5_letOut_36 : decode cX5_letOut 36 = .ok (.if_icmp .le 7, 3) := by decide +kernel
theorem dX5_letOut_39 : decode cX5_letOut 39 = .ok (.ldc2_w 152, 3) := by decide +kernel
theorem dX5_letOut_42 : decode cX5_letOut 42 = .ok (.lreturn, 1) := by decide +kernel
theorem dX5_letOut_43 : decode cX5_letOut 43 = .ok (.aload_n 0, 1) := by decide +kernel
theorem dX5_letOut_44 : decode cX5_letOut 44 = .ok (.getfield 40, 3) := by decide +kernel
theorem dX5_letOut_47 : decode cX5_letOut 47 = .ok (.getfield 154, 3) := by decide +kernel
theorem dX5_letOut_50 : decode cX5_letOut 50 = .ok (.bipush 100, 2) := by decide +kernel
theorem dX5_letOut_52 : decode cX5_letOut 52 = .ok (.if_icmp .lt 7, 3) := by decide +kernel
theorem dX5_letOut_55 : decode cX5_letOut 55 = .ok (.ldc2_w 155, 3) := by decide +kernel
theorem dX5_letOut_58 : decode cX5_letOut 58 = .ok (.lreturn, 1) := by decide +kernel
theorem dX5_letOut_59 : decode cX5_letOut 59 = .ok (.aload_n 0, 1) := by decide +kernel
theorem dX5_letOut_60 : decode cX5_letOut 60 = .ok (.getfield 33, 3) := by decide +kernel
theorem dX5_letOut_63 : decode cX5_letOut 63 = .ok (.getfield 157, 3) := by decide +kernel
theorem dX5_letOut_66 : decode cX5_letOut 66 = .ok (.iload_n 1, 1) := by decide +kernel
theorem dX5_letOut_67 : decode cX5_letOut 67 = .ok (.iaload, 1) := by decide +kernel
theorem dX5_letOut_68 : decode cX5_letOut 68 = .ok (.istore_n 3, 1) := by decide +kernel
theorem dX5_letOut_69 : decode cX5_letOut 69 = .ok (.iload_n 2, 1) := by decide +kernel
theorem dX5_letOut_70 : decode cX5_letOut 70 = .ok (.i2l, 1) := by decide +kernel
theorem dX5_letOut_71 : decode cX5_letOut 71 = .ok (.aload_n 0, 1) := by decide +kernel
theorem dX5_letOut_72 : decode cX5_letOut 72 = .ok (.iload_n 3, 1) := by decide +kernel
theorem dX5_letOut_73 : decode cX5_letOut 73 = .ok (.aload_n 0, 1) := by decide +kernel
theorem dX5_letOut_74 : decode cX5_letOut 74 = .ok (.getfield 48, 3) := by decide +kernel
theorem dX5_letOut_77 : decode cX5_letOut 77 = .ok (.iconst (-1), 1) := by decide +kernel
theorem dX5_letOut_78 : decode cX5_letOut 78 = .ok (.iconst (-1), 1) := by decide +kernel
theorem dX5_letOut_79 : decode cX5_letOut 79 = .ok (.invokevirtual 141, 3) := by decide +kernel
theorem dX5_letOut_82 : decode cX5_letOut 82 = .ok (.i2l, 1) := by decide +kernel
theorem dX5_letOut_83 : decode cX5_letOut 83 = .ok (.lmul, 1) := by decide +kernel
theorem dX5_letOut_84 : decode cX5_letOut 84 = .ok (.lstore 4, 2) := by decide +kernel
theorem dX5_letOut_86 : decode cX5_letOut 86 = .ok (.aload_n 0, 1) := by decide +kernel
theorem dX5_letOut_87 : decode cX5_letOut 87 = .ok (.getfield 33, 3) := by decide +kernel
theorem dX5_letOut_90 : decode cX5_letOut 90 = .ok (.getfield 149, 3) := by decide +kernel
theorem dX5_letOut_93 : decode cX5_letOut 93 = .ok (.iload_n 1, 1) := by decide +kernel
theorem dX5_letOut_94 : decode cX5_letOut 94 = .ok (.dup2, 1) := by decide +kernel
theorem dX5_letOut_95 : decode cX5_letOut 95 = .ok (.iaload, 1) := by decide +kernel
theorem dX5_letOut_96 : decode cX5_letOut 96 = .ok (.iload_n 2, 1) := by decide +kernel
theorem dX5_letOut_97 : decode cX5_letOut 97 = .ok (.isub, 1) := by decide +kernel
theorem dX5_letOut_98 : decode cX5_letOut 98 = .ok (.iastore, 1) := by decide +kernel
theorem dX5_letOut_99 : decode cX5_letOut 99 = .ok (.aload_n 0, 1) := by decide +kernel
theorem dX5_letOut_100 : decode cX5_letOut 100 = .ok (.getfield 33, 3) := by decide +kernel
theorem dX5_letOut_103 : decode cX5_letOut 103 = .ok (.getfield 158, 3) := by decide +kernel
theorem dX5_letOut_106 : decode cX5_letOut 106 = .ok (.iload_n 1, 1) := by decide +kernel
theorem dX5_letOut_107 : decode cX5_letOut 107 = .ok (.dup2, 1) := by decide +kernel
theorem dX5_letOut_108 : decode cX5_letOut 108 = .ok (.iaload, 1) := by decide +kernel
theorem dX5_letOut_109 : decode cX5_letOut 109 = .ok (.iload_n 2, 1) := by decide +kernel
theorem dX5_letOut_110 : decode cX5_letOut 110 = .ok (.iadd, 1) := by decide +kernel
theorem dX5_letOut_111 : decode cX5_letOut 111 = .ok (.iastore, 1) := by decide +kernel
theorem dX5_letOut_112 : decode cX5_letOut 112 = .ok (.aload_n 0, 1) := by decide +kernel
theorem dX5_letOut_113 : decode cX5_letOut 113 = .ok (.getfield 40, 3) := by decide +kernel
theorem dX5_letOut_116 : decode cX5_letOut 116 = .ok (.iload_n 3, 1) := by decide +kernel
theorem dX5_letOut_117 : decode cX5_letOut 117 = .ok (.iload_n 2, 1) := by decide +kernel
theorem dX5_letOut_118 : decode cX5_letOut 118 = .ok (.aload_n 0, 1) := by decide +kernel
theorem dX5_letOut_119 : decode cX5_letOut 119 = .ok (.getfield 48, 3) := by decide +kernel
theorem dX5_letOut_122 : decode cX5_letOut 122 = .ok (.invokevirtual 161, 3) := by decide +kernel
theorem dX5_letOut_125 : decode cX5_letOut 125 = .ok (.aload_n 0, 1) := by decide +kernel
theorem dX5_letOut_126 : decode cX5_letOut 126 = .ok (.dup, 1) := by decide +kernel
theorem dX5_letOut_127 : decode cX5_letOut 127 = .ok (.getfield 164, 3) := by decide +kernel
theorem dX5_letOut_130 : decode cX5_letOut 130 = .ok (.lload 4, 2) := by decide +kernel
theorem dX5_letOut_132 : decode cX5_letOut 132 = .ok (.ladd, 1) := by decide +kernel
theorem dX5_letOut_133 : decode cX5_letOut 133 = .ok (.putfield 164, 3) := by decide +kernel
theorem dX5_letOut_136 : decode cX5_letOut 136 = .ok (.lload 4, 2) := by decide +kernel
theorem dX5_letOut_138 : decode cX5_letOut 138 = .ok (.lreturn, 1) := by decide +kernel
set_option maxRecDepth 20000 in
theorem ggX5_ship_X0_has : GoodIn wsX5_ship wsX0_has := goodIn_r _ [8, 9, 22, 23, 24, 25, 26, 27, 28] (by decide +kernel) (by decide +kernel)
set_option maxRecDepth 20000 in
theorem gX5_ship_X0_has : GoodIn wsX5_ship (wsV RX5 146 RX0 yX0_has wsX0_has) := goodIn_app (goodIn_of _ (by decide +kernel)) ggX5_ship_X0_has
set_option maxRecDepth 20000 in
theorem ggX5_ship_X5_isOutside : GoodIn wsX5_ship wsX5_isOutside := goodIn_r _ [13] (by decide +kernel) (by decide +kernel)
set_option maxRecDepth 20000 in
theorem gX5_ship_X5_isOutside : GoodIn wsX5_ship (va_wsS RX5 44 yX5_isOutside wsX5_isOutside) := goodIn_app (goodIn_of _ (by decide +kernel)) ggX5_ship_X5_isOutside
theorem dX5_ship_0 : decode cX5_ship 0 = .ok (.aload_n 0, 1) := by decide +kernel
theorem dX5_ship_1 : decode cX5_ship 1 = .ok (.getfield 33, 3) := by decide +kernel
theorem dX5_ship_4 : decode cX5_ship 4 = .ok (.iload_n 1, 1) := by decide +kernel
theorem dX5_ship_5 : decode cX5_ship 5 = .ok (.invokevirtual 146, 3) := by decide +kernel
theorem dX5_ship_8 : decode cX5_ship 8 = .ok (.ifCond .eq 14, 3) := by decide +kernel
theorem dX5_ship_11 : decode cX5_ship 11 = .ok (.iload_n 2, 1) := by decide +kernel
theorem dX5_ship_12 : decode cX5_ship 12 = .ok (.iconst 1, 1) := by decide +kernel
theorem dX5_ship_13 : decode cX5_ship 13 = .ok (.sipush 10000, 3) := by decide +kernel
theorem dX5_ship_16 : decode cX5_ship 16 = .ok (.invokestatic 44, 3) := by decide +kernel
theorem dX5_ship_19 : decode cX5_ship 19 = .ok (.ifCond .eq 6, 3) := by decide +kernel
theorem dX5_ship_22 : decode cX5_ship 22 = .ok (.bipush (-2), 2) := by decide +kernel
theorem dX5_ship_24 : decode cX5_ship 24 = .ok (.ireturn, 1) := by decide +kernel
theorem dX5_ship_25 : decode cX5_ship 25 = .ok (.iload_n 2, 1) := by decide +kernel
theorem dX5_ship_26 : decode cX5_ship 26 = .ok (.aload_n 0, 1) := by decide +kernel
theorem dX5_ship_27 : decode cX5_ship 27 = .ok (.getfield 33, 3) := by decide +kernel
theorem dX5_ship_30 : decode cX5_ship 30 = .ok (.getfield 149, 3) := by decide +kernel
theorem dX5_ship_33 : decode cX5_ship 33 = .ok (.iload_n 1, 1) := by decide +kernel
theorem dX5_ship_34 : decode cX5_ship 34 = .ok (.iaload, 1) := by decide +kernel
theorem dX5_ship_35 : decode cX5_ship 35 = .ok (.if_icmp .le 6, 3) := by decide +kernel
theorem dX5_ship_38 : decode cX5_ship 38 = .ok (.bipush (-3), 2) := by decide +kernel
theorem dX5_ship_40 : decode cX5_ship 40 = .ok (.ireturn, 1) := by decide +kernel
theorem dX5_ship_41 : decode cX5_ship 41 = .ok (.aload_n 0, 1) := by decide +kernel
theorem dX5_ship_42 : decode cX5_ship 42 = .ok (.getfield 33, 3) := by decide +kernel
theorem dX5_ship_45 : decode cX5_ship 45 = .ok (.getfield 149, 3) := by decide +kernel
theorem dX5_ship_48 : decode cX5_ship 48 = .ok (.iload_n 1, 1) := by decide +kernel
theorem dX5_ship_49 : decode cX5_ship 49 = .ok (.dup2, 1) := by decide +kernel
theorem dX5_ship_50 : decode cX5_ship 50 = .ok (.iaload, 1) := by decide +kernel
theorem dX5_ship_51 : decode cX5_ship 51 = .ok (.iload_n 2, 1) := by decide +kernel
theorem dX5_ship_52 : decode cX5_ship 52 = .ok (.isub, 1) := by decide +kernel
theorem dX5_ship_53 : decode cX5_ship 53 = .ok (.iastore, 1) := by decide +kernel
theorem dX5_ship_54 : decode cX5_ship 54 = .ok (.aload_n 0, 1) := by decide +kernel
theorem dX5_ship_55 : decode cX5_ship 55 = .ok (.getfield 33, 3) := by decide +kernel
theorem dX5_ship_58 : decode cX5_ship 58 = .ok (.getfield 168, 3) := by decide +kernel
theorem dX5_ship_61 : decode cX5_ship 61 = .ok (.iload_n 1, 1) := by decide +kernel
theorem dX5_ship_62 : decode cX5_ship 62 = .ok (.dup2, 1) := by decide +kernel
theorem dX5_ship_63 : decode cX5_ship 63 = .ok (.iaload, 1) := by decide +kernel
theorem dX5_ship_64 : decode cX5_ship 64 = .ok (.iload_n 2, 1) := by decide +kernel
theorem dX5_ship_65 : decode cX5_ship 65 = .ok (.iadd, 1) := by decide +kernel
theorem dX5_ship_66 : decode cX5_ship 66 = .ok (.iastore, 1) := by decide +kernel
theorem dX5_ship_67 : decode cX5_ship 67 = .ok (.aload_n 0, 1) := by decide +kernel
theorem dX5_ship_68 : decode cX5_ship 68 = .ok (.getfield 33, 3) := by decide +kernel
theorem dX5_ship_71 : decode cX5_ship 71 = .ok (.getfield 149, 3) := by decide +kernel
theorem dX5_ship_74 : decode cX5_ship 74 = .ok (.iload_n 1, 1) := by decide +kernel
theorem dX5_ship_75 : decode cX5_ship 75 = .ok (.iaload, 1) := by decide +kernel
theorem dX5_ship_76 : decode cX5_ship 76 = .ok (.ireturn, 1) := by decide +kernel
set_option maxRecDepth 20000 in
theorem ggX5_bond_X0_has : GoodIn wsX5_bond wsX0_has := goodIn_r _ [12, 13, 22, 23, 24, 25, 26, 27, 28] (by decide +kernel) (by decide +kernel)
set_option maxRecDepth 20000 in
theorem gX5_bond_X0_has : GoodIn wsX5_bond (wsV RX5 146 RX0 yX0_has wsX0_has) := goodIn_app (goodIn_of _ (by decide +kernel)) ggX5_bond_X0_has
theorem dX5_bond_0 : decode cX5_bond 0 = .ok (.aload_n 0, 1) := by decide +kernel
theorem dX5_bond_1 : decode cX5_bond 1 = .ok (.getfield 33, 3) := by decide +kernel
theorem dX5_bond_4 : decode cX5_bond 4 = .ok (.iload_n 1, 1) := by decide +kernel
theorem dX5_bond_5 : decode cX5_bond 5 = .ok (.invokevirtual 146, 3) := by decide +kernel
theorem dX5_bond_8 : decode cX5_bond 8 = .ok (.ifCond .ne 6, 3) := by decide +kernel
theorem dX5_bond_11 : decode cX5_bond 11 = .ok (.bipush (-2), 2) := by decide +kernel
theorem dX5_bond_13 : decode cX5_bond 13 = .ok (.ireturn, 1) := by decide +kernel
theorem dX5_bond_14 : decode cX5_bond 14 = .ok (.iload_n 2, 1) := by decide +kernel
theorem dX5_bond_15 : decode cX5_bond 15 = .ok (.tableswitch 97 0 5 #[37, 47, 57, 67, 77, 87], 37) := by decide +kernel
theorem dX5_bond_52 : decode cX5_bond 52 = .ok (.aload_n 0, 1) := by decide +kernel
theorem dX5_bond_53 : decode cX5_bond 53 = .ok (.getfield 33, 3) := by decide +kernel
theorem dX5_bond_56 : decode cX5_bond 56 = .ok (.getfield 157, 3) := by decide +kernel
theorem dX5_bond_59 : decode cX5_bond 59 = .ok (.iload_n 1, 1) := by decide +kernel
theorem dX5_bond_60 : decode cX5_bond 60 = .ok (.iaload, 1) := by decide +kernel
theorem dX5_bond_61 : decode cX5_bond 61 = .ok (.ireturn, 1) := by decide +kernel
theorem dX5_bond_62 : decode cX5_bond 62 = .ok (.aload_n 0, 1) := by decide +kernel
theorem dX5_bond_63 : decode cX5_bond 63 = .ok (.getfield 33, 3) := by decide +kernel
theorem dX5_bond_66 : decode cX5_bond 66 = .ok (.getfield 149, 3) := by decide +kernel
theorem dX5_bond_69 : decode cX5_bond 69 = .ok (.iload_n 1, 1) := by decide +kernel
theorem dX5_bond_70 : decode cX5_bond 70 = .ok (.iaload, 1) := by decide +kernel
theorem dX5_bond_71 : decode cX5_bond 71 = .ok (.ireturn, 1) := by decide +kernel
theorem dX5_bond_72 : decode cX5_bond 72 = .ok (.aload_n 0, 1) := by decide +kernel
theorem dX5_bond_73 : decode cX5_bond 73 = .ok (.getfield 33, 3) := by decide +kernel
theorem dX5_bond_76 : decode cX5_bond 76 = .ok (.getfield 158, 3) := by decide +kernel
theorem dX5_bond_79 : decode cX5_bond 79 = .ok (.iload_n 1, 1) := by decide +kernel
theorem dX5_bond_80 : decode cX5_bond 80 = .ok (.iaload, 1) := by decide +kernel
theorem dX5_bond_81 : decode cX5_bond 81 = .ok (.ireturn, 1) := by decide +kernel
theorem dX5_bond_82 : decode cX5_bond 82 = .ok (.aload_n 0, 1) := by decide +kernel
theorem dX5_bond_83 : decode cX5_bond 83 = .ok (.getfield 33, 3) := by decide +kernel
theorem dX5_bond_86 : decode cX5_bond 86 = .ok (.getfield 168, 3) := by decide +kernel
theorem dX5_bond_89 : decode cX5_bond 89 = .ok (.iload_n 1, 1) := by decide +kernel
theorem dX5_bond_90 : decode cX5_bond 90 = .ok (.iaload, 1) := by decide +kernel
theorem dX5_bond_91 : decode cX5_bond 91 = .ok (.ireturn, 1) := by decide +kernel
theorem dX5_bond_92 : decode cX5_bond 92 = .ok (.aload_n 0, 1) := by decide +kernel
theorem dX5_bond_93 : decode cX5_bond 93 = .ok (.getfield 33, 3) := by decide +kernel
theorem dX5_bond_96 : decode cX5_bond 96 = .ok (.getfield 171, 3) := by decide +kernel
theorem dX5_bond_99 : decode cX5_bond 99 = .ok (.iload_n 1, 1) := by decide +kernel
theorem dX5_bond_100 : decode cX5_bond 100 = .ok (.iaload, 1) := by decide +kernel
theorem dX5_bond_101 : decode cX5_bond 101 = .ok (.ireturn, 1) := by decide +kernel
theorem dX5_bond_102 : decode cX5_bond 102 = .ok (.aload_n 0, 1) := by decide +kernel
theorem dX5_bond_103 : decode cX5_bond 103 = .ok (.getfield 33, 3) := by decide +kernel
theorem dX5_bond_106 : decode cX5_bond 106 = .ok (.getfield 174, 3) := by decide +kernel
theorem dX5_bond_109 : decode cX5_bond 109 = .ok (.iload_n 1, 1) := by decide +kernel
theorem dX5_bond_110 : decode cX5_bond 110 = .ok (.iaload, 1) := by decide +kernel
theorem dX5_bond_111 : decode cX5_bond 111 = .ok (.ireturn, 1) := by decide +kernel
theorem dX5_bond_112 : decode cX5_bond 112 = .ok (.bipush (-2), 2) := by decide +kernel
theorem dX5_bond_114 : decode cX5_bond 114 = .ok (.ireturn, 1) := by decide +kernel
theorem dX5_chest_0 : decode cX5_chest 0 = .ok (.aload_n 0, 1) := by decide +kernel
theorem dX5_chest_1 : decode cX5_chest 1 = .ok (.getfield 164, 3) := by decide +kernel
theorem dX5_chest_4 : decode cX5_chest 4 = .ok (.lreturn, 1) := by decide +kernel
set_option maxRecDepth 20000 in
theorem ggX5_worth_X3_has : GoodIn wsX5_worth wsX3_has := goodIn_r _ [8, 9, 91, 92, 93, 94, 95, 96, 97, 98] (by decide +kernel) (by decide +kernel)
set_option maxRecDepth 20000 in
theorem gX5_worth_X3_has : GoodIn wsX5_worth (wsV RX5 70 RX3 yX3_has wsX3_has) := goodIn_app (goodIn_of _ (by decide +kernel)) ggX5_worth_X3_has
set_option maxRecDepth 20000 in
theorem ggX5_worth_X5_chestAnew : GoodIn wsX5_worth wsX5_chestAnew := goodIn_r _ [14, 15, 16, 17, 18, 19, 20, 21, 22, 13, 23, 24, 25, 1, 26, 27, 28, 29, 30, 31, 32, 33, 34, 35, 36, 37, 38, 39, 40, 41, 42, 43, 44, 45, 46, 47, 48, 49, 50, 51, 52, 53, 54, 55, 56, 7, 57, 58, 59, 60, 61, 9, 62, 63, 64, 65, 66, 67, 68, 69, 70, 71, 72, 73, 74, 75, 76, 77, 78, 79, 80, 81, 82, 83, 84, 85, 86, 87, 88, 89, 90, 99, 100, 101, 102, 103, 104, 105, 106, 107, 108, 109, 110, 111, 112, 91, 92, 93, 94, 95, 96, 97, 98] (by decide +kernel) (by decide +kernel)
set_option maxRecDepth 20000 in
theorem gX5_worth_X5_chestAnew : GoodIn wsX5_worth (wsV RX5 179 RX5 yX5_chestAnew wsX5_chestAnew) := goodIn_app (goodIn_of _ (by decide +kernel)) ggX5_worth_X5_chestAnew
theorem dX5_worth_0 : decode cX5_worth 0 = .ok (.aload_n 0, 1) := by decide +kernel
theorem dX5_worth_1 : decode cX5_worth 1 = .ok (.getfield 12, 3) := by decide +kernel
theorem dX5_worth_4 : decode cX5_worth 4 = .ok (.iload_n 1, 1) := by decide +kernel
theorem dX5_worth_5 : decode cX5_worth 5 = .ok (.invokevirtual 70, 3) := by decide +kernel
theorem dX5_worth_8 : decode cX5_worth 8 = .ok (.ifCond .ne 7, 3) := by decide +kernel
theorem dX5_worth_11 : decode cX5_worth 11 = .ok (.ldc2_w 177, 3) := by decide +kernel
theorem dX5_worth_14 : decode cX5_worth 14 = .ok (.lreturn, 1) := by decide +kernel
theorem dX5_worth_15 : decode cX5_worth 15 = .ok (.aload_n 0, 1) := by decide +kernel
theorem dX5_worth_16 : decode cX5_worth 16 = .ok (.iload_n 1, 1) := by decide +kernel
theorem dX5_worth_17 : decode cX5_worth 17 = .ok (.iconst (-1), 1) := by decide +kernel
theorem dX5_worth_18 : decode cX5_worth 18 = .ok (.invokevirtual 179, 3) := by decide +kernel
theorem dX5_worth_21 : decode cX5_worth 21 = .ok (.aload_n 0, 1) := by decide +kernel
theorem dX5_worth_22 : decode cX5_worth 22 = .ok (.getfield 164, 3) := by decide +kernel
theorem dX5_worth_25 : decode cX5_worth 25 = .ok (.lsub, 1) := by decide +kernel
theorem dX5_worth_26 : decode cX5_worth 26 = .ok (.lreturn, 1) := by decide +kernel
set_option maxRecDepth 20000 in
theorem ggX5_other_X4_has : GoodIn wsX5_other wsX4_has := goodIn_r _ [7, 8, 87, 88, 89, 90, 91, 92, 93] (by decide +kernel) (by decide +kernel)
set_option maxRecDepth 20000 in
theorem gX5_other_X4_has : GoodIn wsX5_other (wsV RX5 110 RX4 yX4_has wsX4_has) := goodIn_app (goodIn_of _ (by decide +kernel)) ggX5_other_X4_has
set_option maxRecDepth 20000 in
theorem ggX5_other_X5_chestAnew : GoodIn wsX5_other wsX5_chestAnew := goodIn_r _ [13, 14, 15, 16, 17, 18, 19, 20, 21, 12, 22, 23, 1, 24, 25, 26, 27, 28, 29, 30, 31, 32, 33, 34, 35, 36, 37, 38, 6, 39, 40, 41, 4, 5, 7, 8, 42, 43, 44, 45, 46, 47, 48, 49, 50, 51, 52, 53, 54, 55, 56, 57, 58, 59, 60, 61, 62, 63, 64, 65, 66, 67, 68, 69, 70, 71, 72, 73, 74, 75, 76, 77, 78, 79, 80, 81, 82, 83, 84, 85, 86, 94, 95, 96, 97, 98, 99, 100, 87, 88, 89, 90, 91, 92, 93, 101, 102, 103, 104, 105, 106, 107, 108] (by decide +kernel) (by decide +kernel)
set_option maxRecDepth 20000 in
theorem gX5_other_X5_chestAnew : GoodIn wsX5_other (wsV RX5 179 RX5 yX5_chestAnew wsX5_chestAnew) := goodIn_app (goodIn_of _ (by decide +kernel)) ggX5_other_X5_chestAnew
theorem dX5_other_0 : decode cX5_other 0 = .ok (.aload_n 0, 1) := by decide +kernel
theorem dX5_other_1 : decode cX5_other 1 = .ok (.getfield 19, 3) := by decide +kernel
theorem dX5_other_4 : decode cX5_other 4 = .ok (.iload_n 1, 1) := by decide +kernel
theorem dX5_other_5 : decode cX5_other 5 = .ok (.invokevirtual 110, 3) := by decide +kernel
theorem dX5_other_8 : decode cX5_other 8 = .ok (.ifCond .ne 7, 3) := by decide +kernel
theorem dX5_other_11 : decode cX5_other 11 = .ok (.ldc2_w 147, 3) := by decide +kernel
theorem dX5_other_14 : decode cX5_other 14 = .ok (.lreturn, 1) := by decide +kernel
theorem dX5_other_15 : decode cX5_other 15 = .ok (.aload_n 0, 1) := by decide +kernel
theorem dX5_other_16 : decode cX5_other 16 = .ok (.iconst (-1), 1) := by decide +kernel
theorem dX5_other_17 : decode cX5_other 17 = .ok (.iload_n 1, 1) := by decide +kernel
theorem dX5_other_18 : decode cX5_other 18 = .ok (.invokevirtual 179, 3) := by decide +kernel
theorem dX5_other_21 : decode cX5_other 21 = .ok (.lreturn, 1) := by decide +kernel
set_option maxRecDepth 20000 in
theorem ggX5_gain_X0_has : GoodIn wsX5_gain wsX0_has := goodIn_r _ [8, 9, 102, 103, 104, 105, 106, 107, 108] (by decide +kernel) (by decide +kernel)
set_option maxRecDepth 20000 in
theorem gX5_gain_X0_has : GoodIn wsX5_gain (wsV RX5 146 RX0 yX0_has wsX0_has) := goodIn_app (goodIn_of _ (by decide +kernel)) ggX5_gain_X0_has
set_option maxRecDepth 20000 in
theorem ggX5_gain_X5_isOutside : GoodIn wsX5_gain wsX5_isOutside := goodIn_r _ [13] (by decide +kernel) (by decide +kernel)
set_option maxRecDepth 20000 in
theorem gX5_gain_X5_isOutside : GoodIn wsX5_gain (va_wsS RX5 44 yX5_isOutside wsX5_isOutside) := goodIn_app (goodIn_of _ (by decide +kernel)) ggX5_gain_X5_isOutside
set_option maxRecDepth 20000 in
theorem ggX5_gain_X5_gainAt : GoodIn wsX5_gain wsX5_gainAt := goodIn_r _ [17, 1, 18, 2, 19, 20, 21, 22, 12, 23, 24, 25, 26, 27, 28, 29, 30, 31, 32, 33, 34, 35, 36, 37, 38, 39, 40, 41, 42, 43, 44, 45, 46, 47, 48, 49, 50, 51, 52, 53, 54, 55, 56, 57, 58, 59, 60, 61, 62, 63, 64, 65, 66, 67, 68, 69, 70, 71, 72, 73, 74, 75, 76, 77, 78, 79, 80, 81, 82, 83, 84, 85, 86, 87, 88, 7, 89, 90, 91, 92, 93, 94, 95, 96, 97, 98, 99, 100, 101, 102, 103, 104, 105, 106, 107, 108, 109, 110, 111, 112, 113, 114, 115, 116, 117, 118, 119, 120, 121, 122, 123, 124, 125, 126] (by decide +kernel) (by decide +kernel)
set_option maxRecDepth 20000 in
theorem gX5_gain_X5_gainAt : GoodIn wsX5_gain (wsV RX5 183 RX5 yX5_gainAt wsX5_gainAt) := goodIn_app (goodIn_of _ (by decide +kernel)) ggX5_gain_X5_gainAt
theorem dX5_gain_0 : decode cX5_gain 0 = .ok (.aload_n 0, 1) := by decide +kernel
theorem dX5_gain_1 : decode cX5_gain 1 = .ok (.getfield 33, 3) := by decide +kernel
theorem dX5_gain_4 : decode cX5_gain 4 = .ok (.iload_n 1, 1) := by decide +kernel
theorem dX5_gain_5 : decode cX5_gain 5 = .ok (.invokevirtual 146, 3) := by decide +kernel
theorem dX5_gain_8 : decode cX5_gain 8 = .ok (.ifCond .eq 32, 3) := by decide +kernel
theorem dX5_gain_11 : decode cX5_gain 11 = .ok (.iload_n 2, 1) := by decide +kernel
theorem dX5_gain_12 : decode cX5_gain 12 = .ok (.aload_n 0, 1) := by decide +kernel
theorem dX5_gain_13 : decode cX5_gain 13 = .ok (.getfield 48, 3) := by decide +kernel
theorem dX5_gain_16 : decode cX5_gain 16 = .ok (.aload_n 0, 1) := by decide +kernel
theorem dX5_gain_17 : decode cX5_gain 17 = .ok (.getfield 48, 3) := by decide +kernel
theorem dX5_gain_20 : decode cX5_gain 20 = .ok (.bipush 20, 2) := by decide +kernel
theorem dX5_gain_22 : decode cX5_gain 22 = .ok (.iadd, 1) := by decide +kernel
theorem dX5_gain_23 : decode cX5_gain 23 = .ok (.invokestatic 44, 3) := by decide +kernel
theorem dX5_gain_26 : decode cX5_gain 26 = .ok (.ifCond .ne 14, 3) := by decide +kernel
theorem dX5_gain_29 : decode cX5_gain 29 = .ok (.iload_n 3, 1) := by decide +kernel
theorem dX5_gain_30 : decode cX5_gain 30 = .ok (.iconst 0, 1) := by decide +kernel
theorem dX5_gain_31 : decode cX5_gain 31 = .ok (.sipush 2000, 3) := by decide +kernel
theorem dX5_gain_34 : decode cX5_gain 34 = .ok (.invokestatic 44, 3) := by decide +kernel
theorem dX5_gain_37 : decode cX5_gain 37 = .ok (.ifCond .eq 7, 3) := by decide +kernel
theorem dX5_gain_40 : decode cX5_gain 40 = .ok (.ldc2_w 177, 3) := by decide +kernel
theorem dX5_gain_43 : decode cX5_gain 43 = .ok (.lreturn, 1) := by decide +kernel
theorem dX5_gain_44 : decode cX5_gain 44 = .ok (.aload_n 0, 1) := by decide +kernel
theorem dX5_gain_45 : decode cX5_gain 45 = .ok (.iload_n 1, 1) := by decide +kernel
theorem dX5_gain_46 : decode cX5_gain 46 = .ok (.iload_n 2, 1) := by decide +kernel
theorem dX5_gain_47 : decode cX5_gain 47 = .ok (.iload_n 3, 1) := by decide +kernel
theorem dX5_gain_48 : decode cX5_gain 48 = .ok (.invokevirtual 183, 3) := by decide +kernel
theorem dX5_gain_51 : decode cX5_gain 51 = .ok (.lreturn, 1) := by decide +kernel
set_option maxRecDepth 20000 in
theorem ggX5_best_X0_has : GoodIn wsX5_best wsX0_has := goodIn_r _ [7, 8, 101, 102, 103, 104, 105, 106, 107] (by decide +kernel) (by decide +kernel)
set_option maxRecDepth 20000 in
theorem gX5_best_X0_has : GoodIn wsX5_best (wsV RX5 146 RX0 yX0_has wsX0_has) := goodIn_app (goodIn_of _ (by decide +kernel)) ggX5_best_X0_has
set_option maxRecDepth 20000 in
theorem ggX5_best_X5_isOutside : GoodIn wsX5_best wsX5_isOutside := goodIn_r _ [12] (by decide +kernel) (by decide +kernel)
set_option maxRecDepth 20000 in
theorem gX5_best_X5_isOutside : GoodIn wsX5_best (va_wsS RX5 44 yX5_isOutside wsX5_isOutside) := goodIn_app (goodIn_of _ (by decide +kernel)) ggX5_best_X5_isOutside
set_option maxRecDepth 20000 in
theorem ggX5_best_X5_gainAt : GoodIn wsX5_best wsX5_gainAt := goodIn_r _ [16, 1, 17, 2, 18, 19, 20, 21, 11, 22, 23, 24, 25, 26, 27, 28, 29, 30, 31, 32, 33, 34, 35, 36, 37, 38, 39, 40, 41, 42, 43, 44, 45, 46, 47, 48, 49, 50, 51, 52, 53, 54, 55, 56, 57, 58, 59, 60, 61, 62, 63, 64, 65, 66, 67, 68, 69, 70, 71, 72, 73, 74, 75, 76, 77, 78, 79, 80, 81, 82, 83, 84, 85, 86, 87, 6, 88, 89, 90, 91, 92, 93, 94, 95, 96, 97, 98, 99, 100, 101, 102, 103, 104, 105, 106, 107, 108, 109, 110, 111, 112, 113, 114, 115, 116, 117, 118, 119, 120, 121, 122, 123, 124, 125] (by decide +kernel) (by decide +kernel)
set_option maxRecDepth 20000 in
theorem gX5_best_X5_gainAt : GoodIn wsX5_best (wsV RX5 183 RX5 yX5_gainAt wsX5_gainAt) := goodIn_app (goodIn_of _ (by decide +kernel)) ggX5_best_X5_gainAt
theorem dX5_best_0 : decode cX5_best 0 = .ok (.aload_n 0, 1) := by decide +kernel
theorem dX5_best_1 : decode cX5_best 1 = .ok (.getfield 33, 3) := by decide +kernel
theorem dX5_best_4 : decode cX5_best 4 = .ok (.iload_n 1, 1) := by decide +kernel
theorem dX5_best_5 : decode cX5_best 5 = .ok (.invokevirtual 146, 3) := by decide +kernel
theorem dX5_best_8 : decode cX5_best 8 = .ok (.ifCond .eq 24, 3) := by decide +kernel
theorem dX5_best_11 : decode cX5_best 11 = .ok (.iload_n 2, 1) := by decide +kernel
theorem dX5_best_12 : decode cX5_best 12 = .ok (.iconst 0, 1) := by decide +kernel
theorem dX5_best_13 : decode cX5_best 13 = .ok (.bipush 20, 2) := by decide +kernel
theorem dX5_best_15 : decode cX5_best 15 = .ok (.invokestatic 44, 3) := by decide +kernel
theorem dX5_best_18 : decode cX5_best 18 = .ok (.ifCond .ne 14, 3) := by decide +kernel
theorem dX5_best_21 : decode cX5_best 21 = .ok (.iload_n 3, 1) := by decide +kernel
theorem dX5_best_22 : decode cX5_best 22 = .ok (.iconst 0, 1) := by decide +kernel
theorem dX5_best_23 : decode cX5_best 23 = .ok (.sipush 2000, 3) := by decide +kernel
theorem dX5_best_26 : decode cX5_best 26 = .ok (.invokestatic 44, 3) := by decide +kernel
theorem dX5_best_29 : decode cX5_best 29 = .ok (.ifCond .eq 6, 3) := by decide +kernel
theorem dX5_best_32 : decode cX5_best 32 = .ok (.bipush (-2), 2) := by decide +kernel
theorem dX5_best_34 : decode cX5_best 34 = .ok (.ireturn, 1) := by decide +kernel
theorem dX5_best_35 : decode cX5_best 35 = .ok (.aload_n 0, 1) := by decide +kernel
theorem dX5_best_36 : decode cX5_best 36 = .ok (.getfield 48, 3) := by decide +kernel
theorem dX5_best_39 : decode cX5_best 39 = .ok (.istore 4, 2) := by decide +kernel
theorem dX5_best_41 : decode cX5_best 41 = .ok (.aload_n 0, 1) := by decide +kernel
theorem dX5_best_42 : decode cX5_best 42 = .ok (.iload_n 1, 1) := by decide +kernel
theorem dX5_best_43 : decode cX5_best 43 = .ok (.aload_n 0, 1) := by decide +kernel
theorem dX5_best_44 : decode cX5_best 44 = .ok (.getfield 48, 3) := by decide +kernel
theorem dX5_best_47 : decode cX5_best 47 = .ok (.iload_n 3, 1) := by decide +kernel
theorem dX5_best_48 : decode cX5_best 48 = .ok (.invokevirtual 183, 3) := by decide +kernel
theorem dX5_best_51 : decode cX5_best 51 = .ok (.lstore 5, 2) := by decide +kernel
theorem dX5_best_53 : decode cX5_best 53 = .ok (.aload_n 0, 1) := by decide +kernel
theorem dX5_best_54 : decode cX5_best 54 = .ok (.getfield 48, 3) := by decide +kernel
theorem dX5_best_57 : decode cX5_best 57 = .ok (.iconst 1, 1) := by decide +kernel
theorem dX5_best_58 : decode cX5_best 58 = .ok (.iadd, 1) := by decide +kernel
theorem dX5_best_59 : decode cX5_best 59 = .ok (.istore 7, 2) := by decide +kernel
theorem dX5_best_61 : decode cX5_best 61 = .ok (.iload 7, 2) := by decide +kernel
theorem dX5_best_63 : decode cX5_best 63 = .ok (.aload_n 0, 1) := by decide +kernel
theorem dX5_best_64 : decode cX5_best 64 = .ok (.getfield 48, 3) := by decide +kernel
theorem dX5_best_67 : decode cX5_best 67 = .ok (.iload_n 2, 1) := by decide +kernel
theorem dX5_best_68 : decode cX5_best 68 = .ok (.iadd, 1) := by decide +kernel
theorem dX5_best_69 : decode cX5_best 69 = .ok (.if_icmp .gt 35, 3) := by decide +kernel
theorem dX5_best_72 : decode cX5_best 72 = .ok (.aload_n 0, 1) := by decide +kernel
theorem dX5_best_73 : decode cX5_best 73 = .ok (.iload_n 1, 1) := by decide +kernel
theorem dX5_best_74 : decode cX5_best 74 = .ok (.iload 7, 2) := by decide +kernel
theorem dX5_best_76 : decode cX5_best 76 = .ok (.iload_n 3, 1) := by decide +kernel
theorem dX5_best_77 : decode cX5_best 77 = .ok (.invokevirtual 183, 3) := by decide +kernel
theorem dX5_best_80 : decode cX5_best 80 = .ok (.lstore 8, 2) := by decide +kernel
theorem dX5_best_82 : decode cX5_best 82 = .ok (.lload 8, 2) := by decide +kernel
theorem dX5_best_84 : decode cX5_best 84 = .ok (.lload 5, 2) := by decide +kernel
theorem dX5_best_86 : decode cX5_best 86 = .ok (.lcmp, 1) := by decide +kernel
theorem dX5_best_87 : decode cX5_best 87 = .ok (.ifCond .le 11, 3) := by decide +kernel
theorem dX5_best_90 : decode cX5_best 90 = .ok (.lload 8, 2) := by decide +kernel
theorem dX5_best_92 : decode cX5_best 92 = .ok (.lstore 5, 2) := by decide +kernel
theorem dX5_best_94 : decode cX5_best 94 = .ok (.iload 7, 2) := by decide +kernel
theorem dX5_best_96 : decode cX5_best 96 = .ok (.istore 4, 2) := by decide +kernel
theorem dX5_best_98 : decode cX5_best 98 = .ok (.iinc 7 1, 3) := by decide +kernel
theorem dX5_best_101 : decode cX5_best 101 = .ok (.goto (-40), 3) := by decide +kernel
theorem dX5_best_104 : decode cX5_best 104 = .ok (.iload 4, 2) := by decide +kernel
theorem dX5_best_106 : decode cX5_best 106 = .ok (.ireturn, 1) := by decide +kernel
set_option maxRecDepth 20000 in
theorem ggX5_count_X3_struckOnes : GoodIn wsX5_count wsX3_struckOnes := goodIn_r _ [14, 15, 16, 25, 26, 27, 28, 29, 30, 31, 32] (by decide +kernel) (by decide +kernel)
set_option maxRecDepth 20000 in
theorem gX5_count_X3_struckOnes : GoodIn wsX5_count (wsV RX5 187 RX3 yX3_struckOnes wsX3_struckOnes) := goodIn_app (goodIn_of _ (by decide +kernel)) ggX5_count_X3_struckOnes
theorem dX5_count_0 : decode cX5_count 0 = .ok (.iload_n 1, 1) := by decide +kernel
theorem dX5_count_1 : decode cX5_count 1 = .ok (.tableswitch 84 0 5 #[39, 44, 52, 60, 68, 76], 39) := by decide +kernel
theorem dX5_count_40 : decode cX5_count 40 = .ok (.aload_n 0, 1) := by decide +kernel
theorem dX5_count_41 : decode cX5_count 41 = .ok (.getfield 48, 3) := by decide +kernel
theorem dX5_count_44 : decode cX5_count 44 = .ok (.ireturn, 1) := by decide +kernel
theorem dX5_count_45 : decode cX5_count 45 = .ok (.aload_n 0, 1) := by decide +kernel
theorem dX5_count_46 : decode cX5_count 46 = .ok (.getfield 12, 3) := by decide +kernel
theorem dX5_count_49 : decode cX5_count 49 = .ok (.getfield 63, 3) := by decide +kernel
theorem dX5_count_52 : decode cX5_count 52 = .ok (.ireturn, 1) := by decide +kernel
theorem dX5_count_53 : decode cX5_count 53 = .ok (.aload_n 0, 1) := by decide +kernel
theorem dX5_count_54 : decode cX5_count 54 = .ok (.getfield 12, 3) := by decide +kernel
theorem dX5_count_57 : decode cX5_count 57 = .ok (.invokevirtual 187, 3) := by decide +kernel
theorem dX5_count_60 : decode cX5_count 60 = .ok (.ireturn, 1) := by decide +kernel
theorem dX5_count_61 : decode cX5_count 61 = .ok (.aload_n 0, 1) := by decide +kernel
theorem dX5_count_62 : decode cX5_count 62 = .ok (.getfield 19, 3) := by decide +kernel
theorem dX5_count_65 : decode cX5_count 65 = .ok (.getfield 107, 3) := by decide +kernel
theorem dX5_count_68 : decode cX5_count 68 = .ok (.ireturn, 1) := by decide +kernel
theorem dX5_count_69 : decode cX5_count 69 = .ok (.aload_n 0, 1) := by decide +kernel
theorem dX5_count_70 : decode cX5_count 70 = .ok (.getfield 33, 3) := by decide +kernel
theorem dX5_count_73 : decode cX5_count 73 = .ok (.getfield 144, 3) := by decide +kernel
theorem dX5_count_76 : decode cX5_count 76 = .ok (.ireturn, 1) := by decide +kernel
theorem dX5_count_77 : decode cX5_count 77 = .ok (.aload_n 0, 1) := by decide +kernel
theorem dX5_count_78 : decode cX5_count 78 = .ok (.getfield 40, 3) := by decide +kernel
theorem dX5_count_81 : decode cX5_count 81 = .ok (.getfield 154, 3) := by decide +kernel
theorem dX5_count_84 : decode cX5_count 84 = .ok (.ireturn, 1) := by decide +kernel
theorem dX5_count_85 : decode cX5_count 85 = .ok (.bipush (-2), 2) := by decide +kernel
theorem dX5_count_87 : decode cX5_count 87 = .ok (.ireturn, 1) := by decide +kernel
theorem dX5_isOutside_0 : decode cX5_isOutside 0 = .ok (.iload_n 0, 1) := by decide +kernel
theorem dX5_isOutside_1 : decode cX5_isOutside 1 = .ok (.iload_n 1, 1) := by decide +kernel
theorem dX5_isOutside_2 : decode cX5_isOutside 2 = .ok (.if_icmp .lt 8, 3) := by decide +kernel
theorem dX5_isOutside_5 : decode cX5_isOutside 5 = .ok (.iload_n 0, 1) := by decide +kernel
theorem dX5_isOutside_6 : decode cX5_isOutside 6 = .ok (.iload_n 2, 1) := by decide +kernel
theorem dX5_isOutside_7 : decode cX5_isOutside 7 = .ok (.if_icmp .le 7, 3) := by decide +kernel
theorem dX5_isOutside_10 : decode cX5_isOutside 10 = .ok (.iconst 1, 1) := by decide +kernel
theorem dX5_isOutside_11 : decode cX5_isOutside 11 = .ok (.goto 4, 3) := by decide +kernel
theorem dX5_isOutside_14 : decode cX5_isOutside 14 = .ok (.iconst 0, 1) := by decide +kernel
theorem dX5_isOutside_15 : decode cX5_isOutside 15 = .ok (.ireturn, 1) := by decide +kernel
set_option maxRecDepth 20000 in
theorem ggX5_isNoGrain_X5_isOutside : GoodIn wsX5_isNoGrain wsX5_isOutside := goodIn_r _ [4] (by decide +kernel) (by decide +kernel)
set_option maxRecDepth 20000 in
theorem gX5_isNoGrain_X5_isOutside : GoodIn wsX5_isNoGrain (va_wsS RX5 44 yX5_isOutside wsX5_isOutside) := goodIn_app (goodIn_of _ (by decide +kernel)) ggX5_isNoGrain_X5_isOutside
theorem dX5_isNoGrain_0 : decode cX5_isNoGrain 0 = .ok (.iload_n 0, 1) := by decide +kernel
theorem dX5_isNoGrain_1 : decode cX5_isNoGrain 1 = .ok (.iconst 0, 1) := by decide +kernel
theorem dX5_isNoGrain_2 : decode cX5_isNoGrain 2 = .ok (.iconst 2, 1) := by decide +kernel
theorem dX5_isNoGrain_3 : decode cX5_isNoGrain 3 = .ok (.invokestatic 44, 3) := by decide +kernel
theorem dX5_isNoGrain_6 : decode cX5_isNoGrain 6 = .ok (.ireturn, 1) := by decide +kernel
set_option maxRecDepth 20000 in
theorem ggX5_dutyAt_X1_rulingOver : GoodIn wsX5_dutyAt wsX1_rulingOver := goodIn_r _ [8, 9, 10, 11, 12, 7, 13, 14, 71, 72, 73] (by decide +kernel) (by decide +kernel)
set_option maxRecDepth 20000 in
theorem gX5_dutyAt_X1_rulingOver : GoodIn wsX5_dutyAt (wsV RX5 191 RX1 yX1_rulingOver wsX1_rulingOver) := goodIn_app (goodIn_of _ (by decide +kernel)) ggX5_dutyAt_X1_rulingOver
set_option maxRecDepth 20000 in
theorem ggX5_dutyAt_X4_isOf : GoodIn wsX5_dutyAt wsX4_isOf := goodIn_r _ [19, 20, 21, 22, 23, 18, 24, 25, 74, 75, 76, 77, 78, 79, 80] (by decide +kernel) (by decide +kernel)
set_option maxRecDepth 20000 in
theorem gX5_dutyAt_X4_isOf : GoodIn wsX5_dutyAt (wsV RX5 194 RX4 yX4_isOf wsX4_isOf) := goodIn_app (goodIn_of _ (by decide +kernel)) ggX5_dutyAt_X4_isOf
set_option maxRecDepth 20000 in
theorem ggX5_dutyAt_X4_inForce : GoodIn wsX5_dutyAt wsX4_inForce := goodIn_r _ [29, 25, 20, 30, 31, 74, 75, 76, 77, 78, 79, 80] (by decide +kernel) (by decide +kernel)
set_option maxRecDepth 20000 in
theorem gX5_dutyAt_X4_inForce : GoodIn wsX5_dutyAt (wsV RX5 138 RX4 yX4_inForce wsX4_inForce) := goodIn_app (goodIn_of _ (by decide +kernel)) ggX5_dutyAt_X4_inForce
set_option maxRecDepth 20000 in
theorem ggX5_dutyAt_X3_averageKnown : GoodIn wsX5_dutyAt wsX3_averageKnown := goodIn_r _ [36, 37, 38, 39, 35, 40, 41, 42, 43, 44, 45, 46, 47, 48, 49, 50, 51, 81, 82, 83, 84, 85, 86, 87, 88] (by decide +kernel) (by decide +kernel)
set_option maxRecDepth 20000 in
theorem gX5_dutyAt_X3_averageKnown : GoodIn wsX5_dutyAt (wsV RX5 99 RX3 yX3_averageKnown wsX3_averageKnown) := goodIn_app (goodIn_of _ (by decide +kernel)) ggX5_dutyAt_X3_averageKnown
set_option maxRecDepth 20000 in
theorem ggX5_dutyAt_X4_dutyBy : GoodIn wsX5_dutyAt wsX4_dutyBy := goodIn_r _ [55, 30, 56, 57, 21, 22, 23, 18, 24, 25, 74, 75, 76, 77, 78, 79, 80] (by decide +kernel) (by decide +kernel)
set_option maxRecDepth 20000 in
theorem gX5_dutyAt_X4_dutyBy : GoodIn wsX5_dutyAt (wsV RX5 197 RX4 yX4_dutyBy wsX4_dutyBy) := goodIn_app (goodIn_of _ (by decide +kernel)) ggX5_dutyAt_X4_dutyBy
set_option maxRecDepth 20000 in
theorem ggX5_dutyAt_X1_inProportion : GoodIn wsX5_dutyAt wsX1_inProportion := goodIn_r _ [61, 62, 14, 10, 11, 12, 7, 13, 71, 72, 73] (by decide +kernel) (by decide +kernel)
set_option maxRecDepth 20000 in
theorem gX5_dutyAt_X1_inProportion : GoodIn wsX5_dutyAt (wsV RX5 200 RX1 yX1_inProportion wsX1_inProportion) := goodIn_app (goodIn_of _ (by decide +kernel)) ggX5_dutyAt_X1_inProportion
theorem dX5_dutyAt_0 : decode cX5_dutyAt 0 = .ok (.aload_n 0, 1) := by decide +kernel
theorem dX5_dutyAt_1 : decode cX5_dutyAt 1 = .ok (.getfield 26, 3) := by decide +kernel
theorem dX5_dutyAt_4 : decode cX5_dutyAt 4 = .ok (.iload_n 1, 1) := by decide +kernel
theorem dX5_dutyAt_5 : decode cX5_dutyAt 5 = .ok (.invokevirtual 191, 3) := by decide +kernel
theorem dX5_dutyAt_8 : decode cX5_dutyAt 8 = .ok (.istore 5, 2) := by decide +kernel
theorem dX5_dutyAt_10 : decode cX5_dutyAt 10 = .ok (.aload_n 0, 1) := by decide +kernel
theorem dX5_dutyAt_11 : decode cX5_dutyAt 11 = .ok (.getfield 19, 3) := by decide +kernel
theorem dX5_dutyAt_14 : decode cX5_dutyAt 14 = .ok (.iload 4, 2) := by decide +kernel
theorem dX5_dutyAt_16 : decode cX5_dutyAt 16 = .ok (.iload 5, 2) := by decide +kernel
theorem dX5_dutyAt_18 : decode cX5_dutyAt 18 = .ok (.invokevirtual 194, 3) := by decide +kernel
theorem dX5_dutyAt_21 : decode cX5_dutyAt 21 = .ok (.ifCond .eq 8, 3) := by decide +kernel
theorem dX5_dutyAt_24 : decode cX5_dutyAt 24 = .ok (.iload 4, 2) := by decide +kernel
theorem dX5_dutyAt_26 : decode cX5_dutyAt 26 = .ok (.goto 13, 3) := by decide +kernel
theorem dX5_dutyAt_29 : decode cX5_dutyAt 29 = .ok (.aload_n 0, 1) := by decide +kernel
theorem dX5_dutyAt_30 : decode cX5_dutyAt 30 = .ok (.getfield 19, 3) := by decide +kernel
theorem dX5_dutyAt_33 : decode cX5_dutyAt 33 = .ok (.iload 5, 2) := by decide +kernel
theorem dX5_dutyAt_35 : decode cX5_dutyAt 35 = .ok (.iload_n 2, 1) := by decide +kernel
theorem dX5_dutyAt_36 : decode cX5_dutyAt 36 = .ok (.invokevirtual 138, 3) := by decide +kernel
theorem dX5_dutyAt_39 : decode cX5_dutyAt 39 = .ok (.istore 6, 2) := by decide +kernel
theorem dX5_dutyAt_41 : decode cX5_dutyAt 41 = .ok (.aload_n 0, 1) := by decide +kernel
theorem dX5_dutyAt_42 : decode cX5_dutyAt 42 = .ok (.getfield 12, 3) := by decide +kernel
theorem dX5_dutyAt_45 : decode cX5_dutyAt 45 = .ok (.iload 5, 2) := by decide +kernel
theorem dX5_dutyAt_47 : decode cX5_dutyAt 47 = .ok (.iload_n 2, 1) := by decide +kernel
theorem dX5_dutyAt_48 : decode cX5_dutyAt 48 = .ok (.iload_n 3, 1) := by decide +kernel
theorem dX5_dutyAt_49 : decode cX5_dutyAt 49 = .ok (.invokevirtual 99, 3) := by decide +kernel
theorem dX5_dutyAt_52 : decode cX5_dutyAt 52 = .ok (.istore 7, 2) := by decide +kernel
theorem dX5_dutyAt_54 : decode cX5_dutyAt 54 = .ok (.aload_n 0, 1) := by decide +kernel
end
section
theorem dX5_dutyAt_55 : decode cX5_dutyAt 55 = .ok (.getfield 26, 3) := by decide +kernel
theorem dX5_dutyAt_58 : decode cX5_dutyAt 58 = .ok (.iload_n 1, 1) := by decide +kernel
theorem dX5_dutyAt_59 : decode cX5_dutyAt 59 = .ok (.aload_n 0, 1) := by decide +kernel
theorem dX5_dutyAt_60 : decode cX5_dutyAt 60 = .ok (.getfield 19, 3) := by decide +kernel
theorem dX5_dutyAt_63 : decode cX5_dutyAt 63 = .ok (.iload 6, 2) := by decide +kernel
theorem dX5_dutyAt_65 : decode cX5_dutyAt 65 = .ok (.iload 7, 2) := by decide +kernel
theorem dX5_dutyAt_67 : decode cX5_dutyAt 67 = .ok (.invokevirtual 197, 3) := by decide +kernel
theorem dX5_dutyAt_70 : decode cX5_dutyAt 70 = .ok (.invokevirtual 200, 3) := by decide +kernel
theorem dX5_dutyAt_73 : decode cX5_dutyAt 73 = .ok (.ireturn, 1) := by decide +kernel
set_option maxRecDepth 20000 in
theorem ggX5_chestAnew_X5_dutyAt : GoodIn wsX5_chestAnew wsX5_dutyAt := goodIn_r _ [10, 11, 12, 13, 14, 15, 16, 17, 18, 19, 20, 21, 22, 23, 24, 25, 26, 27, 28, 29, 30, 31, 32, 33, 34, 35, 36, 37, 38, 39, 40, 41, 42, 43, 44, 45, 46, 47, 48, 49, 50, 51, 52, 53, 54, 55, 56, 57, 58, 59, 60, 61, 62, 63, 64, 65, 66, 67, 68, 69, 70, 71, 72, 73, 74, 75, 76, 77, 78, 79, 80, 85, 86, 87, 88, 89, 90, 91, 92, 93, 94, 95, 96, 97, 98, 99, 100, 101, 102] (by decide +kernel) (by decide +kernel)
set_option maxRecDepth 20000 in
theorem gX5_chestAnew_X5_dutyAt : GoodIn wsX5_chestAnew (wsV RX5 141 RX5 yX5_dutyAt wsX5_dutyAt) := goodIn_app (goodIn_of _ (by decide +kernel)) ggX5_chestAnew_X5_dutyAt
theorem dX5_chestAnew_0 : decode cX5_chestAnew 0 = .ok (.lconst 0, 1) := by decide +kernel
theorem dX5_chestAnew_1 : decode cX5_chestAnew 1 = .ok (.lstore_n 3, 1) := by decide +kernel
theorem dX5_chestAnew_2 : decode cX5_chestAnew 2 = .ok (.iconst 0, 1) := by decide +kernel
theorem dX5_chestAnew_3 : decode cX5_chestAnew 3 = .ok (.istore 5, 2) := by decide +kernel
theorem dX5_chestAnew_5 : decode cX5_chestAnew 5 = .ok (.iload 5, 2) := by decide +kernel
theorem dX5_chestAnew_7 : decode cX5_chestAnew 7 = .ok (.aload_n 0, 1) := by decide +kernel
theorem dX5_chestAnew_8 : decode cX5_chestAnew 8 = .ok (.getfield 40, 3) := by decide +kernel
theorem dX5_chestAnew_11 : decode cX5_chestAnew 11 = .ok (.getfield 154, 3) := by decide +kernel
theorem dX5_chestAnew_14 : decode cX5_chestAnew 14 = .ok (.if_icmp .ge 55, 3) := by decide +kernel
theorem dX5_chestAnew_17 : decode cX5_chestAnew 17 = .ok (.aload_n 0, 1) := by decide +kernel
theorem dX5_chestAnew_18 : decode cX5_chestAnew 18 = .ok (.aload_n 0, 1) := by decide +kernel
theorem dX5_chestAnew_19 : decode cX5_chestAnew 19 = .ok (.getfield 40, 3) := by decide +kernel
theorem dX5_chestAnew_22 : decode cX5_chestAnew 22 = .ok (.getfield 203, 3) := by decide +kernel
theorem dX5_chestAnew_25 : decode cX5_chestAnew 25 = .ok (.iload 5, 2) := by decide +kernel
theorem dX5_chestAnew_27 : decode cX5_chestAnew 27 = .ok (.iaload, 1) := by decide +kernel
theorem dX5_chestAnew_28 : decode cX5_chestAnew 28 = .ok (.aload_n 0, 1) := by decide +kernel
theorem dX5_chestAnew_29 : decode cX5_chestAnew 29 = .ok (.getfield 40, 3) := by decide +kernel
theorem dX5_chestAnew_32 : decode cX5_chestAnew 32 = .ok (.getfield 204, 3) := by decide +kernel
theorem dX5_chestAnew_35 : decode cX5_chestAnew 35 = .ok (.iload 5, 2) := by decide +kernel
theorem dX5_chestAnew_37 : decode cX5_chestAnew 37 = .ok (.iaload, 1) := by decide +kernel
theorem dX5_chestAnew_38 : decode cX5_chestAnew 38 = .ok (.iload_n 1, 1) := by decide +kernel
theorem dX5_chestAnew_39 : decode cX5_chestAnew 39 = .ok (.iload_n 2, 1) := by decide +kernel
theorem dX5_chestAnew_40 : decode cX5_chestAnew 40 = .ok (.invokevirtual 141, 3) := by decide +kernel
theorem dX5_chestAnew_43 : decode cX5_chestAnew 43 = .ok (.istore 6, 2) := by decide +kernel
theorem dX5_chestAnew_45 : decode cX5_chestAnew 45 = .ok (.lload_n 3, 1) := by decide +kernel
theorem dX5_chestAnew_46 : decode cX5_chestAnew 46 = .ok (.aload_n 0, 1) := by decide +kernel
theorem dX5_chestAnew_47 : decode cX5_chestAnew 47 = .ok (.getfield 40, 3) := by decide +kernel
theorem dX5_chestAnew_50 : decode cX5_chestAnew 50 = .ok (.getfield 205, 3) := by decide +kernel
theorem dX5_chestAnew_53 : decode cX5_chestAnew 53 = .ok (.iload 5, 2) := by decide +kernel
theorem dX5_chestAnew_55 : decode cX5_chestAnew 55 = .ok (.iaload, 1) := by decide +kernel
theorem dX5_chestAnew_56 : decode cX5_chestAnew 56 = .ok (.i2l, 1) := by decide +kernel
theorem dX5_chestAnew_57 : decode cX5_chestAnew 57 = .ok (.iload 6, 2) := by decide +kernel
theorem dX5_chestAnew_59 : decode cX5_chestAnew 59 = .ok (.i2l, 1) := by decide +kernel
theorem dX5_chestAnew_60 : decode cX5_chestAnew 60 = .ok (.lmul, 1) := by decide +kernel
theorem dX5_chestAnew_61 : decode cX5_chestAnew 61 = .ok (.ladd, 1) := by decide +kernel
theorem dX5_chestAnew_62 : decode cX5_chestAnew 62 = .ok (.lstore_n 3, 1) := by decide +kernel
theorem dX5_chestAnew_63 : decode cX5_chestAnew 63 = .ok (.iinc 5 1, 3) := by decide +kernel
theorem dX5_chestAnew_66 : decode cX5_chestAnew 66 = .ok (.goto (-61), 3) := by decide +kernel
theorem dX5_chestAnew_69 : decode cX5_chestAnew 69 = .ok (.lload_n 3, 1) := by decide +kernel
theorem dX5_chestAnew_70 : decode cX5_chestAnew 70 = .ok (.lreturn, 1) := by decide +kernel
set_option maxRecDepth 20000 in
theorem ggX5_gainAt_X5_dutyAt : GoodIn wsX5_gainAt wsX5_dutyAt := goodIn_r _ [9, 10, 11, 12, 13, 14, 15, 16, 17, 18, 19, 20, 21, 22, 23, 24, 25, 26, 27, 28, 29, 30, 31, 32, 33, 34, 35, 36, 37, 38, 39, 40, 41, 42, 43, 44, 45, 46, 47, 48, 49, 50, 51, 52, 53, 54, 55, 56, 57, 58, 59, 60, 61, 62, 63, 64, 65, 66, 67, 68, 69, 70, 71, 81, 82, 83, 84, 85, 86, 87, 88, 96, 97, 98, 99, 100, 101, 102, 103, 104, 105, 106, 107, 108, 109, 110, 111, 112, 113] (by decide +kernel) (by decide +kernel)
set_option maxRecDepth 20000 in
theorem gX5_gainAt_X5_dutyAt : GoodIn wsX5_gainAt (wsV RX5 141 RX5 yX5_dutyAt wsX5_dutyAt) := goodIn_app (goodIn_of _ (by decide +kernel)) ggX5_gainAt_X5_dutyAt
set_option maxRecDepth 20000 in
theorem ggX5_gainAt_X0_leftAfter : GoodIn wsX5_gainAt wsX0_leftAfter := goodIn_r _ [76, 77, 78, 79, 75, 80, 89, 90, 91, 92, 93, 94, 95] (by decide +kernel) (by decide +kernel)
set_option maxRecDepth 20000 in
theorem gX5_gainAt_X0_leftAfter : GoodIn wsX5_gainAt (wsV RX5 206 RX0 yX0_leftAfter wsX0_leftAfter) := goodIn_app (goodIn_of _ (by decide +kernel)) ggX5_gainAt_X0_leftAfter
theorem dX5_gainAt_0 : decode cX5_gainAt 0 = .ok (.iload_n 3, 1) := by decide +kernel
theorem dX5_gainAt_1 : decode cX5_gainAt 1 = .ok (.aload_n 0, 1) := by decide +kernel
theorem dX5_gainAt_2 : decode cX5_gainAt 2 = .ok (.aload_n 0, 1) := by decide +kernel
theorem dX5_gainAt_3 : decode cX5_gainAt 3 = .ok (.getfield 33, 3) := by decide +kernel
theorem dX5_gainAt_6 : decode cX5_gainAt 6 = .ok (.getfield 157, 3) := by decide +kernel
theorem dX5_gainAt_9 : decode cX5_gainAt 9 = .ok (.iload_n 1, 1) := by decide +kernel
theorem dX5_gainAt_10 : decode cX5_gainAt 10 = .ok (.iaload, 1) := by decide +kernel
theorem dX5_gainAt_11 : decode cX5_gainAt 11 = .ok (.iload_n 2, 1) := by decide +kernel
theorem dX5_gainAt_12 : decode cX5_gainAt 12 = .ok (.iconst (-1), 1) := by decide +kernel
theorem dX5_gainAt_13 : decode cX5_gainAt 13 = .ok (.iconst (-1), 1) := by decide +kernel
theorem dX5_gainAt_14 : decode cX5_gainAt 14 = .ok (.invokevirtual 141, 3) := by decide +kernel
theorem dX5_gainAt_17 : decode cX5_gainAt 17 = .ok (.isub, 1) := by decide +kernel
theorem dX5_gainAt_18 : decode cX5_gainAt 18 = .ok (.i2l, 1) := by decide +kernel
theorem dX5_gainAt_19 : decode cX5_gainAt 19 = .ok (.lstore 4, 2) := by decide +kernel
theorem dX5_gainAt_21 : decode cX5_gainAt 21 = .ok (.lload 4, 2) := by decide +kernel
theorem dX5_gainAt_23 : decode cX5_gainAt 23 = .ok (.aload_n 0, 1) := by decide +kernel
theorem dX5_gainAt_24 : decode cX5_gainAt 24 = .ok (.getfield 33, 3) := by decide +kernel
theorem dX5_gainAt_27 : decode cX5_gainAt 27 = .ok (.iload_n 1, 1) := by decide +kernel
theorem dX5_gainAt_28 : decode cX5_gainAt 28 = .ok (.iload_n 2, 1) := by decide +kernel
theorem dX5_gainAt_29 : decode cX5_gainAt 29 = .ok (.aload_n 0, 1) := by decide +kernel
theorem dX5_gainAt_30 : decode cX5_gainAt 30 = .ok (.getfield 48, 3) := by decide +kernel
theorem dX5_gainAt_33 : decode cX5_gainAt 33 = .ok (.isub, 1) := by decide +kernel
theorem dX5_gainAt_34 : decode cX5_gainAt 34 = .ok (.aload_n 0, 1) := by decide +kernel
theorem dX5_gainAt_35 : decode cX5_gainAt 35 = .ok (.getfield 52, 3) := by decide +kernel
theorem dX5_gainAt_38 : decode cX5_gainAt 38 = .ok (.invokevirtual 206, 3) := by decide +kernel
theorem dX5_gainAt_41 : decode cX5_gainAt 41 = .ok (.i2l, 1) := by decide +kernel
theorem dX5_gainAt_42 : decode cX5_gainAt 42 = .ok (.lmul, 1) := by decide +kernel
theorem dX5_gainAt_43 : decode cX5_gainAt 43 = .ok (.lreturn, 1) := by decide +kernel
theorem dX6_init_0 : decode cX6_init 0 = .ok (.aload_n 0, 1) := by decide +kernel
theorem dX6_init_1 : decode cX6_init 1 = .ok (.invokespecial 1, 3) := by decide +kernel
theorem dX6_init_4 : decode cX6_init 4 = .ok (.aload_n 0, 1) := by decide +kernel
theorem dX6_init_5 : decode cX6_init 5 = .ok (.bipush 60, 2) := by decide +kernel
theorem dX6_init_7 : decode cX6_init 7 = .ok (.newarray .int, 2) := by decide +kernel
theorem dX6_init_9 : decode cX6_init 9 = .ok (.putfield 7, 3) := by decide +kernel
theorem dX6_init_12 : decode cX6_init 12 = .ok (.aload_n 0, 1) := by decide +kernel
theorem dX6_init_13 : decode cX6_init 13 = .ok (.bipush 60, 2) := by decide +kernel
theorem dX6_init_15 : decode cX6_init 15 = .ok (.newarray .int, 2) := by decide +kernel
theorem dX6_init_17 : decode cX6_init 17 = .ok (.putfield 13, 3) := by decide +kernel
theorem dX6_init_20 : decode cX6_init 20 = .ok (.aload_n 0, 1) := by decide +kernel
theorem dX6_init_21 : decode cX6_init 21 = .ok (.bipush 60, 2) := by decide +kernel
theorem dX6_init_23 : decode cX6_init 23 = .ok (.newarray .int, 2) := by decide +kernel
theorem dX6_init_25 : decode cX6_init 25 = .ok (.putfield 16, 3) := by decide +kernel
theorem dX6_init_28 : decode cX6_init 28 = .ok (.aload_n 0, 1) := by decide +kernel
theorem dX6_init_29 : decode cX6_init 29 = .ok (.bipush 60, 2) := by decide +kernel
theorem dX6_init_31 : decode cX6_init 31 = .ok (.newarray .int, 2) := by decide +kernel
theorem dX6_init_33 : decode cX6_init 33 = .ok (.putfield 19, 3) := by decide +kernel
theorem dX6_init_36 : decode cX6_init 36 = .ok (.aload_n 0, 1) := by decide +kernel
theorem dX6_init_37 : decode cX6_init 37 = .ok (.bipush 60, 2) := by decide +kernel
theorem dX6_init_39 : decode cX6_init 39 = .ok (.newarray .int, 2) := by decide +kernel
theorem dX6_init_41 : decode cX6_init 41 = .ok (.putfield 22, 3) := by decide +kernel
theorem dX6_init_44 : decode cX6_init 44 = .ok (.aload_n 0, 1) := by decide +kernel
theorem dX6_init_45 : decode cX6_init 45 = .ok (.bipush 60, 2) := by decide +kernel
theorem dX6_init_47 : decode cX6_init 47 = .ok (.newarray .int, 2) := by decide +kernel
theorem dX6_init_49 : decode cX6_init 49 = .ok (.putfield 25, 3) := by decide +kernel
theorem dX6_init_52 : decode cX6_init 52 = .ok (.aload_n 0, 1) := by decide +kernel
theorem dX6_init_53 : decode cX6_init 53 = .ok (.bipush 60, 2) := by decide +kernel
theorem dX6_init_55 : decode cX6_init 55 = .ok (.newarray .int, 2) := by decide +kernel
theorem dX6_init_57 : decode cX6_init 57 = .ok (.putfield 28, 3) := by decide +kernel
theorem dX6_init_60 : decode cX6_init 60 = .ok (.aload_n 0, 1) := by decide +kernel
theorem dX6_init_61 : decode cX6_init 61 = .ok (.bipush 8, 2) := by decide +kernel
theorem dX6_init_63 : decode cX6_init 63 = .ok (.newarray .int, 2) := by decide +kernel
theorem dX6_init_65 : decode cX6_init 65 = .ok (.putfield 31, 3) := by decide +kernel
theorem dX6_init_68 : decode cX6_init 68 = .ok (.aload_n 0, 1) := by decide +kernel
theorem dX6_init_69 : decode cX6_init 69 = .ok (.bipush 8, 2) := by decide +kernel
theorem dX6_init_71 : decode cX6_init 71 = .ok (.newarray .int, 2) := by decide +kernel
theorem dX6_init_73 : decode cX6_init 73 = .ok (.putfield 34, 3) := by decide +kernel
theorem dX6_init_76 : decode cX6_init 76 = .ok (.aload_n 0, 1) := by decide +kernel
theorem dX6_init_77 : decode cX6_init 77 = .ok (.bipush 8, 2) := by decide +kernel
theorem dX6_init_79 : decode cX6_init 79 = .ok (.newarray .int, 2) := by decide +kernel
theorem dX6_init_81 : decode cX6_init 81 = .ok (.putfield 37, 3) := by decide +kernel
theorem dX6_init_84 : decode cX6_init 84 = .ok (.aload_n 0, 1) := by decide +kernel
theorem dX6_init_85 : decode cX6_init 85 = .ok (.bipush 8, 2) := by decide +kernel
theorem dX6_init_87 : decode cX6_init 87 = .ok (.newarray .int, 2) := by decide +kernel
theorem dX6_init_89 : decode cX6_init 89 = .ok (.putfield 40, 3) := by decide +kernel
theorem dX6_init_92 : decode cX6_init 92 = .ok (.aload_n 0, 1) := by decide +kernel
theorem dX6_init_93 : decode cX6_init 93 = .ok (.bipush 64, 2) := by decide +kernel
theorem dX6_init_95 : decode cX6_init 95 = .ok (.newarray .int, 2) := by decide +kernel
theorem dX6_init_97 : decode cX6_init 97 = .ok (.putfield 43, 3) := by decide +kernel
theorem dX6_init_100 : decode cX6_init 100 = .ok (.aload_n 0, 1) := by decide +kernel
theorem dX6_init_101 : decode cX6_init 101 = .ok (.bipush 64, 2) := by decide +kernel
theorem dX6_init_103 : decode cX6_init 103 = .ok (.newarray .int, 2) := by decide +kernel
theorem dX6_init_105 : decode cX6_init 105 = .ok (.putfield 46, 3) := by decide +kernel
theorem dX6_init_108 : decode cX6_init 108 = .ok (.aload_n 0, 1) := by decide +kernel
theorem dX6_init_109 : decode cX6_init 109 = .ok (.iconst 3, 1) := by decide +kernel
theorem dX6_init_110 : decode cX6_init 110 = .ok (.newarray .int, 2) := by decide +kernel
theorem dX6_init_112 : decode cX6_init 112 = .ok (.putfield 49, 3) := by decide +kernel
theorem dX6_init_115 : decode cX6_init 115 = .ok (.aload_n 0, 1) := by decide +kernel
theorem dX6_init_116 : decode cX6_init 116 = .ok (.iconst 3, 1) := by decide +kernel
theorem dX6_init_117 : decode cX6_init 117 = .ok (.newarray .int, 2) := by decide +kernel
theorem dX6_init_119 : decode cX6_init 119 = .ok (.putfield 52, 3) := by decide +kernel
theorem dX6_init_122 : decode cX6_init 122 = .ok (.aload_n 0, 1) := by decide +kernel
theorem dX6_init_123 : decode cX6_init 123 = .ok (.iconst 3, 1) := by decide +kernel
theorem dX6_init_124 : decode cX6_init 124 = .ok (.newarray .int, 2) := by decide +kernel
theorem dX6_init_126 : decode cX6_init 126 = .ok (.putfield 55, 3) := by decide +kernel
theorem dX6_init_129 : decode cX6_init 129 = .ok (.aload_n 0, 1) := by decide +kernel
theorem dX6_init_130 : decode cX6_init 130 = .ok (.bipush 20, 2) := by decide +kernel
theorem dX6_init_132 : decode cX6_init 132 = .ok (.newarray .int, 2) := by decide +kernel
theorem dX6_init_134 : decode cX6_init 134 = .ok (.putfield 58, 3) := by decide +kernel
theorem dX6_init_137 : decode cX6_init 137 = .ok (.aload_n 0, 1) := by decide +kernel
theorem dX6_init_138 : decode cX6_init 138 = .ok (.bipush 20, 2) := by decide +kernel
theorem dX6_init_140 : decode cX6_init 140 = .ok (.newarray .int, 2) := by decide +kernel
theorem dX6_init_142 : decode cX6_init 142 = .ok (.putfield 61, 3) := by decide +kernel
theorem dX6_init_145 : decode cX6_init 145 = .ok (.aload_n 0, 1) := by decide +kernel
theorem dX6_init_146 : decode cX6_init 146 = .ok (.bipush 20, 2) := by decide +kernel
theorem dX6_init_148 : decode cX6_init 148 = .ok (.newarray .int, 2) := by decide +kernel
theorem dX6_init_150 : decode cX6_init 150 = .ok (.putfield 64, 3) := by decide +kernel
theorem dX6_init_153 : decode cX6_init 153 = .ok (.aload_n 0, 1) := by decide +kernel
theorem dX6_init_154 : decode cX6_init 154 = .ok (.bipush 20, 2) := by decide +kernel
theorem dX6_init_156 : decode cX6_init 156 = .ok (.newarray .int, 2) := by decide +kernel
theorem dX6_init_158 : decode cX6_init 158 = .ok (.putfield 67, 3) := by decide +kernel
theorem dX6_init_161 : decode cX6_init 161 = .ok (.aload_n 0, 1) := by decide +kernel
theorem dX6_init_162 : decode cX6_init 162 = .ok (.bipush 20, 2) := by decide +kernel
theorem dX6_init_164 : decode cX6_init 164 = .ok (.newarray .int, 2) := by decide +kernel
theorem dX6_init_166 : decode cX6_init 166 = .ok (.putfield 70, 3) := by decide +kernel
theorem dX6_init_169 : decode cX6_init 169 = .ok (.aload_n 0, 1) := by decide +kernel
theorem dX6_init_170 : decode cX6_init 170 = .ok (.bipush 20, 2) := by decide +kernel
theorem dX6_init_172 : decode cX6_init 172 = .ok (.newarray .int, 2) := by decide +kernel
theorem dX6_init_174 : decode cX6_init 174 = .ok (.putfield 73, 3) := by decide +kernel
theorem dX6_init_177 : decode cX6_init 177 = .ok (.aload_n 0, 1) := by decide +kernel
theorem dX6_init_178 : decode cX6_init 178 = .ok (.bipush 100, 2) := by decide +kernel
theorem dX6_init_180 : decode cX6_init 180 = .ok (.newarray .int, 2) := by decide +kernel
theorem dX6_init_182 : decode cX6_init 182 = .ok (.putfield 76, 3) := by decide +kernel
theorem dX6_init_185 : decode cX6_init 185 = .ok (.aload_n 0, 1) := by decide +kernel
theorem dX6_init_186 : decode cX6_init 186 = .ok (.bipush 100, 2) := by decide +kernel
theorem dX6_init_188 : decode cX6_init 188 = .ok (.newarray .int, 2) := by decide +kernel
theorem dX6_init_190 : decode cX6_init 190 = .ok (.putfield 79, 3) := by decide +kernel
theorem dX6_init_193 : decode cX6_init 193 = .ok (.aload_n 0, 1) := by decide +kernel
theorem dX6_init_194 : decode cX6_init 194 = .ok (.bipush 100, 2) := by decide +kernel
theorem dX6_init_196 : decode cX6_init 196 = .ok (.newarray .int, 2) := by decide +kernel
theorem dX6_init_198 : decode cX6_init 198 = .ok (.putfield 82, 3) := by decide +kernel
theorem dX6_init_201 : decode cX6_init 201 = .ok (.aload_n 0, 1) := by decide +kernel
theorem dX6_init_202 : decode cX6_init 202 = .ok (.iconst (-1), 1) := by decide +kernel
theorem dX6_init_203 : decode cX6_init 203 = .ok (.putfield 85, 3) := by decide +kernel
theorem dX6_init_206 : decode cX6_init 206 = .ok (.aload_n 0, 1) := by decide +kernel
theorem dX6_init_207 : decode cX6_init 207 = .ok (.iconst (-1), 1) := by decide +kernel
theorem dX6_init_208 : decode cX6_init 208 = .ok (.putfield 89, 3) := by decide +kernel
theorem dX6_init_211 : decode cX6_init 211 = .ok (.iconst 0, 1) := by decide +kernel
theorem dX6_init_212 : decode cX6_init 212 = .ok (.istore_n 1, 1) := by decide +kernel
theorem dX6_init_213 : decode cX6_init 213 = .ok (.iload_n 1, 1) := by decide +kernel
theorem dX6_init_214 : decode cX6_init 214 = .ok (.iconst 3, 1) := by decide +kernel
theorem dX6_init_215 : decode cX6_init 215 = .ok (.if_icmp .ge 16, 3) := by decide +kernel
theorem dX6_init_218 : decode cX6_init 218 = .ok (.aload_n 0, 1) := by decide +kernel
theorem dX6_init_219 : decode cX6_init 219 = .ok (.getfield 49, 3) := by decide +kernel
theorem dX6_init_222 : decode cX6_init 222 = .ok (.iload_n 1, 1) := by decide +kernel
theorem dX6_init_223 : decode cX6_init 223 = .ok (.iconst (-1), 1) := by decide +kernel
theorem dX6_init_224 : decode cX6_init 224 = .ok (.iastore, 1) := by decide +kernel
theorem dX6_init_225 : decode cX6_init 225 = .ok (.iinc 1 1, 3) := by decide +kernel
theorem dX6_init_228 : decode cX6_init 228 = .ok (.goto (-15), 3) := by decide +kernel
theorem dX6_init_231 : decode cX6_init 231 = .ok (.return_, 1) := by decide +kernel
theorem dX6_in_0 : decode cX6_in 0 = .ok (.iload_n 0, 1) := by decide +kernel
theorem dX6_in_1 : decode cX6_in 1 = .ok (.iload_n 1, 1) := by decide +kernel
theorem dX6_in_2 : decode cX6_in 2 = .ok (.if_icmp .lt 12, 3) := by decide +kernel
theorem dX6_in_5 : decode cX6_in 5 = .ok (.iload_n 0, 1) := by decide +kernel
theorem dX6_in_6 : decode cX6_in 6 = .ok (.iload_n 2, 1) := by decide +kernel
theorem dX6_in_7 : decode cX6_in 7 = .ok (.if_icmp .gt 7, 3) := by decide +kernel
theorem dX6_in_10 : decode cX6_in 10 = .ok (.iconst 1, 1) := by decide +kernel
theorem dX6_in_11 : decode cX6_in 11 = .ok (.goto 4, 3) := by decide +kernel
theorem dX6_in_14 : decode cX6_in 14 = .ok (.iconst 0, 1) := by decide +kernel
theorem dX6_in_15 : decode cX6_in 15 = .ok (.ireturn, 1) := by decide +kernel
set_option maxRecDepth 20000 in
theorem ggX6_isGrain_X6_in : GoodIn wsX6_isGrain wsX6_in := goodIn_r _ [4] (by decide +kernel) (by decide +kernel)
set_option maxRecDepth 20000 in
theorem gX6_isGrain_X6_in : GoodIn wsX6_isGrain (va_wsS RX6 92 yX6_in wsX6_in) := goodIn_app (goodIn_of _ (by decide +kernel)) ggX6_isGrain_X6_in
theorem dX6_isGrain_0 : decode cX6_isGrain 0 = .ok (.iload_n 0, 1) := by decide +kernel
theorem dX6_isGrain_1 : decode cX6_isGrain 1 = .ok (.iconst 0, 1) := by decide +kernel
theorem dX6_isGrain_2 : decode cX6_isGrain 2 = .ok (.iconst 2, 1) := by decide +kernel
theorem dX6_isGrain_3 : decode cX6_isGrain 3 = .ok (.invokestatic 92, 3) := by decide +kernel
theorem dX6_isGrain_6 : decode cX6_isGrain 6 = .ok (.ireturn, 1) := by decide +kernel
set_option maxRecDepth 20000 in
theorem ggX6_weeks_X6_in : GoodIn wsX6_weeks wsX6_in := goodIn_r _ [9] (by decide +kernel) (by decide +kernel)
set_option maxRecDepth 20000 in
theorem gX6_weeks_X6_in : GoodIn wsX6_weeks (va_wsS RX6 92 yX6_in wsX6_in) := goodIn_app (goodIn_of _ (by decide +kernel)) ggX6_weeks_X6_in
theorem dX6_weeks_0 : decode cX6_weeks 0 = .ok (.iload_n 1, 1) := by decide +kernel
theorem dX6_weeks_1 : decode cX6_weeks 1 = .ok (.iconst 1, 1) := by decide +kernel
theorem dX6_weeks_2 : decode cX6_weeks 2 = .ok (.bipush 20, 2) := by decide +kernel
theorem dX6_weeks_4 : decode cX6_weeks 4 = .ok (.invokestatic 92, 3) := by decide +kernel
theorem dX6_weeks_7 : decode cX6_weeks 7 = .ok (.ifCond .eq 15, 3) := by decide +kernel
theorem dX6_weeks_10 : decode cX6_weeks 10 = .ok (.aload_n 0, 1) := by decide +kernel
theorem dX6_weeks_11 : decode cX6_weeks 11 = .ok (.getfield 96, 3) := by decide +kernel
theorem dX6_weeks_14 : decode cX6_weeks 14 = .ok (.iload_n 1, 1) := by decide +kernel
theorem dX6_weeks_15 : decode cX6_weeks 15 = .ok (.iadd, 1) := by decide +kernel
theorem dX6_weeks_16 : decode cX6_weeks 16 = .ok (.sipush 200, 3) := by decide +kernel
theorem dX6_weeks_19 : decode cX6_weeks 19 = .ok (.if_icmp .le 6, 3) := by decide +kernel
theorem dX6_weeks_22 : decode cX6_weeks 22 = .ok (.bipush (-2), 2) := by decide +kernel
theorem dX6_weeks_24 : decode cX6_weeks 24 = .ok (.ireturn, 1) := by decide +kernel
theorem dX6_weeks_25 : decode cX6_weeks 25 = .ok (.iconst 0, 1) := by decide +kernel
theorem dX6_weeks_26 : decode cX6_weeks 26 = .ok (.istore_n 2, 1) := by decide +kernel
theorem dX6_weeks_27 : decode cX6_weeks 27 = .ok (.iload_n 2, 1) := by decide +kernel
theorem dX6_weeks_28 : decode cX6_weeks 28 = .ok (.iload_n 1, 1) := by decide +kernel
theorem dX6_weeks_29 : decode cX6_weeks 29 = .ok (.if_icmp .ge 74, 3) := by decide +kernel
theorem dX6_weeks_32 : decode cX6_weeks 32 = .ok (.aload_n 0, 1) := by decide +kernel
theorem dX6_weeks_33 : decode cX6_weeks 33 = .ok (.dup, 1) := by decide +kernel
theorem dX6_weeks_34 : decode cX6_weeks 34 = .ok (.getfield 96, 3) := by decide +kernel
theorem dX6_weeks_37 : decode cX6_weeks 37 = .ok (.iconst 1, 1) := by decide +kernel
theorem dX6_weeks_38 : decode cX6_weeks 38 = .ok (.iadd, 1) := by decide +kernel
theorem dX6_weeks_39 : decode cX6_weeks 39 = .ok (.putfield 96, 3) := by decide +kernel
theorem dX6_weeks_42 : decode cX6_weeks 42 = .ok (.iconst 0, 1) := by decide +kernel
theorem dX6_weeks_43 : decode cX6_weeks 43 = .ok (.istore_n 3, 1) := by decide +kernel
theorem dX6_weeks_44 : decode cX6_weeks 44 = .ok (.iload_n 3, 1) := by decide +kernel
theorem dX6_weeks_45 : decode cX6_weeks 45 = .ok (.aload_n 0, 1) := by decide +kernel
theorem dX6_weeks_46 : decode cX6_weeks 46 = .ok (.getfield 99, 3) := by decide +kernel
theorem dX6_weeks_49 : decode cX6_weeks 49 = .ok (.if_icmp .ge 48, 3) := by decide +kernel
theorem dX6_weeks_52 : decode cX6_weeks 52 = .ok (.aload_n 0, 1) := by decide +kernel
theorem dX6_weeks_53 : decode cX6_weeks 53 = .ok (.getfield 61, 3) := by decide +kernel
theorem dX6_weeks_56 : decode cX6_weeks 56 = .ok (.iload_n 3, 1) := by decide +kernel
theorem dX6_weeks_57 : decode cX6_weeks 57 = .ok (.iaload, 1) := by decide +kernel
theorem dX6_weeks_58 : decode cX6_weeks 58 = .ok (.aload_n 0, 1) := by decide +kernel
theorem dX6_weeks_59 : decode cX6_weeks 59 = .ok (.getfield 102, 3) := by decide +kernel
theorem dX6_weeks_62 : decode cX6_weeks 62 = .ok (.imul, 1) := by decide +kernel
theorem dX6_weeks_63 : decode cX6_weeks 63 = .ok (.sipush 1000, 3) := by decide +kernel
theorem dX6_weeks_66 : decode cX6_weeks 66 = .ok (.idiv, 1) := by decide +kernel
theorem dX6_weeks_67 : decode cX6_weeks 67 = .ok (.istore 4, 2) := by decide +kernel
theorem dX6_weeks_69 : decode cX6_weeks 69 = .ok (.aload_n 0, 1) := by decide +kernel
theorem dX6_weeks_70 : decode cX6_weeks 70 = .ok (.getfield 61, 3) := by decide +kernel
theorem dX6_weeks_73 : decode cX6_weeks 73 = .ok (.iload_n 3, 1) := by decide +kernel
theorem dX6_weeks_74 : decode cX6_weeks 74 = .ok (.dup2, 1) := by decide +kernel
theorem dX6_weeks_75 : decode cX6_weeks 75 = .ok (.iaload, 1) := by decide +kernel
theorem dX6_weeks_76 : decode cX6_weeks 76 = .ok (.iload 4, 2) := by decide +kernel
theorem dX6_weeks_78 : decode cX6_weeks 78 = .ok (.isub, 1) := by decide +kernel
theorem dX6_weeks_79 : decode cX6_weeks 79 = .ok (.iastore, 1) := by decide +kernel
theorem dX6_weeks_80 : decode cX6_weeks 80 = .ok (.aload_n 0, 1) := by decide +kernel
theorem dX6_weeks_81 : decode cX6_weeks 81 = .ok (.getfield 70, 3) := by decide +kernel
theorem dX6_weeks_84 : decode cX6_weeks 84 = .ok (.iload_n 3, 1) := by decide +kernel
theorem dX6_weeks_85 : decode cX6_weeks 85 = .ok (.dup2, 1) := by decide +kernel
theorem dX6_weeks_86 : decode cX6_weeks 86 = .ok (.iaload, 1) := by decide +kernel
theorem dX6_weeks_87 : decode cX6_weeks 87 = .ok (.iload 4, 2) := by decide +kernel
theorem dX6_weeks_89 : decode cX6_weeks 89 = .ok (.iadd, 1) := by decide +kernel
theorem dX6_weeks_90 : decode cX6_weeks 90 = .ok (.iastore, 1) := by decide +kernel
theorem dX6_weeks_91 : decode cX6_weeks 91 = .ok (.iinc 3 1, 3) := by decide +kernel
theorem dX6_weeks_94 : decode cX6_weeks 94 = .ok (.goto (-50), 3) := by decide +kernel
theorem dX6_weeks_97 : decode cX6_weeks 97 = .ok (.iinc 2 1, 3) := by decide +kernel
theorem dX6_weeks_100 : decode cX6_weeks 100 = .ok (.goto (-73), 3) := by decide +kernel
theorem dX6_weeks_103 : decode cX6_weeks 103 = .ok (.aload_n 0, 1) := by decide +kernel
theorem dX6_weeks_104 : decode cX6_weeks 104 = .ok (.getfield 96, 3) := by decide +kernel
theorem dX6_weeks_107 : decode cX6_weeks 107 = .ok (.ireturn, 1) := by decide +kernel
set_option maxRecDepth 20000 in
theorem ggX6_sale_X6_in : GoodIn wsX6_sale wsX6_in := goodIn_r _ [13] (by decide +kernel) (by decide +kernel)
set_option maxRecDepth 20000 in
theorem gX6_sale_X6_in : GoodIn wsX6_sale (va_wsS RX6 92 yX6_in wsX6_in) := goodIn_app (goodIn_of _ (by decide +kernel)) ggX6_sale_X6_in
set_option maxRecDepth 20000 in
theorem ggX6_sale_X6_isGrain : GoodIn wsX6_sale wsX6_isGrain := goodIn_r _ [16, 10, 11, 12, 13] (by decide +kernel) (by decide +kernel)
set_option maxRecDepth 20000 in
theorem gX6_sale_X6_isGrain : GoodIn wsX6_sale (va_wsS RX6 105 yX6_isGrain wsX6_isGrain) := goodIn_app (goodIn_of _ (by decide +kernel)) ggX6_sale_X6_isGrain
theorem dX6_sale_0 : decode cX6_sale 0 = .ok (.iload_n 1, 1) := by decide +kernel
theorem dX6_sale_1 : decode cX6_sale 1 = .ok (.iconst 0, 1) := by decide +kernel
theorem dX6_sale_2 : decode cX6_sale 2 = .ok (.bipush 9, 2) := by decide +kernel
theorem dX6_sale_4 : decode cX6_sale 4 = .ok (.invokestatic 92, 3) := by decide +kernel
theorem dX6_sale_7 : decode cX6_sale 7 = .ok (.ifCond .eq 46, 3) := by decide +kernel
theorem dX6_sale_10 : decode cX6_sale 10 = .ok (.iload_n 2, 1) := by decide +kernel
theorem dX6_sale_11 : decode cX6_sale 11 = .ok (.invokestatic 105, 3) := by decide +kernel
theorem dX6_sale_14 : decode cX6_sale 14 = .ok (.ifCond .eq 39, 3) := by decide +kernel
theorem dX6_sale_17 : decode cX6_sale 17 = .ok (.iload_n 3, 1) := by decide +kernel
theorem dX6_sale_18 : decode cX6_sale 18 = .ok (.iconst 0, 1) := by decide +kernel
theorem dX6_sale_19 : decode cX6_sale 19 = .ok (.aload_n 0, 1) := by decide +kernel
theorem dX6_sale_20 : decode cX6_sale 20 = .ok (.getfield 96, 3) := by decide +kernel
theorem dX6_sale_23 : decode cX6_sale 23 = .ok (.invokestatic 92, 3) := by decide +kernel
theorem dX6_sale_26 : decode cX6_sale 26 = .ok (.ifCond .eq 27, 3) := by decide +kernel
theorem dX6_sale_29 : decode cX6_sale 29 = .ok (.iload 4, 2) := by decide +kernel
theorem dX6_sale_31 : decode cX6_sale 31 = .ok (.iconst 1, 1) := by decide +kernel
theorem dX6_sale_32 : decode cX6_sale 32 = .ok (.sipush 1000, 3) := by decide +kernel
theorem dX6_sale_35 : decode cX6_sale 35 = .ok (.invokestatic 92, 3) := by decide +kernel
theorem dX6_sale_38 : decode cX6_sale 38 = .ok (.ifCond .eq 15, 3) := by decide +kernel
theorem dX6_sale_41 : decode cX6_sale 41 = .ok (.iload 5, 2) := by decide +kernel
theorem dX6_sale_43 : decode cX6_sale 43 = .ok (.iconst 1, 1) := by decide +kernel
theorem dX6_sale_44 : decode cX6_sale 44 = .ok (.sipush 2000, 3) := by decide +kernel
theorem dX6_sale_47 : decode cX6_sale 47 = .ok (.invokestatic 92, 3) := by decide +kernel
theorem dX6_sale_50 : decode cX6_sale 50 = .ok (.ifCond .ne 6, 3) := by decide +kernel
theorem dX6_sale_53 : decode cX6_sale 53 = .ok (.bipush (-2), 2) := by decide +kernel
theorem dX6_sale_55 : decode cX6_sale 55 = .ok (.ireturn, 1) := by decide +kernel
theorem dX6_sale_56 : decode cX6_sale 56 = .ok (.aload_n 0, 1) := by decide +kernel
theorem dX6_sale_57 : decode cX6_sale 57 = .ok (.getfield 109, 3) := by decide +kernel
theorem dX6_sale_60 : decode cX6_sale 60 = .ok (.bipush 60, 2) := by decide +kernel
theorem dX6_sale_62 : decode cX6_sale 62 = .ok (.if_icmp .ne 6, 3) := by decide +kernel
theorem dX6_sale_65 : decode cX6_sale 65 = .ok (.bipush (-4), 2) := by decide +kernel
theorem dX6_sale_67 : decode cX6_sale 67 = .ok (.ireturn, 1) := by decide +kernel
theorem dX6_sale_68 : decode cX6_sale 68 = .ok (.aload_n 0, 1) := by decide +kernel
theorem dX6_sale_69 : decode cX6_sale 69 = .ok (.getfield 7, 3) := by decide +kernel
theorem dX6_sale_72 : decode cX6_sale 72 = .ok (.aload_n 0, 1) := by decide +kernel
theorem dX6_sale_73 : decode cX6_sale 73 = .ok (.getfield 109, 3) := by decide +kernel
theorem dX6_sale_76 : decode cX6_sale 76 = .ok (.iload_n 1, 1) := by decide +kernel
theorem dX6_sale_77 : decode cX6_sale 77 = .ok (.iastore, 1) := by decide +kernel
theorem dX6_sale_78 : decode cX6_sale 78 = .ok (.aload_n 0, 1) := by decide +kernel
theorem dX6_sale_79 : decode cX6_sale 79 = .ok (.getfield 13, 3) := by decide +kernel
theorem dX6_sale_82 : decode cX6_sale 82 = .ok (.aload_n 0, 1) := by decide +kernel
theorem dX6_sale_83 : decode cX6_sale 83 = .ok (.getfield 109, 3) := by decide +kernel
theorem dX6_sale_86 : decode cX6_sale 86 = .ok (.iload_n 2, 1) := by decide +kernel
theorem dX6_sale_87 : decode cX6_sale 87 = .ok (.iastore, 1) := by decide +kernel
theorem dX6_sale_88 : decode cX6_sale 88 = .ok (.aload_n 0, 1) := by decide +kernel
theorem dX6_sale_89 : decode cX6_sale 89 = .ok (.getfield 16, 3) := by decide +kernel
theorem dX6_sale_92 : decode cX6_sale 92 = .ok (.aload_n 0, 1) := by decide +kernel
theorem dX6_sale_93 : decode cX6_sale 93 = .ok (.getfield 109, 3) := by decide +kernel
theorem dX6_sale_96 : decode cX6_sale 96 = .ok (.iload_n 3, 1) := by decide +kernel
theorem dX6_sale_97 : decode cX6_sale 97 = .ok (.iastore, 1) := by decide +kernel
theorem dX6_sale_98 : decode cX6_sale 98 = .ok (.aload_n 0, 1) := by decide +kernel
theorem dX6_sale_99 : decode cX6_sale 99 = .ok (.getfield 19, 3) := by decide +kernel
theorem dX6_sale_102 : decode cX6_sale 102 = .ok (.aload_n 0, 1) := by decide +kernel
theorem dX6_sale_103 : decode cX6_sale 103 = .ok (.getfield 109, 3) := by decide +kernel
theorem dX6_sale_106 : decode cX6_sale 106 = .ok (.iload 4, 2) := by decide +kernel
theorem dX6_sale_108 : decode cX6_sale 108 = .ok (.iastore, 1) := by decide +kernel
theorem dX6_sale_109 : decode cX6_sale 109 = .ok (.aload_n 0, 1) := by decide +kernel
theorem dX6_sale_110 : decode cX6_sale 110 = .ok (.getfield 22, 3) := by decide +kernel
theorem dX6_sale_113 : decode cX6_sale 113 = .ok (.aload_n 0, 1) := by decide +kernel
theorem dX6_sale_114 : decode cX6_sale 114 = .ok (.getfield 109, 3) := by decide +kernel
theorem dX6_sale_117 : decode cX6_sale 117 = .ok (.iload 5, 2) := by decide +kernel
theorem dX6_sale_119 : decode cX6_sale 119 = .ok (.iastore, 1) := by decide +kernel
theorem dX6_sale_120 : decode cX6_sale 120 = .ok (.aload_n 0, 1) := by decide +kernel
theorem dX6_sale_121 : decode cX6_sale 121 = .ok (.getfield 25, 3) := by decide +kernel
theorem dX6_sale_124 : decode cX6_sale 124 = .ok (.aload_n 0, 1) := by decide +kernel
theorem dX6_sale_125 : decode cX6_sale 125 = .ok (.getfield 109, 3) := by decide +kernel
theorem dX6_sale_128 : decode cX6_sale 128 = .ok (.aload_n 0, 1) := by decide +kernel
theorem dX6_sale_129 : decode cX6_sale 129 = .ok (.getfield 96, 3) := by decide +kernel
theorem dX6_sale_132 : decode cX6_sale 132 = .ok (.iastore, 1) := by decide +kernel
theorem dX6_sale_133 : decode cX6_sale 133 = .ok (.aload_n 0, 1) := by decide +kernel
theorem dX6_sale_134 : decode cX6_sale 134 = .ok (.getfield 28, 3) := by decide +kernel
theorem dX6_sale_137 : decode cX6_sale 137 = .ok (.aload_n 0, 1) := by decide +kernel
theorem dX6_sale_138 : decode cX6_sale 138 = .ok (.getfield 109, 3) := by decide +kernel
theorem dX6_sale_141 : decode cX6_sale 141 = .ok (.iconst (-1), 1) := by decide +kernel
theorem dX6_sale_142 : decode cX6_sale 142 = .ok (.iastore, 1) := by decide +kernel
theorem dX6_sale_143 : decode cX6_sale 143 = .ok (.aload_n 0, 1) := by decide +kernel
theorem dX6_sale_144 : decode cX6_sale 144 = .ok (.dup, 1) := by decide +kernel
theorem dX6_sale_145 : decode cX6_sale 145 = .ok (.getfield 109, 3) := by decide +kernel
theorem dX6_sale_148 : decode cX6_sale 148 = .ok (.iconst 1, 1) := by decide +kernel
theorem dX6_sale_149 : decode cX6_sale 149 = .ok (.iadd, 1) := by decide +kernel
theorem dX6_sale_150 : decode cX6_sale 150 = .ok (.putfield 109, 3) := by decide +kernel
theorem dX6_sale_153 : decode cX6_sale 153 = .ok (.aload_n 0, 1) := by decide +kernel
theorem dX6_sale_154 : decode cX6_sale 154 = .ok (.getfield 109, 3) := by decide +kernel
theorem dX6_sale_157 : decode cX6_sale 157 = .ok (.iconst 1, 1) := by decide +kernel
theorem dX6_sale_158 : decode cX6_sale 158 = .ok (.isub, 1) := by decide +kernel
theorem dX6_sale_159 : decode cX6_sale 159 = .ok (.ireturn, 1) := by decide +kernel
set_option maxRecDepth 20000 in
theorem ggX6_strike_X6_in : GoodIn wsX6_strike wsX6_in := goodIn_r _ [7] (by decide +kernel) (by decide +kernel)
set_option maxRecDepth 20000 in
theorem gX6_strike_X6_in : GoodIn wsX6_strike (va_wsS RX6 92 yX6_in wsX6_in) := goodIn_app (goodIn_of _ (by decide +kernel)) ggX6_strike_X6_in
theorem dX6_strike_0 : decode cX6_strike 0 = .ok (.iload_n 1, 1) := by decide +kernel
theorem dX6_strike_1 : decode cX6_strike 1 = .ok (.iconst 0, 1) := by decide +kernel
theorem dX6_strike_2 : decode cX6_strike 2 = .ok (.aload_n 0, 1) := by decide +kernel
theorem dX6_strike_3 : decode cX6_strike 3 = .ok (.getfield 109, 3) := by decide +kernel
theorem dX6_strike_6 : decode cX6_strike 6 = .ok (.iconst 1, 1) := by decide +kernel
theorem dX6_strike_7 : decode cX6_strike 7 = .ok (.isub, 1) := by decide +kernel
theorem dX6_strike_8 : decode cX6_strike 8 = .ok (.invokestatic 92, 3) := by decide +kernel
theorem dX6_strike_11 : decode cX6_strike 11 = .ok (.ifCond .ne 6, 3) := by decide +kernel
theorem dX6_strike_14 : decode cX6_strike 14 = .ok (.bipush (-2), 2) := by decide +kernel
theorem dX6_strike_16 : decode cX6_strike 16 = .ok (.ireturn, 1) := by decide +kernel
theorem dX6_strike_17 : decode cX6_strike 17 = .ok (.aload_n 0, 1) := by decide +kernel
theorem dX6_strike_18 : decode cX6_strike 18 = .ok (.getfield 28, 3) := by decide +kernel
theorem dX6_strike_21 : decode cX6_strike 21 = .ok (.iload_n 1, 1) := by decide +kernel
theorem dX6_strike_22 : decode cX6_strike 22 = .ok (.iaload, 1) := by decide +kernel
theorem dX6_strike_23 : decode cX6_strike 23 = .ok (.iconst (-1), 1) := by decide +kernel
theorem dX6_strike_24 : decode cX6_strike 24 = .ok (.if_icmp .eq 6, 3) := by decide +kernel
theorem dX6_strike_27 : decode cX6_strike 27 = .ok (.bipush (-3), 2) := by decide +kernel
theorem dX6_strike_29 : decode cX6_strike 29 = .ok (.ireturn, 1) := by decide +kernel
theorem dX6_strike_30 : decode cX6_strike 30 = .ok (.aload_n 0, 1) := by decide +kernel
theorem dX6_strike_31 : decode cX6_strike 31 = .ok (.getfield 28, 3) := by decide +kernel
theorem dX6_strike_34 : decode cX6_strike 34 = .ok (.iload_n 1, 1) := by decide +kernel
theorem dX6_strike_35 : decode cX6_strike 35 = .ok (.aload_n 0, 1) := by decide +kernel
theorem dX6_strike_36 : decode cX6_strike 36 = .ok (.getfield 96, 3) := by decide +kernel
theorem dX6_strike_39 : decode cX6_strike 39 = .ok (.iastore, 1) := by decide +kernel
theorem dX6_strike_40 : decode cX6_strike 40 = .ok (.iconst 1, 1) := by decide +kernel
theorem dX6_strike_41 : decode cX6_strike 41 = .ok (.ireturn, 1) := by decide +kernel
set_option maxRecDepth 20000 in
theorem ggX6_sold_X6_in : GoodIn wsX6_sold wsX6_in := goodIn_r _ [12] (by decide +kernel) (by decide +kernel)
set_option maxRecDepth 20000 in
theorem gX6_sold_X6_in : GoodIn wsX6_sold (va_wsS RX6 92 yX6_in wsX6_in) := goodIn_app (goodIn_of _ (by decide +kernel)) ggX6_sold_X6_in
theorem dX6_sold_0 : decode cX6_sold 0 = .ok (.iload_n 1, 1) := by decide +kernel
theorem dX6_sold_1 : decode cX6_sold 1 = .ok (.iconst 0, 1) := by decide +kernel
theorem dX6_sold_2 : decode cX6_sold 2 = .ok (.aload_n 0, 1) := by decide +kernel
theorem dX6_sold_3 : decode cX6_sold 3 = .ok (.getfield 109, 3) := by decide +kernel
theorem dX6_sold_6 : decode cX6_sold 6 = .ok (.iconst 1, 1) := by decide +kernel
theorem dX6_sold_7 : decode cX6_sold 7 = .ok (.isub, 1) := by decide +kernel
theorem dX6_sold_8 : decode cX6_sold 8 = .ok (.invokestatic 92, 3) := by decide +kernel
theorem dX6_sold_11 : decode cX6_sold 11 = .ok (.ifCond .ne 6, 3) := by decide +kernel
theorem dX6_sold_14 : decode cX6_sold 14 = .ok (.bipush (-2), 2) := by decide +kernel
theorem dX6_sold_16 : decode cX6_sold 16 = .ok (.ireturn, 1) := by decide +kernel
theorem dX6_sold_17 : decode cX6_sold 17 = .ok (.iload_n 2, 1) := by decide +kernel
theorem dX6_sold_18 : decode cX6_sold 18 = .ok (.tableswitch 91 0 6 #[42, 49, 56, 63, 70, 77, 84], 42) := by decide +kernel
theorem dX6_sold_60 : decode cX6_sold 60 = .ok (.aload_n 0, 1) := by decide +kernel
theorem dX6_sold_61 : decode cX6_sold 61 = .ok (.getfield 7, 3) := by decide +kernel
theorem dX6_sold_64 : decode cX6_sold 64 = .ok (.iload_n 1, 1) := by decide +kernel
theorem dX6_sold_65 : decode cX6_sold 65 = .ok (.iaload, 1) := by decide +kernel
theorem dX6_sold_66 : decode cX6_sold 66 = .ok (.ireturn, 1) := by decide +kernel
theorem dX6_sold_67 : decode cX6_sold 67 = .ok (.aload_n 0, 1) := by decide +kernel
theorem dX6_sold_68 : decode cX6_sold 68 = .ok (.getfield 13, 3) := by decide +kernel
theorem dX6_sold_71 : decode cX6_sold 71 = .ok (.iload_n 1, 1) := by decide +kernel
theorem dX6_sold_72 : decode cX6_sold 72 = .ok (.iaload, 1) := by decide +kernel
theorem dX6_sold_73 : decode cX6_sold 73 = .ok (.ireturn, 1) := by decide +kernel
theorem dX6_sold_74 : decode cX6_sold 74 = .ok (.aload_n 0, 1) := by decide +kernel
theorem dX6_sold_75 : decode cX6_sold 75 = .ok (.getfield 16, 3) := by decide +kernel
theorem dX6_sold_78 : decode cX6_sold 78 = .ok (.iload_n 1, 1) := by decide +kernel
theorem dX6_sold_79 : decode cX6_sold 79 = .ok (.iaload, 1) := by decide +kernel
theorem dX6_sold_80 : decode cX6_sold 80 = .ok (.ireturn, 1) := by decide +kernel
theorem dX6_sold_81 : decode cX6_sold 81 = .ok (.aload_n 0, 1) := by decide +kernel
theorem dX6_sold_82 : decode cX6_sold 82 = .ok (.getfield 19, 3) := by decide +kernel
theorem dX6_sold_85 : decode cX6_sold 85 = .ok (.iload_n 1, 1) := by decide +kernel
theorem dX6_sold_86 : decode cX6_sold 86 = .ok (.iaload, 1) := by decide +kernel
theorem dX6_sold_87 : decode cX6_sold 87 = .ok (.ireturn, 1) := by decide +kernel
theorem dX6_sold_88 : decode cX6_sold 88 = .ok (.aload_n 0, 1) := by decide +kernel
theorem dX6_sold_89 : decode cX6_sold 89 = .ok (.getfield 22, 3) := by decide +kernel
theorem dX6_sold_92 : decode cX6_sold 92 = .ok (.iload_n 1, 1) := by decide +kernel
theorem dX6_sold_93 : decode cX6_sold 93 = .ok (.iaload, 1) := by decide +kernel
theorem dX6_sold_94 : decode cX6_sold 94 = .ok (.ireturn, 1) := by decide +kernel
theorem dX6_sold_95 : decode cX6_sold 95 = .ok (.aload_n 0, 1) := by decide +kernel
theorem dX6_sold_96 : decode cX6_sold 96 = .ok (.getfield 25, 3) := by decide +kernel
theorem dX6_sold_99 : decode cX6_sold 99 = .ok (.iload_n 1, 1) := by decide +kernel
theorem dX6_sold_100 : decode cX6_sold 100 = .ok (.iaload, 1) := by decide +kernel
theorem dX6_sold_101 : decode cX6_sold 101 = .ok (.ireturn, 1) := by decide +kernel
theorem dX6_sold_102 : decode cX6_sold 102 = .ok (.aload_n 0, 1) := by decide +kernel
theorem dX6_sold_103 : decode cX6_sold 103 = .ok (.getfield 28, 3) := by decide +kernel
theorem dX6_sold_106 : decode cX6_sold 106 = .ok (.iload_n 1, 1) := by decide +kernel
theorem dX6_sold_107 : decode cX6_sold 107 = .ok (.iaload, 1) := by decide +kernel
theorem dX6_sold_108 : decode cX6_sold 108 = .ok (.ireturn, 1) := by decide +kernel
theorem dX6_sold_109 : decode cX6_sold 109 = .ok (.bipush (-2), 2) := by decide +kernel
theorem dX6_sold_111 : decode cX6_sold 111 = .ok (.ireturn, 1) := by decide +kernel
theorem dX6_isKnown_0 : decode cX6_isKnown 0 = .ok (.iload_n 1, 1) := by decide +kernel
theorem dX6_isKnown_1 : decode cX6_isKnown 1 = .ok (.aload_n 0, 1) := by decide +kernel
theorem dX6_isKnown_2 : decode cX6_isKnown 2 = .ok (.getfield 85, 3) := by decide +kernel
theorem dX6_isKnown_5 : decode cX6_isKnown 5 = .ok (.if_icmp .eq 37, 3) := by decide +kernel
theorem dX6_isKnown_8 : decode cX6_isKnown 8 = .ok (.aload_n 0, 1) := by decide +kernel
theorem dX6_isKnown_9 : decode cX6_isKnown 9 = .ok (.getfield 25, 3) := by decide +kernel
theorem dX6_isKnown_12 : decode cX6_isKnown 12 = .ok (.iload_n 1, 1) := by decide +kernel
theorem dX6_isKnown_13 : decode cX6_isKnown 13 = .ok (.iaload, 1) := by decide +kernel
theorem dX6_isKnown_14 : decode cX6_isKnown 14 = .ok (.iload_n 2, 1) := by decide +kernel
theorem dX6_isKnown_15 : decode cX6_isKnown 15 = .ok (.if_icmp .gt 27, 3) := by decide +kernel
theorem dX6_isKnown_18 : decode cX6_isKnown 18 = .ok (.aload_n 0, 1) := by decide +kernel
theorem dX6_isKnown_19 : decode cX6_isKnown 19 = .ok (.getfield 28, 3) := by decide +kernel
theorem dX6_isKnown_22 : decode cX6_isKnown 22 = .ok (.iload_n 1, 1) := by decide +kernel
theorem dX6_isKnown_23 : decode cX6_isKnown 23 = .ok (.iaload, 1) := by decide +kernel
theorem dX6_isKnown_24 : decode cX6_isKnown 24 = .ok (.iconst (-1), 1) := by decide +kernel
theorem dX6_isKnown_25 : decode cX6_isKnown 25 = .ok (.if_icmp .eq 13, 3) := by decide +kernel
theorem dX6_isKnown_28 : decode cX6_isKnown 28 = .ok (.aload_n 0, 1) := by decide +kernel
theorem dX6_isKnown_29 : decode cX6_isKnown 29 = .ok (.getfield 28, 3) := by decide +kernel
theorem dX6_isKnown_32 : decode cX6_isKnown 32 = .ok (.iload_n 1, 1) := by decide +kernel
theorem dX6_isKnown_33 : decode cX6_isKnown 33 = .ok (.iaload, 1) := by decide +kernel
theorem dX6_isKnown_34 : decode cX6_isKnown 34 = .ok (.iload_n 2, 1) := by decide +kernel
theorem dX6_isKnown_35 : decode cX6_isKnown 35 = .ok (.if_icmp .le 7, 3) := by decide +kernel
theorem dX6_isKnown_38 : decode cX6_isKnown 38 = .ok (.iconst 1, 1) := by decide +kernel
theorem dX6_isKnown_39 : decode cX6_isKnown 39 = .ok (.goto 4, 3) := by decide +kernel
theorem dX6_isKnown_42 : decode cX6_isKnown 42 = .ok (.iconst 0, 1) := by decide +kernel
theorem dX6_isKnown_43 : decode cX6_isKnown 43 = .ok (.ireturn, 1) := by decide +kernel
set_option maxRecDepth 20000 in
theorem ggX6_weeklyAt_X6_isKnown : GoodIn wsX6_weeklyAt wsX6_isKnown := goodIn_r _ [10, 11, 12, 13, 14, 15, 16, 17, 18, 19, 20, 21, 22, 23, 24, 25, 26, 27, 28, 29, 30, 31, 32, 33, 34, 35, 36, 37, 38, 39, 40, 41, 42, 43, 44, 45, 46, 47] (by decide +kernel) (by decide +kernel)
set_option maxRecDepth 20000 in
theorem gX6_weeklyAt_X6_isKnown : GoodIn wsX6_weeklyAt (wsV RX6 112 RX6 yX6_isKnown wsX6_isKnown) := goodIn_app (goodIn_of _ (by decide +kernel)) ggX6_weeklyAt_X6_isKnown
theorem dX6_weeklyAt_0 : decode cX6_weeklyAt 0 = .ok (.iload_n 2, 1) := by decide +kernel
theorem dX6_weeklyAt_1 : decode cX6_weeklyAt 1 = .ok (.istore 4, 2) := by decide +kernel
theorem dX6_weeklyAt_3 : decode cX6_weeklyAt 3 = .ok (.iload 4, 2) := by decide +kernel
theorem dX6_weeklyAt_5 : decode cX6_weeklyAt 5 = .ok (.ifCond .lt 115, 3) := by decide +kernel
theorem dX6_weeklyAt_8 : decode cX6_weeklyAt 8 = .ok (.lconst 0, 1) := by decide +kernel
theorem dX6_weeklyAt_9 : decode cX6_weeklyAt 9 = .ok (.lstore 5, 2) := by decide +kernel
theorem dX6_weeklyAt_11 : decode cX6_weeklyAt 11 = .ok (.lconst 0, 1) := by decide +kernel
theorem dX6_weeklyAt_12 : decode cX6_weeklyAt 12 = .ok (.lstore 7, 2) := by decide +kernel
theorem dX6_weeklyAt_14 : decode cX6_weeklyAt 14 = .ok (.iconst 0, 1) := by decide +kernel
theorem dX6_weeklyAt_15 : decode cX6_weeklyAt 15 = .ok (.istore 9, 2) := by decide +kernel
theorem dX6_weeklyAt_17 : decode cX6_weeklyAt 17 = .ok (.iload 9, 2) := by decide +kernel
theorem dX6_weeklyAt_19 : decode cX6_weeklyAt 19 = .ok (.aload_n 0, 1) := by decide +kernel
theorem dX6_weeklyAt_20 : decode cX6_weeklyAt 20 = .ok (.getfield 109, 3) := by decide +kernel
theorem dX6_weeklyAt_23 : decode cX6_weeklyAt 23 = .ok (.if_icmp .ge 77, 3) := by decide +kernel
theorem dX6_weeklyAt_26 : decode cX6_weeklyAt 26 = .ok (.aload_n 0, 1) := by decide +kernel
theorem dX6_weeklyAt_27 : decode cX6_weeklyAt 27 = .ok (.getfield 13, 3) := by decide +kernel
theorem dX6_weeklyAt_30 : decode cX6_weeklyAt 30 = .ok (.iload 9, 2) := by decide +kernel
theorem dX6_weeklyAt_32 : decode cX6_weeklyAt 32 = .ok (.iaload, 1) := by decide +kernel
theorem dX6_weeklyAt_33 : decode cX6_weeklyAt 33 = .ok (.iload_n 1, 1) := by decide +kernel
theorem dX6_weeklyAt_34 : decode cX6_weeklyAt 34 = .ok (.if_icmp .ne 60, 3) := by decide +kernel
theorem dX6_weeklyAt_37 : decode cX6_weeklyAt 37 = .ok (.aload_n 0, 1) := by decide +kernel
theorem dX6_weeklyAt_38 : decode cX6_weeklyAt 38 = .ok (.getfield 16, 3) := by decide +kernel
theorem dX6_weeklyAt_41 : decode cX6_weeklyAt 41 = .ok (.iload 9, 2) := by decide +kernel
theorem dX6_weeklyAt_43 : decode cX6_weeklyAt 43 = .ok (.iaload, 1) := by decide +kernel
theorem dX6_weeklyAt_44 : decode cX6_weeklyAt 44 = .ok (.iload 4, 2) := by decide +kernel
theorem dX6_weeklyAt_46 : decode cX6_weeklyAt 46 = .ok (.if_icmp .ne 48, 3) := by decide +kernel
theorem dX6_weeklyAt_49 : decode cX6_weeklyAt 49 = .ok (.aload_n 0, 1) := by decide +kernel
theorem dX6_weeklyAt_50 : decode cX6_weeklyAt 50 = .ok (.iload 9, 2) := by decide +kernel
theorem dX6_weeklyAt_52 : decode cX6_weeklyAt 52 = .ok (.iload_n 3, 1) := by decide +kernel
theorem dX6_weeklyAt_53 : decode cX6_weeklyAt 53 = .ok (.invokevirtual 112, 3) := by decide +kernel
theorem dX6_weeklyAt_56 : decode cX6_weeklyAt 56 = .ok (.ifCond .eq 38, 3) := by decide +kernel
theorem dX6_weeklyAt_59 : decode cX6_weeklyAt 59 = .ok (.lload 5, 2) := by decide +kernel
theorem dX6_weeklyAt_61 : decode cX6_weeklyAt 61 = .ok (.aload_n 0, 1) := by decide +kernel
theorem dX6_weeklyAt_62 : decode cX6_weeklyAt 62 = .ok (.getfield 22, 3) := by decide +kernel
theorem dX6_weeklyAt_65 : decode cX6_weeklyAt 65 = .ok (.iload 9, 2) := by decide +kernel
theorem dX6_weeklyAt_67 : decode cX6_weeklyAt 67 = .ok (.iaload, 1) := by decide +kernel
theorem dX6_weeklyAt_68 : decode cX6_weeklyAt 68 = .ok (.i2l, 1) := by decide +kernel
theorem dX6_weeklyAt_69 : decode cX6_weeklyAt 69 = .ok (.aload_n 0, 1) := by decide +kernel
theorem dX6_weeklyAt_70 : decode cX6_weeklyAt 70 = .ok (.getfield 19, 3) := by decide +kernel
theorem dX6_weeklyAt_73 : decode cX6_weeklyAt 73 = .ok (.iload 9, 2) := by decide +kernel
theorem dX6_weeklyAt_75 : decode cX6_weeklyAt 75 = .ok (.iaload, 1) := by decide +kernel
theorem dX6_weeklyAt_76 : decode cX6_weeklyAt 76 = .ok (.i2l, 1) := by decide +kernel
theorem dX6_weeklyAt_77 : decode cX6_weeklyAt 77 = .ok (.lmul, 1) := by decide +kernel
theorem dX6_weeklyAt_78 : decode cX6_weeklyAt 78 = .ok (.ladd, 1) := by decide +kernel
theorem dX6_weeklyAt_79 : decode cX6_weeklyAt 79 = .ok (.lstore 5, 2) := by decide +kernel
theorem dX6_weeklyAt_81 : decode cX6_weeklyAt 81 = .ok (.lload 7, 2) := by decide +kernel
theorem dX6_weeklyAt_83 : decode cX6_weeklyAt 83 = .ok (.aload_n 0, 1) := by decide +kernel
theorem dX6_weeklyAt_84 : decode cX6_weeklyAt 84 = .ok (.getfield 19, 3) := by decide +kernel
theorem dX6_weeklyAt_87 : decode cX6_weeklyAt 87 = .ok (.iload 9, 2) := by decide +kernel
theorem dX6_weeklyAt_89 : decode cX6_weeklyAt 89 = .ok (.iaload, 1) := by decide +kernel
theorem dX6_weeklyAt_90 : decode cX6_weeklyAt 90 = .ok (.i2l, 1) := by decide +kernel
theorem dX6_weeklyAt_91 : decode cX6_weeklyAt 91 = .ok (.ladd, 1) := by decide +kernel
theorem dX6_weeklyAt_92 : decode cX6_weeklyAt 92 = .ok (.lstore 7, 2) := by decide +kernel
theorem dX6_weeklyAt_94 : decode cX6_weeklyAt 94 = .ok (.iinc 9 1, 3) := by decide +kernel
theorem dX6_weeklyAt_97 : decode cX6_weeklyAt 97 = .ok (.goto (-80), 3) := by decide +kernel
theorem dX6_weeklyAt_100 : decode cX6_weeklyAt 100 = .ok (.lload 7, 2) := by decide +kernel
theorem dX6_weeklyAt_102 : decode cX6_weeklyAt 102 = .ok (.lconst 0, 1) := by decide +kernel
theorem dX6_weeklyAt_103 : decode cX6_weeklyAt 103 = .ok (.lcmp, 1) := by decide +kernel
theorem dX6_weeklyAt_104 : decode cX6_weeklyAt 104 = .ok (.ifCond .le 10, 3) := by decide +kernel
theorem dX6_weeklyAt_107 : decode cX6_weeklyAt 107 = .ok (.lload 5, 2) := by decide +kernel
theorem dX6_weeklyAt_109 : decode cX6_weeklyAt 109 = .ok (.lload 7, 2) := by decide +kernel
theorem dX6_weeklyAt_111 : decode cX6_weeklyAt 111 = .ok (.ldiv, 1) := by decide +kernel
theorem dX6_weeklyAt_112 : decode cX6_weeklyAt 112 = .ok (.l2i, 1) := by decide +kernel
theorem dX6_weeklyAt_113 : decode cX6_weeklyAt 113 = .ok (.ireturn, 1) := by decide +kernel
theorem dX6_weeklyAt_114 : decode cX6_weeklyAt 114 = .ok (.iinc 4 (-1), 3) := by decide +kernel
theorem dX6_weeklyAt_117 : decode cX6_weeklyAt 117 = .ok (.goto (-114), 3) := by decide +kernel
theorem dX6_weeklyAt_120 : decode cX6_weeklyAt 120 = .ok (.iconst (-1), 1) := by decide +kernel
theorem dX6_weeklyAt_121 : decode cX6_weeklyAt 121 = .ok (.ireturn, 1) := by decide +kernel
set_option maxRecDepth 20000 in
theorem ggX6_weekly_X6_isGrain : GoodIn wsX6_weekly wsX6_isGrain := goodIn_r _ [4, 5, 6, 3, 7] (by decide +kernel) (by decide +kernel)
set_option maxRecDepth 20000 in
theorem gX6_weekly_X6_isGrain : GoodIn wsX6_weekly (va_wsS RX6 105 yX6_isGrain wsX6_isGrain) := goodIn_app (goodIn_of _ (by decide +kernel)) ggX6_weekly_X6_isGrain
set_option maxRecDepth 20000 in
theorem ggX6_weekly_X6_in : GoodIn wsX6_weekly wsX6_in := goodIn_r _ [7] (by decide +kernel) (by decide +kernel)
set_option maxRecDepth 20000 in
theorem gX6_weekly_X6_in : GoodIn wsX6_weekly (va_wsS RX6 92 yX6_in wsX6_in) := goodIn_app (goodIn_of _ (by decide +kernel)) ggX6_weekly_X6_in
set_option maxRecDepth 20000 in
theorem ggX6_weekly_X6_weeklyAt : GoodIn wsX6_weekly wsX6_weeklyAt := goodIn_r _ [11, 12, 13, 14, 15, 16, 17, 18, 19, 3, 20, 21, 22, 23, 24, 25, 26, 27, 28, 29, 30, 31, 32, 33, 34, 35, 36, 37, 38, 39, 40, 41, 42, 43, 44, 45, 46, 47, 48, 49, 50, 51, 52, 53, 54, 55, 56, 57] (by decide +kernel) (by decide +kernel)
set_option maxRecDepth 20000 in
theorem gX6_weekly_X6_weeklyAt : GoodIn wsX6_weekly (wsV RX6 116 RX6 yX6_weeklyAt wsX6_weeklyAt) := goodIn_app (goodIn_of _ (by decide +kernel)) ggX6_weekly_X6_weeklyAt
theorem dX6_weekly_0 : decode cX6_weekly 0 = .ok (.iload_n 1, 1) := by decide +kernel
theorem dX6_weekly_1 : decode cX6_weekly 1 = .ok (.invokestatic 105, 3) := by decide +kernel
theorem dX6_weekly_4 : decode cX6_weekly 4 = .ok (.ifCond .eq 35, 3) := by decide +kernel
theorem dX6_weekly_7 : decode cX6_weekly 7 = .ok (.iload_n 2, 1) := by decide +kernel
theorem dX6_weekly_8 : decode cX6_weekly 8 = .ok (.iconst 0, 1) := by decide +kernel
theorem dX6_weekly_9 : decode cX6_weekly 9 = .ok (.sipush 200, 3) := by decide +kernel
theorem dX6_weekly_12 : decode cX6_weekly 12 = .ok (.invokestatic 92, 3) := by decide +kernel
theorem dX6_weekly_15 : decode cX6_weekly 15 = .ok (.ifCond .eq 24, 3) := by decide +kernel
theorem dX6_weekly_18 : decode cX6_weekly 18 = .ok (.iload_n 3, 1) := by decide +kernel
theorem dX6_weekly_19 : decode cX6_weekly 19 = .ok (.iconst 0, 1) := by decide +kernel
theorem dX6_weekly_20 : decode cX6_weekly 20 = .ok (.sipush 200, 3) := by decide +kernel
theorem dX6_weekly_23 : decode cX6_weekly 23 = .ok (.invokestatic 92, 3) := by decide +kernel
theorem dX6_weekly_26 : decode cX6_weekly 26 = .ok (.ifCond .eq 13, 3) := by decide +kernel
theorem dX6_weekly_29 : decode cX6_weekly 29 = .ok (.aload_n 0, 1) := by decide +kernel
theorem dX6_weekly_30 : decode cX6_weekly 30 = .ok (.iload_n 1, 1) := by decide +kernel
theorem dX6_weekly_31 : decode cX6_weekly 31 = .ok (.iload_n 2, 1) := by decide +kernel
theorem dX6_weekly_32 : decode cX6_weekly 32 = .ok (.iload_n 3, 1) := by decide +kernel
theorem dX6_weekly_33 : decode cX6_weekly 33 = .ok (.invokevirtual 116, 3) := by decide +kernel
theorem dX6_weekly_36 : decode cX6_weekly 36 = .ok (.goto 5, 3) := by decide +kernel
theorem dX6_weekly_39 : decode cX6_weekly 39 = .ok (.bipush (-2), 2) := by decide +kernel
theorem dX6_weekly_41 : decode cX6_weekly 41 = .ok (.ireturn, 1) := by decide +kernel
set_option maxRecDepth 20000 in
theorem ggX6_averageAt_X6_weeklyAt : GoodIn wsX6_averageAt wsX6_weeklyAt := goodIn_r _ [5, 6, 7, 8, 9, 10, 11, 12, 13, 4, 14, 15, 16, 17, 18, 19, 20, 21, 22, 23, 24, 25, 26, 27, 28, 29, 30, 31, 32, 33, 34, 35, 36, 37, 38, 39, 40, 41, 42, 43, 44, 45, 46, 47, 48, 49, 50, 51] (by decide +kernel) (by decide +kernel)
set_option maxRecDepth 20000 in
theorem gX6_averageAt_X6_weeklyAt : GoodIn wsX6_averageAt (wsV RX6 116 RX6 yX6_weeklyAt wsX6_weeklyAt) := goodIn_app (goodIn_of _ (by decide +kernel)) ggX6_averageAt_X6_weeklyAt
theorem dX6_averageAt_0 : decode cX6_averageAt 0 = .ok (.iconst 0, 1) := by decide +kernel
theorem dX6_averageAt_1 : decode cX6_averageAt 1 = .ok (.istore 4, 2) := by decide +kernel
theorem dX6_averageAt_3 : decode cX6_averageAt 3 = .ok (.iload_n 2, 1) := by decide +kernel
theorem dX6_averageAt_4 : decode cX6_averageAt 4 = .ok (.bipush 6, 2) := by decide +kernel
theorem dX6_averageAt_6 : decode cX6_averageAt 6 = .ok (.isub, 1) := by decide +kernel
theorem dX6_averageAt_7 : decode cX6_averageAt 7 = .ok (.istore 5, 2) := by decide +kernel
theorem dX6_averageAt_9 : decode cX6_averageAt 9 = .ok (.iload 5, 2) := by decide +kernel
theorem dX6_averageAt_11 : decode cX6_averageAt 11 = .ok (.iload_n 2, 1) := by decide +kernel
theorem dX6_averageAt_12 : decode cX6_averageAt 12 = .ok (.if_icmp .ge 43, 3) := by decide +kernel
theorem dX6_averageAt_15 : decode cX6_averageAt 15 = .ok (.iload 5, 2) := by decide +kernel
theorem dX6_averageAt_17 : decode cX6_averageAt 17 = .ok (.ifCond .ge 7, 3) := by decide +kernel
theorem dX6_averageAt_20 : decode cX6_averageAt 20 = .ok (.iconst (-1), 1) := by decide +kernel
theorem dX6_averageAt_21 : decode cX6_averageAt 21 = .ok (.goto 11, 3) := by decide +kernel
theorem dX6_averageAt_24 : decode cX6_averageAt 24 = .ok (.aload_n 0, 1) := by decide +kernel
theorem dX6_averageAt_25 : decode cX6_averageAt 25 = .ok (.iload_n 1, 1) := by decide +kernel
theorem dX6_averageAt_26 : decode cX6_averageAt 26 = .ok (.iload 5, 2) := by decide +kernel
theorem dX6_averageAt_28 : decode cX6_averageAt 28 = .ok (.iload_n 3, 1) := by decide +kernel
theorem dX6_averageAt_29 : decode cX6_averageAt 29 = .ok (.invokevirtual 116, 3) := by decide +kernel
theorem dX6_averageAt_32 : decode cX6_averageAt 32 = .ok (.istore 6, 2) := by decide +kernel
theorem dX6_averageAt_34 : decode cX6_averageAt 34 = .ok (.iload 6, 2) := by decide +kernel
theorem dX6_averageAt_36 : decode cX6_averageAt 36 = .ok (.iconst (-1), 1) := by decide +kernel
theorem dX6_averageAt_37 : decode cX6_averageAt 37 = .ok (.if_icmp .ne 5, 3) := by decide +kernel
theorem dX6_averageAt_40 : decode cX6_averageAt 40 = .ok (.iconst (-1), 1) := by decide +kernel
theorem dX6_averageAt_41 : decode cX6_averageAt 41 = .ok (.ireturn, 1) := by decide +kernel
theorem dX6_averageAt_42 : decode cX6_averageAt 42 = .ok (.iload 4, 2) := by decide +kernel
theorem dX6_averageAt_44 : decode cX6_averageAt 44 = .ok (.iload 6, 2) := by decide +kernel
theorem dX6_averageAt_46 : decode cX6_averageAt 46 = .ok (.iadd, 1) := by decide +kernel
theorem dX6_averageAt_47 : decode cX6_averageAt 47 = .ok (.istore 4, 2) := by decide +kernel
theorem dX6_averageAt_49 : decode cX6_averageAt 49 = .ok (.iinc 5 1, 3) := by decide +kernel
theorem dX6_averageAt_52 : decode cX6_averageAt 52 = .ok (.goto (-43), 3) := by decide +kernel
theorem dX6_averageAt_55 : decode cX6_averageAt 55 = .ok (.iload 4, 2) := by decide +kernel
theorem dX6_averageAt_57 : decode cX6_averageAt 57 = .ok (.bipush 6, 2) := by decide +kernel
theorem dX6_averageAt_59 : decode cX6_averageAt 59 = .ok (.idiv, 1) := by decide +kernel
theorem dX6_averageAt_60 : decode cX6_averageAt 60 = .ok (.ireturn, 1) := by decide +kernel
set_option maxRecDepth 20000 in
theorem ggX6_average_X6_isGrain : GoodIn wsX6_average wsX6_isGrain := goodIn_r _ [4, 5, 6, 3, 7] (by decide +kernel) (by decide +kernel)
set_option maxRecDepth 20000 in
theorem gX6_average_X6_isGrain : GoodIn wsX6_average (va_wsS RX6 105 yX6_isGrain wsX6_isGrain) := goodIn_app (goodIn_of _ (by decide +kernel)) ggX6_average_X6_isGrain
set_option maxRecDepth 20000 in
theorem ggX6_average_X6_in : GoodIn wsX6_average wsX6_in := goodIn_r _ [7] (by decide +kernel) (by decide +kernel)
set_option maxRecDepth 20000 in
theorem gX6_average_X6_in : GoodIn wsX6_average (va_wsS RX6 92 yX6_in wsX6_in) := goodIn_app (goodIn_of _ (by decide +kernel)) ggX6_average_X6_in
set_option maxRecDepth 20000 in
theorem ggX6_average_X6_averageAt : GoodIn wsX6_average wsX6_averageAt := goodIn_r _ [11, 12, 13, 14, 3, 15, 16, 17, 18, 19, 20, 21, 22, 23, 24, 25, 26, 27, 28, 29, 30, 31, 32, 33, 34, 35, 36, 37, 38, 39, 40, 41, 42, 43, 44, 45, 46, 47, 48, 49, 50, 51, 52, 53, 54, 55, 56, 57, 58, 59, 60, 61] (by decide +kernel) (by decide +kernel)
set_option maxRecDepth 20000 in
theorem gX6_average_X6_averageAt : GoodIn wsX6_average (wsV RX6 120 RX6 yX6_averageAt wsX6_averageAt) := goodIn_app (goodIn_of _ (by decide +kernel)) ggX6_average_X6_averageAt
theorem dX6_average_0 : decode cX6_average 0 = .ok (.iload_n 1, 1) := by decide +kernel
theorem dX6_average_1 : decode cX6_average 1 = .ok (.invokestatic 105, 3) := by decide +kernel
theorem dX6_average_4 : decode cX6_average 4 = .ok (.ifCond .eq 24, 3) := by decide +kernel
theorem dX6_average_7 : decode cX6_average 7 = .ok (.iload_n 2, 1) := by decide +kernel
theorem dX6_average_8 : decode cX6_average 8 = .ok (.iconst 0, 1) := by decide +kernel
theorem dX6_average_9 : decode cX6_average 9 = .ok (.sipush 220, 3) := by decide +kernel
theorem dX6_average_12 : decode cX6_average 12 = .ok (.invokestatic 92, 3) := by decide +kernel
theorem dX6_average_15 : decode cX6_average 15 = .ok (.ifCond .eq 13, 3) := by decide +kernel
theorem dX6_average_18 : decode cX6_average 18 = .ok (.aload_n 0, 1) := by decide +kernel
theorem dX6_average_19 : decode cX6_average 19 = .ok (.iload_n 1, 1) := by decide +kernel
theorem dX6_average_20 : decode cX6_average 20 = .ok (.iload_n 2, 1) := by decide +kernel
theorem dX6_average_21 : decode cX6_average 21 = .ok (.iload_n 2, 1) := by decide +kernel
theorem dX6_average_22 : decode cX6_average 22 = .ok (.invokevirtual 120, 3) := by decide +kernel
theorem dX6_average_25 : decode cX6_average 25 = .ok (.goto 5, 3) := by decide +kernel
theorem dX6_average_28 : decode cX6_average 28 = .ok (.bipush (-2), 2) := by decide +kernel
theorem dX6_average_30 : decode cX6_average 30 = .ok (.ireturn, 1) := by decide +kernel
set_option maxRecDepth 20000 in
theorem ggX6_towns_X6_in : GoodIn wsX6_towns wsX6_in := goodIn_r _ [7] (by decide +kernel) (by decide +kernel)
set_option maxRecDepth 20000 in
theorem gX6_towns_X6_in : GoodIn wsX6_towns (va_wsS RX6 92 yX6_in wsX6_in) := goodIn_app (goodIn_of _ (by decide +kernel)) ggX6_towns_X6_in
set_option maxRecDepth 20000 in
theorem ggX6_towns_X6_isKnown : GoodIn wsX6_towns wsX6_isKnown := goodIn_r _ [11, 12, 13, 14, 15, 16, 17, 18, 19, 20, 21, 22, 23, 24, 25, 26, 27, 28, 29, 30, 31, 32, 33, 34, 35, 36, 37, 38, 39, 40, 41, 42, 43, 44, 45, 46, 47, 48] (by decide +kernel) (by decide +kernel)
set_option maxRecDepth 20000 in
theorem gX6_towns_X6_isKnown : GoodIn wsX6_towns (wsV RX6 112 RX6 yX6_isKnown wsX6_isKnown) := goodIn_app (goodIn_of _ (by decide +kernel)) ggX6_towns_X6_isKnown
theorem dX6_towns_0 : decode cX6_towns 0 = .ok (.iload_n 1, 1) := by decide +kernel
theorem dX6_towns_1 : decode cX6_towns 1 = .ok (.iconst 0, 1) := by decide +kernel
theorem dX6_towns_2 : decode cX6_towns 2 = .ok (.sipush 200, 3) := by decide +kernel
theorem dX6_towns_5 : decode cX6_towns 5 = .ok (.invokestatic 92, 3) := by decide +kernel
theorem dX6_towns_8 : decode cX6_towns 8 = .ok (.ifCond .eq 14, 3) := by decide +kernel
theorem dX6_towns_11 : decode cX6_towns 11 = .ok (.iload_n 2, 1) := by decide +kernel
theorem dX6_towns_12 : decode cX6_towns 12 = .ok (.iconst 0, 1) := by decide +kernel
theorem dX6_towns_13 : decode cX6_towns 13 = .ok (.sipush 200, 3) := by decide +kernel
theorem dX6_towns_16 : decode cX6_towns 16 = .ok (.invokestatic 92, 3) := by decide +kernel
theorem dX6_towns_19 : decode cX6_towns 19 = .ok (.ifCond .ne 6, 3) := by decide +kernel
theorem dX6_towns_22 : decode cX6_towns 22 = .ok (.bipush (-2), 2) := by decide +kernel
theorem dX6_towns_24 : decode cX6_towns 24 = .ok (.ireturn, 1) := by decide +kernel
theorem dX6_towns_25 : decode cX6_towns 25 = .ok (.iconst 0, 1) := by decide +kernel
theorem dX6_towns_26 : decode cX6_towns 26 = .ok (.istore_n 3, 1) := by decide +kernel
theorem dX6_towns_27 : decode cX6_towns 27 = .ok (.iconst 0, 1) := by decide +kernel
theorem dX6_towns_28 : decode cX6_towns 28 = .ok (.istore 4, 2) := by decide +kernel
theorem dX6_towns_30 : decode cX6_towns 30 = .ok (.iload 4, 2) := by decide +kernel
theorem dX6_towns_32 : decode cX6_towns 32 = .ok (.aload_n 0, 1) := by decide +kernel
theorem dX6_towns_33 : decode cX6_towns 33 = .ok (.getfield 109, 3) := by decide +kernel
theorem dX6_towns_36 : decode cX6_towns 36 = .ok (.if_icmp .ge 46, 3) := by decide +kernel
theorem dX6_towns_39 : decode cX6_towns 39 = .ok (.iload_n 3, 1) := by decide +kernel
theorem dX6_towns_40 : decode cX6_towns 40 = .ok (.aload_n 0, 1) := by decide +kernel
theorem dX6_towns_41 : decode cX6_towns 41 = .ok (.getfield 16, 3) := by decide +kernel
theorem dX6_towns_44 : decode cX6_towns 44 = .ok (.iload 4, 2) := by decide +kernel
theorem dX6_towns_46 : decode cX6_towns 46 = .ok (.iaload, 1) := by decide +kernel
theorem dX6_towns_47 : decode cX6_towns 47 = .ok (.iload_n 1, 1) := by decide +kernel
theorem dX6_towns_48 : decode cX6_towns 48 = .ok (.if_icmp .ne 25, 3) := by decide +kernel
theorem dX6_towns_51 : decode cX6_towns 51 = .ok (.aload_n 0, 1) := by decide +kernel
theorem dX6_towns_52 : decode cX6_towns 52 = .ok (.iload 4, 2) := by decide +kernel
theorem dX6_towns_54 : decode cX6_towns 54 = .ok (.iload_n 2, 1) := by decide +kernel
theorem dX6_towns_55 : decode cX6_towns 55 = .ok (.invokevirtual 112, 3) := by decide +kernel
theorem dX6_towns_58 : decode cX6_towns 58 = .ok (.ifCond .eq 15, 3) := by decide +kernel
theorem dX6_towns_61 : decode cX6_towns 61 = .ok (.iconst 1, 1) := by decide +kernel
theorem dX6_towns_62 : decode cX6_towns 62 = .ok (.aload_n 0, 1) := by decide +kernel
theorem dX6_towns_63 : decode cX6_towns 63 = .ok (.getfield 7, 3) := by decide +kernel
theorem dX6_towns_66 : decode cX6_towns 66 = .ok (.iload 4, 2) := by decide +kernel
theorem dX6_towns_68 : decode cX6_towns 68 = .ok (.iaload, 1) := by decide +kernel
theorem dX6_towns_69 : decode cX6_towns 69 = .ok (.ishl, 1) := by decide +kernel
theorem dX6_towns_70 : decode cX6_towns 70 = .ok (.goto 4, 3) := by decide +kernel
theorem dX6_towns_73 : decode cX6_towns 73 = .ok (.iconst 0, 1) := by decide +kernel
theorem dX6_towns_74 : decode cX6_towns 74 = .ok (.ior, 1) := by decide +kernel
theorem dX6_towns_75 : decode cX6_towns 75 = .ok (.istore_n 3, 1) := by decide +kernel
theorem dX6_towns_76 : decode cX6_towns 76 = .ok (.iinc 4 1, 3) := by decide +kernel
theorem dX6_towns_79 : decode cX6_towns 79 = .ok (.goto (-49), 3) := by decide +kernel
theorem dX6_towns_82 : decode cX6_towns 82 = .ok (.iconst 0, 1) := by decide +kernel
theorem dX6_towns_83 : decode cX6_towns 83 = .ok (.istore 4, 2) := by decide +kernel
theorem dX6_towns_85 : decode cX6_towns 85 = .ok (.iconst 0, 1) := by decide +kernel
theorem dX6_towns_86 : decode cX6_towns 86 = .ok (.istore 5, 2) := by decide +kernel
theorem dX6_towns_88 : decode cX6_towns 88 = .ok (.iload 5, 2) := by decide +kernel
theorem dX6_towns_90 : decode cX6_towns 90 = .ok (.bipush 10, 2) := by decide +kernel
theorem dX6_towns_92 : decode cX6_towns 92 = .ok (.if_icmp .ge 20, 3) := by decide +kernel
theorem dX6_towns_95 : decode cX6_towns 95 = .ok (.iload 4, 2) := by decide +kernel
theorem dX6_towns_97 : decode cX6_towns 97 = .ok (.iload_n 3, 1) := by decide +kernel
theorem dX6_towns_98 : decode cX6_towns 98 = .ok (.iload 5, 2) := by decide +kernel
theorem dX6_towns_100 : decode cX6_towns 100 = .ok (.ishr, 1) := by decide +kernel
theorem dX6_towns_101 : decode cX6_towns 101 = .ok (.iconst 1, 1) := by decide +kernel
theorem dX6_towns_102 : decode cX6_towns 102 = .ok (.iand, 1) := by decide +kernel
theorem dX6_towns_103 : decode cX6_towns 103 = .ok (.iadd, 1) := by decide +kernel
theorem dX6_towns_104 : decode cX6_towns 104 = .ok (.istore 4, 2) := by decide +kernel
theorem dX6_towns_106 : decode cX6_towns 106 = .ok (.iinc 5 1, 3) := by decide +kernel
theorem dX6_towns_109 : decode cX6_towns 109 = .ok (.goto (-21), 3) := by decide +kernel
theorem dX6_towns_112 : decode cX6_towns 112 = .ok (.iload 4, 2) := by decide +kernel
theorem dX6_towns_114 : decode cX6_towns 114 = .ok (.ireturn, 1) := by decide +kernel
set_option maxRecDepth 20000 in
theorem ggX6_scale_X6_isGrain : GoodIn wsX6_scale wsX6_isGrain := goodIn_r _ [10, 11, 12, 9, 13] (by decide +kernel) (by decide +kernel)
set_option maxRecDepth 20000 in
theorem gX6_scale_X6_isGrain : GoodIn wsX6_scale (va_wsS RX6 105 yX6_isGrain wsX6_isGrain) := goodIn_app (goodIn_of _ (by decide +kernel)) ggX6_scale_X6_isGrain
set_option maxRecDepth 20000 in
theorem ggX6_scale_X6_in : GoodIn wsX6_scale wsX6_in := goodIn_r _ [13] (by decide +kernel) (by decide +kernel)
set_option maxRecDepth 20000 in
theorem gX6_scale_X6_in : GoodIn wsX6_scale (va_wsS RX6 92 yX6_in wsX6_in) := goodIn_app (goodIn_of _ (by decide +kernel)) ggX6_scale_X6_in
theorem dX6_scale_0 : decode cX6_scale 0 = .ok (.iload_n 1, 1) := by decide +kernel
theorem dX6_scale_1 : decode cX6_scale 1 = .ok (.invokestatic 105, 3) := by decide +kernel
theorem dX6_scale_4 : decode cX6_scale 4 = .ok (.ifCond .eq 17, 3) := by decide +kernel
theorem dX6_scale_7 : decode cX6_scale 7 = .ok (.iload_n 2, 1) := by decide +kernel
theorem dX6_scale_8 : decode cX6_scale 8 = .ok (.aload_n 0, 1) := by decide +kernel
theorem dX6_scale_9 : decode cX6_scale 9 = .ok (.getfield 96, 3) := by decide +kernel
theorem dX6_scale_12 : decode cX6_scale 12 = .ok (.sipush 200, 3) := by decide +kernel
theorem dX6_scale_15 : decode cX6_scale 15 = .ok (.invokestatic 92, 3) := by decide +kernel
theorem dX6_scale_18 : decode cX6_scale 18 = .ok (.ifCond .ne 6, 3) := by decide +kernel
theorem dX6_scale_21 : decode cX6_scale 21 = .ok (.bipush (-2), 2) := by decide +kernel
theorem dX6_scale_23 : decode cX6_scale 23 = .ok (.ireturn, 1) := by decide +kernel
theorem dX6_scale_24 : decode cX6_scale 24 = .ok (.aload_n 0, 1) := by decide +kernel
theorem dX6_scale_25 : decode cX6_scale 25 = .ok (.getfield 123, 3) := by decide +kernel
theorem dX6_scale_28 : decode cX6_scale 28 = .ok (.bipush 8, 2) := by decide +kernel
theorem dX6_scale_30 : decode cX6_scale 30 = .ok (.if_icmp .ne 6, 3) := by decide +kernel
theorem dX6_scale_33 : decode cX6_scale 33 = .ok (.bipush (-4), 2) := by decide +kernel
theorem dX6_scale_35 : decode cX6_scale 35 = .ok (.ireturn, 1) := by decide +kernel
theorem dX6_scale_36 : decode cX6_scale 36 = .ok (.aload_n 0, 1) := by decide +kernel
theorem dX6_scale_37 : decode cX6_scale 37 = .ok (.getfield 31, 3) := by decide +kernel
theorem dX6_scale_40 : decode cX6_scale 40 = .ok (.aload_n 0, 1) := by decide +kernel
theorem dX6_scale_41 : decode cX6_scale 41 = .ok (.getfield 123, 3) := by decide +kernel
theorem dX6_scale_44 : decode cX6_scale 44 = .ok (.iload_n 1, 1) := by decide +kernel
theorem dX6_scale_45 : decode cX6_scale 45 = .ok (.iastore, 1) := by decide +kernel
theorem dX6_scale_46 : decode cX6_scale 46 = .ok (.aload_n 0, 1) := by decide +kernel
theorem dX6_scale_47 : decode cX6_scale 47 = .ok (.getfield 34, 3) := by decide +kernel
theorem dX6_scale_50 : decode cX6_scale 50 = .ok (.aload_n 0, 1) := by decide +kernel
theorem dX6_scale_51 : decode cX6_scale 51 = .ok (.getfield 123, 3) := by decide +kernel
theorem dX6_scale_54 : decode cX6_scale 54 = .ok (.iload_n 2, 1) := by decide +kernel
theorem dX6_scale_55 : decode cX6_scale 55 = .ok (.iastore, 1) := by decide +kernel
theorem dX6_scale_56 : decode cX6_scale 56 = .ok (.aload_n 0, 1) := by decide +kernel
theorem dX6_scale_57 : decode cX6_scale 57 = .ok (.getfield 37, 3) := by decide +kernel
theorem dX6_scale_60 : decode cX6_scale 60 = .ok (.aload_n 0, 1) := by decide +kernel
theorem dX6_scale_61 : decode cX6_scale 61 = .ok (.getfield 123, 3) := by decide +kernel
theorem dX6_scale_64 : decode cX6_scale 64 = .ok (.aload_n 0, 1) := by decide +kernel
theorem dX6_scale_65 : decode cX6_scale 65 = .ok (.getfield 96, 3) := by decide +kernel
theorem dX6_scale_68 : decode cX6_scale 68 = .ok (.iastore, 1) := by decide +kernel
theorem dX6_scale_69 : decode cX6_scale 69 = .ok (.aload_n 0, 1) := by decide +kernel
theorem dX6_scale_70 : decode cX6_scale 70 = .ok (.getfield 40, 3) := by decide +kernel
theorem dX6_scale_73 : decode cX6_scale 73 = .ok (.aload_n 0, 1) := by decide +kernel
theorem dX6_scale_74 : decode cX6_scale 74 = .ok (.getfield 123, 3) := by decide +kernel
theorem dX6_scale_77 : decode cX6_scale 77 = .ok (.iconst 0, 1) := by decide +kernel
theorem dX6_scale_78 : decode cX6_scale 78 = .ok (.iastore, 1) := by decide +kernel
theorem dX6_scale_79 : decode cX6_scale 79 = .ok (.aload_n 0, 1) := by decide +kernel
theorem dX6_scale_80 : decode cX6_scale 80 = .ok (.dup, 1) := by decide +kernel
theorem dX6_scale_81 : decode cX6_scale 81 = .ok (.getfield 123, 3) := by decide +kernel
theorem dX6_scale_84 : decode cX6_scale 84 = .ok (.iconst 1, 1) := by decide +kernel
theorem dX6_scale_85 : decode cX6_scale 85 = .ok (.iadd, 1) := by decide +kernel
theorem dX6_scale_86 : decode cX6_scale 86 = .ok (.putfield 123, 3) := by decide +kernel
theorem dX6_scale_89 : decode cX6_scale 89 = .ok (.aload_n 0, 1) := by decide +kernel
theorem dX6_scale_90 : decode cX6_scale 90 = .ok (.getfield 123, 3) := by decide +kernel
theorem dX6_scale_93 : decode cX6_scale 93 = .ok (.iconst 1, 1) := by decide +kernel
theorem dX6_scale_94 : decode cX6_scale 94 = .ok (.isub, 1) := by decide +kernel
theorem dX6_scale_95 : decode cX6_scale 95 = .ok (.ireturn, 1) := by decide +kernel
set_option maxRecDepth 20000 in
theorem ggX6_isScale_X6_in : GoodIn wsX6_isScale wsX6_in := goodIn_r _ [5] (by decide +kernel) (by decide +kernel)
set_option maxRecDepth 20000 in
theorem gX6_isScale_X6_in : GoodIn wsX6_isScale (va_wsS RX6 92 yX6_in wsX6_in) := goodIn_app (goodIn_of _ (by decide +kernel)) ggX6_isScale_X6_in
theorem dX6_isScale_0 : decode cX6_isScale 0 = .ok (.iload_n 1, 1) := by decide +kernel
theorem dX6_isScale_1 : decode cX6_isScale 1 = .ok (.iconst 0, 1) := by decide +kernel
theorem dX6_isScale_2 : decode cX6_isScale 2 = .ok (.aload_n 0, 1) := by decide +kernel
theorem dX6_isScale_3 : decode cX6_isScale 3 = .ok (.getfield 123, 3) := by decide +kernel
theorem dX6_isScale_6 : decode cX6_isScale 6 = .ok (.iconst 1, 1) := by decide +kernel
theorem dX6_isScale_7 : decode cX6_isScale 7 = .ok (.isub, 1) := by decide +kernel
theorem dX6_isScale_8 : decode cX6_isScale 8 = .ok (.invokestatic 92, 3) := by decide +kernel
theorem dX6_isScale_11 : decode cX6_isScale 11 = .ok (.ireturn, 1) := by decide +kernel
set_option maxRecDepth 20000 in
theorem ggX6_step_X6_isScale : GoodIn wsX6_step wsX6_isScale := goodIn_r _ [11, 12, 13, 14, 10, 15, 16, 17, 18, 19, 20, 21, 22, 23, 24, 25, 26, 27, 28, 29, 30, 31, 32, 33, 34, 35, 36, 37, 38, 39, 40, 41, 42, 43, 44, 45, 46, 47, 48, 49] (by decide +kernel) (by decide +kernel)
set_option maxRecDepth 20000 in
theorem gX6_step_X6_isScale : GoodIn wsX6_step (wsV RX6 126 RX6 yX6_isScale wsX6_isScale) := goodIn_app (goodIn_of _ (by decide +kernel)) ggX6_step_X6_isScale
set_option maxRecDepth 20000 in
theorem ggX6_step_X6_in : GoodIn wsX6_step wsX6_in := goodIn_r _ [15] (by decide +kernel) (by decide +kernel)
set_option maxRecDepth 20000 in
theorem gX6_step_X6_in : GoodIn wsX6_step (va_wsS RX6 92 yX6_in wsX6_in) := goodIn_app (goodIn_of _ (by decide +kernel)) ggX6_step_X6_in
theorem dX6_step_0 : decode cX6_step 0 = .ok (.aload_n 0, 1) := by decide +kernel
theorem dX6_step_1 : decode cX6_step 1 = .ok (.iload_n 1, 1) := by decide +kernel
theorem dX6_step_2 : decode cX6_step 2 = .ok (.invokevirtual 126, 3) := by decide +kernel
theorem dX6_step_5 : decode cX6_step 5 = .ok (.ifCond .eq 56, 3) := by decide +kernel
theorem dX6_step_8 : decode cX6_step 8 = .ok (.iload_n 2, 1) := by decide +kernel
theorem dX6_step_9 : decode cX6_step 9 = .ok (.iconst 0, 1) := by decide +kernel
theorem dX6_step_10 : decode cX6_step 10 = .ok (.sipush 2000, 3) := by decide +kernel
theorem dX6_step_13 : decode cX6_step 13 = .ok (.invokestatic 92, 3) := by decide +kernel
theorem dX6_step_16 : decode cX6_step 16 = .ok (.ifCond .eq 45, 3) := by decide +kernel
theorem dX6_step_19 : decode cX6_step 19 = .ok (.iload_n 3, 1) := by decide +kernel
theorem dX6_step_20 : decode cX6_step 20 = .ok (.iconst 0, 1) := by decide +kernel
theorem dX6_step_21 : decode cX6_step 21 = .ok (.sipush 2000, 3) := by decide +kernel
theorem dX6_step_24 : decode cX6_step 24 = .ok (.invokestatic 92, 3) := by decide +kernel
theorem dX6_step_27 : decode cX6_step 27 = .ok (.ifCond .eq 34, 3) := by decide +kernel
theorem dX6_step_30 : decode cX6_step 30 = .ok (.aload_n 0, 1) := by decide +kernel
theorem dX6_step_31 : decode cX6_step 31 = .ok (.getfield 40, 3) := by decide +kernel
theorem dX6_step_34 : decode cX6_step 34 = .ok (.iload_n 1, 1) := by decide +kernel
theorem dX6_step_35 : decode cX6_step 35 = .ok (.iaload, 1) := by decide +kernel
theorem dX6_step_36 : decode cX6_step 36 = .ok (.ifCond .le 28, 3) := by decide +kernel
theorem dX6_step_39 : decode cX6_step 39 = .ok (.iload_n 2, 1) := by decide +kernel
theorem dX6_step_40 : decode cX6_step 40 = .ok (.aload_n 0, 1) := by decide +kernel
theorem dX6_step_41 : decode cX6_step 41 = .ok (.getfield 43, 3) := by decide +kernel
theorem dX6_step_44 : decode cX6_step 44 = .ok (.bipush 8, 2) := by decide +kernel
theorem dX6_step_46 : decode cX6_step 46 = .ok (.iload_n 1, 1) := by decide +kernel
theorem dX6_step_47 : decode cX6_step 47 = .ok (.imul, 1) := by decide +kernel
theorem dX6_step_48 : decode cX6_step 48 = .ok (.aload_n 0, 1) := by decide +kernel
theorem dX6_step_49 : decode cX6_step 49 = .ok (.getfield 40, 3) := by decide +kernel
theorem dX6_step_52 : decode cX6_step 52 = .ok (.iload_n 1, 1) := by decide +kernel
theorem dX6_step_53 : decode cX6_step 53 = .ok (.iaload, 1) := by decide +kernel
theorem dX6_step_54 : decode cX6_step 54 = .ok (.iadd, 1) := by decide +kernel
theorem dX6_step_55 : decode cX6_step 55 = .ok (.iconst 1, 1) := by decide +kernel
theorem dX6_step_56 : decode cX6_step 56 = .ok (.isub, 1) := by decide +kernel
theorem dX6_step_57 : decode cX6_step 57 = .ok (.iaload, 1) := by decide +kernel
theorem dX6_step_58 : decode cX6_step 58 = .ok (.if_icmp .gt 6, 3) := by decide +kernel
theorem dX6_step_61 : decode cX6_step 61 = .ok (.bipush (-2), 2) := by decide +kernel
theorem dX6_step_63 : decode cX6_step 63 = .ok (.ireturn, 1) := by decide +kernel
theorem dX6_step_64 : decode cX6_step 64 = .ok (.aload_n 0, 1) := by decide +kernel
theorem dX6_step_65 : decode cX6_step 65 = .ok (.getfield 34, 3) := by decide +kernel
theorem dX6_step_68 : decode cX6_step 68 = .ok (.iload_n 1, 1) := by decide +kernel
theorem dX6_step_69 : decode cX6_step 69 = .ok (.iaload, 1) := by decide +kernel
theorem dX6_step_70 : decode cX6_step 70 = .ok (.aload_n 0, 1) := by decide +kernel
theorem dX6_step_71 : decode cX6_step 71 = .ok (.getfield 96, 3) := by decide +kernel
theorem dX6_step_74 : decode cX6_step 74 = .ok (.if_icmp .gt 19, 3) := by decide +kernel
theorem dX6_step_77 : decode cX6_step 77 = .ok (.aload_n 0, 1) := by decide +kernel
theorem dX6_step_78 : decode cX6_step 78 = .ok (.getfield 37, 3) := by decide +kernel
theorem dX6_step_81 : decode cX6_step 81 = .ok (.iload_n 1, 1) := by decide +kernel
theorem dX6_step_82 : decode cX6_step 82 = .ok (.iaload, 1) := by decide +kernel
theorem dX6_step_83 : decode cX6_step 83 = .ok (.aload_n 0, 1) := by decide +kernel
theorem dX6_step_84 : decode cX6_step 84 = .ok (.getfield 96, 3) := by decide +kernel
theorem dX6_step_87 : decode cX6_step 87 = .ok (.if_icmp .eq 6, 3) := by decide +kernel
theorem dX6_step_90 : decode cX6_step 90 = .ok (.bipush (-3), 2) := by decide +kernel
theorem dX6_step_92 : decode cX6_step 92 = .ok (.ireturn, 1) := by decide +kernel
theorem dX6_step_93 : decode cX6_step 93 = .ok (.aload_n 0, 1) := by decide +kernel
theorem dX6_step_94 : decode cX6_step 94 = .ok (.getfield 40, 3) := by decide +kernel
theorem dX6_step_97 : decode cX6_step 97 = .ok (.iload_n 1, 1) := by decide +kernel
theorem dX6_step_98 : decode cX6_step 98 = .ok (.iaload, 1) := by decide +kernel
theorem dX6_step_99 : decode cX6_step 99 = .ok (.bipush 8, 2) := by decide +kernel
theorem dX6_step_101 : decode cX6_step 101 = .ok (.if_icmp .ne 6, 3) := by decide +kernel
theorem dX6_step_104 : decode cX6_step 104 = .ok (.bipush (-4), 2) := by decide +kernel
theorem dX6_step_106 : decode cX6_step 106 = .ok (.ireturn, 1) := by decide +kernel
theorem dX6_step_107 : decode cX6_step 107 = .ok (.aload_n 0, 1) := by decide +kernel
theorem dX6_step_108 : decode cX6_step 108 = .ok (.getfield 43, 3) := by decide +kernel
theorem dX6_step_111 : decode cX6_step 111 = .ok (.bipush 8, 2) := by decide +kernel
theorem dX6_step_113 : decode cX6_step 113 = .ok (.iload_n 1, 1) := by decide +kernel
theorem dX6_step_114 : decode cX6_step 114 = .ok (.imul, 1) := by decide +kernel
theorem dX6_step_115 : decode cX6_step 115 = .ok (.aload_n 0, 1) := by decide +kernel
theorem dX6_step_116 : decode cX6_step 116 = .ok (.getfield 40, 3) := by decide +kernel
theorem dX6_step_119 : decode cX6_step 119 = .ok (.iload_n 1, 1) := by decide +kernel
theorem dX6_step_120 : decode cX6_step 120 = .ok (.iaload, 1) := by decide +kernel
theorem dX6_step_121 : decode cX6_step 121 = .ok (.iadd, 1) := by decide +kernel
theorem dX6_step_122 : decode cX6_step 122 = .ok (.iload_n 2, 1) := by decide +kernel
theorem dX6_step_123 : decode cX6_step 123 = .ok (.iastore, 1) := by decide +kernel
theorem dX6_step_124 : decode cX6_step 124 = .ok (.aload_n 0, 1) := by decide +kernel
theorem dX6_step_125 : decode cX6_step 125 = .ok (.getfield 46, 3) := by decide +kernel
theorem dX6_step_128 : decode cX6_step 128 = .ok (.bipush 8, 2) := by decide +kernel
theorem dX6_step_130 : decode cX6_step 130 = .ok (.iload_n 1, 1) := by decide +kernel
theorem dX6_step_131 : decode cX6_step 131 = .ok (.imul, 1) := by decide +kernel
theorem dX6_step_132 : decode cX6_step 132 = .ok (.aload_n 0, 1) := by decide +kernel
theorem dX6_step_133 : decode cX6_step 133 = .ok (.getfield 40, 3) := by decide +kernel
theorem dX6_step_136 : decode cX6_step 136 = .ok (.iload_n 1, 1) := by decide +kernel
theorem dX6_step_137 : decode cX6_step 137 = .ok (.iaload, 1) := by decide +kernel
theorem dX6_step_138 : decode cX6_step 138 = .ok (.iadd, 1) := by decide +kernel
theorem dX6_step_139 : decode cX6_step 139 = .ok (.iload_n 3, 1) := by decide +kernel
theorem dX6_step_140 : decode cX6_step 140 = .ok (.iastore, 1) := by decide +kernel
theorem dX6_step_141 : decode cX6_step 141 = .ok (.aload_n 0, 1) := by decide +kernel
theorem dX6_step_142 : decode cX6_step 142 = .ok (.getfield 40, 3) := by decide +kernel
theorem dX6_step_145 : decode cX6_step 145 = .ok (.iload_n 1, 1) := by decide +kernel
theorem dX6_step_146 : decode cX6_step 146 = .ok (.dup2, 1) := by decide +kernel
theorem dX6_step_147 : decode cX6_step 147 = .ok (.iaload, 1) := by decide +kernel
theorem dX6_step_148 : decode cX6_step 148 = .ok (.iconst 1, 1) := by decide +kernel
theorem dX6_step_149 : decode cX6_step 149 = .ok (.iadd, 1) := by decide +kernel
theorem dX6_step_150 : decode cX6_step 150 = .ok (.iastore, 1) := by decide +kernel
theorem dX6_step_151 : decode cX6_step 151 = .ok (.aload_n 0, 1) := by decide +kernel
theorem dX6_step_152 : decode cX6_step 152 = .ok (.getfield 40, 3) := by decide +kernel
theorem dX6_step_155 : decode cX6_step 155 = .ok (.iload_n 1, 1) := by decide +kernel
theorem dX6_step_156 : decode cX6_step 156 = .ok (.iaload, 1) := by decide +kernel
theorem dX6_step_157 : decode cX6_step 157 = .ok (.ireturn, 1) := by decide +kernel
set_option maxRecDepth 20000 in
theorem ggX6_hang_X6_isGrain : GoodIn wsX6_hang wsX6_isGrain := goodIn_r _ [7, 8, 9, 6, 10] (by decide +kernel) (by decide +kernel)
set_option maxRecDepth 20000 in
theorem gX6_hang_X6_isGrain : GoodIn wsX6_hang (va_wsS RX6 105 yX6_isGrain wsX6_isGrain) := goodIn_app (goodIn_of _ (by decide +kernel)) ggX6_hang_X6_isGrain
set_option maxRecDepth 20000 in
theorem ggX6_hang_X6_in : GoodIn wsX6_hang wsX6_in := goodIn_r _ [10] (by decide +kernel) (by decide +kernel)
set_option maxRecDepth 20000 in
theorem gX6_hang_X6_in : GoodIn wsX6_hang (va_wsS RX6 92 yX6_in wsX6_in) := goodIn_app (goodIn_of _ (by decide +kernel)) ggX6_hang_X6_in
theorem dX6_hang_0 : decode cX6_hang 0 = .ok (.iload_n 1, 1) := by decide +kernel
theorem dX6_hang_1 : decode cX6_hang 1 = .ok (.invokestatic 105, 3) := by decide +kernel
theorem dX6_hang_4 : decode cX6_hang 4 = .ok (.ifCond .eq 36, 3) := by decide +kernel
theorem dX6_hang_7 : decode cX6_hang 7 = .ok (.iload_n 2, 1) := by decide +kernel
theorem dX6_hang_8 : decode cX6_hang 8 = .ok (.invokestatic 105, 3) := by decide +kernel
theorem dX6_hang_11 : decode cX6_hang 11 = .ok (.ifCond .eq 29, 3) := by decide +kernel
theorem dX6_hang_14 : decode cX6_hang 14 = .ok (.iload_n 1, 1) := by decide +kernel
theorem dX6_hang_15 : decode cX6_hang 15 = .ok (.iload_n 2, 1) := by decide +kernel
theorem dX6_hang_16 : decode cX6_hang 16 = .ok (.if_icmp .eq 24, 3) := by decide +kernel
theorem dX6_hang_19 : decode cX6_hang 19 = .ok (.iload_n 3, 1) := by decide +kernel
theorem dX6_hang_20 : decode cX6_hang 20 = .ok (.iconst 1, 1) := by decide +kernel
theorem dX6_hang_21 : decode cX6_hang 21 = .ok (.bipush 100, 2) := by decide +kernel
theorem dX6_hang_23 : decode cX6_hang 23 = .ok (.invokestatic 92, 3) := by decide +kernel
theorem dX6_hang_26 : decode cX6_hang 26 = .ok (.ifCond .eq 14, 3) := by decide +kernel
theorem dX6_hang_29 : decode cX6_hang 29 = .ok (.iload 4, 2) := by decide +kernel
theorem dX6_hang_31 : decode cX6_hang 31 = .ok (.iconst 1, 1) := by decide +kernel
theorem dX6_hang_32 : decode cX6_hang 32 = .ok (.bipush 100, 2) := by decide +kernel
theorem dX6_hang_34 : decode cX6_hang 34 = .ok (.invokestatic 92, 3) := by decide +kernel
theorem dX6_hang_37 : decode cX6_hang 37 = .ok (.ifCond .ne 6, 3) := by decide +kernel
theorem dX6_hang_40 : decode cX6_hang 40 = .ok (.bipush (-2), 2) := by decide +kernel
theorem dX6_hang_42 : decode cX6_hang 42 = .ok (.ireturn, 1) := by decide +kernel
theorem dX6_hang_43 : decode cX6_hang 43 = .ok (.aload_n 0, 1) := by decide +kernel
theorem dX6_hang_44 : decode cX6_hang 44 = .ok (.getfield 49, 3) := by decide +kernel
end
section
theorem dX6_hang_47 : decode cX6_hang 47 = .ok (.iload_n 2, 1) := by decide +kernel
theorem dX6_hang_48 : decode cX6_hang 48 = .ok (.iaload, 1) := by decide +kernel
theorem dX6_hang_49 : decode cX6_hang 49 = .ok (.iconst (-1), 1) := by decide +kernel
theorem dX6_hang_50 : decode cX6_hang 50 = .ok (.if_icmp .eq 7, 3) := by decide +kernel
theorem dX6_hang_53 : decode cX6_hang 53 = .ok (.iconst 1, 1) := by decide +kernel
theorem dX6_hang_54 : decode cX6_hang 54 = .ok (.goto 4, 3) := by decide +kernel
theorem dX6_hang_57 : decode cX6_hang 57 = .ok (.iconst 0, 1) := by decide +kernel
theorem dX6_hang_58 : decode cX6_hang 58 = .ok (.istore 5, 2) := by decide +kernel
theorem dX6_hang_60 : decode cX6_hang 60 = .ok (.iconst 0, 1) := by decide +kernel
theorem dX6_hang_61 : decode cX6_hang 61 = .ok (.istore 6, 2) := by decide +kernel
theorem dX6_hang_63 : decode cX6_hang 63 = .ok (.iload 6, 2) := by decide +kernel
theorem dX6_hang_65 : decode cX6_hang 65 = .ok (.iconst 3, 1) := by decide +kernel
theorem dX6_hang_66 : decode cX6_hang 66 = .ok (.if_icmp .ge 32, 3) := by decide +kernel
theorem dX6_hang_69 : decode cX6_hang 69 = .ok (.iload 5, 2) := by decide +kernel
theorem dX6_hang_71 : decode cX6_hang 71 = .ok (.ifCond .ne 14, 3) := by decide +kernel
theorem dX6_hang_74 : decode cX6_hang 74 = .ok (.aload_n 0, 1) := by decide +kernel
theorem dX6_hang_75 : decode cX6_hang 75 = .ok (.getfield 49, 3) := by decide +kernel
theorem dX6_hang_78 : decode cX6_hang 78 = .ok (.iload 6, 2) := by decide +kernel
theorem dX6_hang_80 : decode cX6_hang 80 = .ok (.iaload, 1) := by decide +kernel
theorem dX6_hang_81 : decode cX6_hang 81 = .ok (.iload_n 1, 1) := by decide +kernel
theorem dX6_hang_82 : decode cX6_hang 82 = .ok (.if_icmp .ne 7, 3) := by decide +kernel
theorem dX6_hang_85 : decode cX6_hang 85 = .ok (.iconst 1, 1) := by decide +kernel
theorem dX6_hang_86 : decode cX6_hang 86 = .ok (.goto 4, 3) := by decide +kernel
theorem dX6_hang_89 : decode cX6_hang 89 = .ok (.iconst 0, 1) := by decide +kernel
theorem dX6_hang_90 : decode cX6_hang 90 = .ok (.istore 5, 2) := by decide +kernel
theorem dX6_hang_92 : decode cX6_hang 92 = .ok (.iinc 6 1, 3) := by decide +kernel
theorem dX6_hang_95 : decode cX6_hang 95 = .ok (.goto (-32), 3) := by decide +kernel
theorem dX6_hang_98 : decode cX6_hang 98 = .ok (.iload 5, 2) := by decide +kernel
theorem dX6_hang_100 : decode cX6_hang 100 = .ok (.ifCond .eq 6, 3) := by decide +kernel
theorem dX6_hang_103 : decode cX6_hang 103 = .ok (.bipush (-3), 2) := by decide +kernel
theorem dX6_hang_105 : decode cX6_hang 105 = .ok (.ireturn, 1) := by decide +kernel
theorem dX6_hang_106 : decode cX6_hang 106 = .ok (.aload_n 0, 1) := by decide +kernel
theorem dX6_hang_107 : decode cX6_hang 107 = .ok (.getfield 49, 3) := by decide +kernel
theorem dX6_hang_110 : decode cX6_hang 110 = .ok (.iload_n 1, 1) := by decide +kernel
theorem dX6_hang_111 : decode cX6_hang 111 = .ok (.iload_n 2, 1) := by decide +kernel
theorem dX6_hang_112 : decode cX6_hang 112 = .ok (.iastore, 1) := by decide +kernel
theorem dX6_hang_113 : decode cX6_hang 113 = .ok (.aload_n 0, 1) := by decide +kernel
theorem dX6_hang_114 : decode cX6_hang 114 = .ok (.getfield 52, 3) := by decide +kernel
theorem dX6_hang_117 : decode cX6_hang 117 = .ok (.iload_n 1, 1) := by decide +kernel
theorem dX6_hang_118 : decode cX6_hang 118 = .ok (.iload_n 3, 1) := by decide +kernel
theorem dX6_hang_119 : decode cX6_hang 119 = .ok (.iastore, 1) := by decide +kernel
theorem dX6_hang_120 : decode cX6_hang 120 = .ok (.aload_n 0, 1) := by decide +kernel
theorem dX6_hang_121 : decode cX6_hang 121 = .ok (.getfield 55, 3) := by decide +kernel
theorem dX6_hang_124 : decode cX6_hang 124 = .ok (.iload_n 1, 1) := by decide +kernel
theorem dX6_hang_125 : decode cX6_hang 125 = .ok (.iload 4, 2) := by decide +kernel
theorem dX6_hang_127 : decode cX6_hang 127 = .ok (.iastore, 1) := by decide +kernel
theorem dX6_hang_128 : decode cX6_hang 128 = .ok (.iconst 1, 1) := by decide +kernel
theorem dX6_hang_129 : decode cX6_hang 129 = .ok (.ireturn, 1) := by decide +kernel
set_option maxRecDepth 20000 in
theorem ggX6_unhang_X6_isGrain : GoodIn wsX6_unhang wsX6_isGrain := goodIn_r _ [5, 6, 7, 4, 8] (by decide +kernel) (by decide +kernel)
set_option maxRecDepth 20000 in
theorem gX6_unhang_X6_isGrain : GoodIn wsX6_unhang (va_wsS RX6 105 yX6_isGrain wsX6_isGrain) := goodIn_app (goodIn_of _ (by decide +kernel)) ggX6_unhang_X6_isGrain
theorem dX6_unhang_0 : decode cX6_unhang 0 = .ok (.iload_n 1, 1) := by decide +kernel
theorem dX6_unhang_1 : decode cX6_unhang 1 = .ok (.invokestatic 105, 3) := by decide +kernel
theorem dX6_unhang_4 : decode cX6_unhang 4 = .ok (.ifCond .ne 6, 3) := by decide +kernel
theorem dX6_unhang_7 : decode cX6_unhang 7 = .ok (.bipush (-2), 2) := by decide +kernel
theorem dX6_unhang_9 : decode cX6_unhang 9 = .ok (.ireturn, 1) := by decide +kernel
theorem dX6_unhang_10 : decode cX6_unhang 10 = .ok (.aload_n 0, 1) := by decide +kernel
theorem dX6_unhang_11 : decode cX6_unhang 11 = .ok (.getfield 49, 3) := by decide +kernel
theorem dX6_unhang_14 : decode cX6_unhang 14 = .ok (.iload_n 1, 1) := by decide +kernel
theorem dX6_unhang_15 : decode cX6_unhang 15 = .ok (.iaload, 1) := by decide +kernel
theorem dX6_unhang_16 : decode cX6_unhang 16 = .ok (.iconst (-1), 1) := by decide +kernel
theorem dX6_unhang_17 : decode cX6_unhang 17 = .ok (.if_icmp .ne 6, 3) := by decide +kernel
theorem dX6_unhang_20 : decode cX6_unhang 20 = .ok (.bipush (-3), 2) := by decide +kernel
theorem dX6_unhang_22 : decode cX6_unhang 22 = .ok (.ireturn, 1) := by decide +kernel
theorem dX6_unhang_23 : decode cX6_unhang 23 = .ok (.aload_n 0, 1) := by decide +kernel
theorem dX6_unhang_24 : decode cX6_unhang 24 = .ok (.getfield 49, 3) := by decide +kernel
theorem dX6_unhang_27 : decode cX6_unhang 27 = .ok (.iload_n 1, 1) := by decide +kernel
theorem dX6_unhang_28 : decode cX6_unhang 28 = .ok (.iconst (-1), 1) := by decide +kernel
theorem dX6_unhang_29 : decode cX6_unhang 29 = .ok (.iastore, 1) := by decide +kernel
theorem dX6_unhang_30 : decode cX6_unhang 30 = .ok (.iconst 1, 1) := by decide +kernel
theorem dX6_unhang_31 : decode cX6_unhang 31 = .ok (.ireturn, 1) := by decide +kernel
theorem dX6_forceAt_0 : decode cX6_forceAt 0 = .ok (.iconst (-1), 1) := by decide +kernel
theorem dX6_forceAt_1 : decode cX6_forceAt 1 = .ok (.istore_n 3, 1) := by decide +kernel
theorem dX6_forceAt_2 : decode cX6_forceAt 2 = .ok (.iconst 0, 1) := by decide +kernel
theorem dX6_forceAt_3 : decode cX6_forceAt 3 = .ok (.istore 4, 2) := by decide +kernel
theorem dX6_forceAt_5 : decode cX6_forceAt 5 = .ok (.iload 4, 2) := by decide +kernel
theorem dX6_forceAt_7 : decode cX6_forceAt 7 = .ok (.aload_n 0, 1) := by decide +kernel
theorem dX6_forceAt_8 : decode cX6_forceAt 8 = .ok (.getfield 123, 3) := by decide +kernel
theorem dX6_forceAt_11 : decode cX6_forceAt 11 = .ok (.if_icmp .ge 69, 3) := by decide +kernel
theorem dX6_forceAt_14 : decode cX6_forceAt 14 = .ok (.aload_n 0, 1) := by decide +kernel
theorem dX6_forceAt_15 : decode cX6_forceAt 15 = .ok (.getfield 31, 3) := by decide +kernel
theorem dX6_forceAt_18 : decode cX6_forceAt 18 = .ok (.iload 4, 2) := by decide +kernel
theorem dX6_forceAt_20 : decode cX6_forceAt 20 = .ok (.iaload, 1) := by decide +kernel
theorem dX6_forceAt_21 : decode cX6_forceAt 21 = .ok (.iload_n 1, 1) := by decide +kernel
theorem dX6_forceAt_22 : decode cX6_forceAt 22 = .ok (.if_icmp .ne 52, 3) := by decide +kernel
theorem dX6_forceAt_25 : decode cX6_forceAt 25 = .ok (.aload_n 0, 1) := by decide +kernel
theorem dX6_forceAt_26 : decode cX6_forceAt 26 = .ok (.getfield 40, 3) := by decide +kernel
theorem dX6_forceAt_29 : decode cX6_forceAt 29 = .ok (.iload 4, 2) := by decide +kernel
theorem dX6_forceAt_31 : decode cX6_forceAt 31 = .ok (.iaload, 1) := by decide +kernel
theorem dX6_forceAt_32 : decode cX6_forceAt 32 = .ok (.ifCond .le 42, 3) := by decide +kernel
theorem dX6_forceAt_35 : decode cX6_forceAt 35 = .ok (.aload_n 0, 1) := by decide +kernel
theorem dX6_forceAt_36 : decode cX6_forceAt 36 = .ok (.getfield 34, 3) := by decide +kernel
theorem dX6_forceAt_39 : decode cX6_forceAt 39 = .ok (.iload 4, 2) := by decide +kernel
theorem dX6_forceAt_41 : decode cX6_forceAt 41 = .ok (.iaload, 1) := by decide +kernel
theorem dX6_forceAt_42 : decode cX6_forceAt 42 = .ok (.iload_n 2, 1) := by decide +kernel
theorem dX6_forceAt_43 : decode cX6_forceAt 43 = .ok (.if_icmp .gt 31, 3) := by decide +kernel
theorem dX6_forceAt_46 : decode cX6_forceAt 46 = .ok (.iload_n 3, 1) := by decide +kernel
theorem dX6_forceAt_47 : decode cX6_forceAt 47 = .ok (.iconst (-1), 1) := by decide +kernel
theorem dX6_forceAt_48 : decode cX6_forceAt 48 = .ok (.if_icmp .eq 19, 3) := by decide +kernel
theorem dX6_forceAt_51 : decode cX6_forceAt 51 = .ok (.aload_n 0, 1) := by decide +kernel
theorem dX6_forceAt_52 : decode cX6_forceAt 52 = .ok (.getfield 34, 3) := by decide +kernel
theorem dX6_forceAt_55 : decode cX6_forceAt 55 = .ok (.iload 4, 2) := by decide +kernel
theorem dX6_forceAt_57 : decode cX6_forceAt 57 = .ok (.iaload, 1) := by decide +kernel
theorem dX6_forceAt_58 : decode cX6_forceAt 58 = .ok (.aload_n 0, 1) := by decide +kernel
theorem dX6_forceAt_59 : decode cX6_forceAt 59 = .ok (.getfield 34, 3) := by decide +kernel
theorem dX6_forceAt_62 : decode cX6_forceAt 62 = .ok (.iload_n 3, 1) := by decide +kernel
theorem dX6_forceAt_63 : decode cX6_forceAt 63 = .ok (.iaload, 1) := by decide +kernel
theorem dX6_forceAt_64 : decode cX6_forceAt 64 = .ok (.if_icmp .lt 8, 3) := by decide +kernel
theorem dX6_forceAt_67 : decode cX6_forceAt 67 = .ok (.iload 4, 2) := by decide +kernel
theorem dX6_forceAt_69 : decode cX6_forceAt 69 = .ok (.goto 4, 3) := by decide +kernel
theorem dX6_forceAt_72 : decode cX6_forceAt 72 = .ok (.iload_n 3, 1) := by decide +kernel
theorem dX6_forceAt_73 : decode cX6_forceAt 73 = .ok (.istore_n 3, 1) := by decide +kernel
theorem dX6_forceAt_74 : decode cX6_forceAt 74 = .ok (.iinc 4 1, 3) := by decide +kernel
theorem dX6_forceAt_77 : decode cX6_forceAt 77 = .ok (.goto (-72), 3) := by decide +kernel
theorem dX6_forceAt_80 : decode cX6_forceAt 80 = .ok (.iload_n 3, 1) := by decide +kernel
theorem dX6_forceAt_81 : decode cX6_forceAt 81 = .ok (.ireturn, 1) := by decide +kernel
set_option maxRecDepth 20000 in
theorem ggX6_force_X6_isGrain : GoodIn wsX6_force wsX6_isGrain := goodIn_r _ [4, 5, 6, 3, 7] (by decide +kernel) (by decide +kernel)
set_option maxRecDepth 20000 in
theorem gX6_force_X6_isGrain : GoodIn wsX6_force (va_wsS RX6 105 yX6_isGrain wsX6_isGrain) := goodIn_app (goodIn_of _ (by decide +kernel)) ggX6_force_X6_isGrain
set_option maxRecDepth 20000 in
theorem ggX6_force_X6_in : GoodIn wsX6_force wsX6_in := goodIn_r _ [7] (by decide +kernel) (by decide +kernel)
set_option maxRecDepth 20000 in
theorem gX6_force_X6_in : GoodIn wsX6_force (va_wsS RX6 92 yX6_in wsX6_in) := goodIn_app (goodIn_of _ (by decide +kernel)) ggX6_force_X6_in
set_option maxRecDepth 20000 in
theorem ggX6_force_X6_forceAt : GoodIn wsX6_force wsX6_forceAt := goodIn_r _ [11, 12, 13, 14, 15, 16, 17, 18, 19, 20, 21, 22, 23, 24, 25, 26, 27, 28, 29, 30, 31, 32, 33, 34, 35, 36, 37, 38, 39, 40, 41, 42, 43, 44, 45, 46, 47, 48, 49] (by decide +kernel) (by decide +kernel)
set_option maxRecDepth 20000 in
theorem gX6_force_X6_forceAt : GoodIn wsX6_force (wsV RX6 129 RX6 yX6_forceAt wsX6_forceAt) := goodIn_app (goodIn_of _ (by decide +kernel)) ggX6_force_X6_forceAt
theorem dX6_force_0 : decode cX6_force 0 = .ok (.iload_n 1, 1) := by decide +kernel
theorem dX6_force_1 : decode cX6_force 1 = .ok (.invokestatic 105, 3) := by decide +kernel
theorem dX6_force_4 : decode cX6_force 4 = .ok (.ifCond .eq 23, 3) := by decide +kernel
theorem dX6_force_7 : decode cX6_force 7 = .ok (.iload_n 2, 1) := by decide +kernel
theorem dX6_force_8 : decode cX6_force 8 = .ok (.iconst 0, 1) := by decide +kernel
theorem dX6_force_9 : decode cX6_force 9 = .ok (.sipush 220, 3) := by decide +kernel
theorem dX6_force_12 : decode cX6_force 12 = .ok (.invokestatic 92, 3) := by decide +kernel
theorem dX6_force_15 : decode cX6_force 15 = .ok (.ifCond .eq 12, 3) := by decide +kernel
theorem dX6_force_18 : decode cX6_force 18 = .ok (.aload_n 0, 1) := by decide +kernel
theorem dX6_force_19 : decode cX6_force 19 = .ok (.iload_n 1, 1) := by decide +kernel
theorem dX6_force_20 : decode cX6_force 20 = .ok (.iload_n 2, 1) := by decide +kernel
theorem dX6_force_21 : decode cX6_force 21 = .ok (.invokevirtual 129, 3) := by decide +kernel
theorem dX6_force_24 : decode cX6_force 24 = .ok (.goto 5, 3) := by decide +kernel
theorem dX6_force_27 : decode cX6_force 27 = .ok (.bipush (-2), 2) := by decide +kernel
theorem dX6_force_29 : decode cX6_force 29 = .ok (.ireturn, 1) := by decide +kernel
set_option maxRecDepth 20000 in
theorem ggX6_ownDuty_X6_forceAt : GoodIn wsX6_ownDuty wsX6_forceAt := goodIn_r _ [10, 11, 2, 3, 12, 33, 34, 35, 36, 37, 38, 39, 40, 41, 42, 43, 44, 45, 46, 47, 48, 49, 50, 51, 52, 53, 54, 55, 56, 57, 58, 59, 60, 61, 62, 63, 64, 65, 66] (by decide +kernel) (by decide +kernel)
set_option maxRecDepth 20000 in
theorem gX6_ownDuty_X6_forceAt : GoodIn wsX6_ownDuty (wsV RX6 129 RX6 yX6_forceAt wsX6_forceAt) := goodIn_app (goodIn_of _ (by decide +kernel)) ggX6_ownDuty_X6_forceAt
set_option maxRecDepth 20000 in
theorem ggX6_ownDuty_X6_averageAt : GoodIn wsX6_ownDuty wsX6_averageAt := goodIn_r _ [16, 17, 18, 19, 9, 20, 21, 22, 23, 24, 25, 26, 27, 28, 29, 30, 31, 32, 33, 34, 35, 36, 37, 38, 39, 40, 41, 42, 43, 44, 45, 46, 47, 48, 49, 50, 51, 52, 53, 54, 55, 56, 57, 58, 59, 60, 61, 62, 63, 64, 65, 66] (by decide +kernel) (by decide +kernel)
set_option maxRecDepth 20000 in
theorem gX6_ownDuty_X6_averageAt : GoodIn wsX6_ownDuty (wsV RX6 120 RX6 yX6_averageAt wsX6_averageAt) := goodIn_app (goodIn_of _ (by decide +kernel)) ggX6_ownDuty_X6_averageAt
theorem dX6_ownDuty_0 : decode cX6_ownDuty 0 = .ok (.aload_n 0, 1) := by decide +kernel
theorem dX6_ownDuty_1 : decode cX6_ownDuty 1 = .ok (.getfield 89, 3) := by decide +kernel
theorem dX6_ownDuty_4 : decode cX6_ownDuty 4 = .ok (.iconst (-1), 1) := by decide +kernel
theorem dX6_ownDuty_5 : decode cX6_ownDuty 5 = .ok (.if_icmp .eq 23, 3) := by decide +kernel
theorem dX6_ownDuty_8 : decode cX6_ownDuty 8 = .ok (.aload_n 0, 1) := by decide +kernel
theorem dX6_ownDuty_9 : decode cX6_ownDuty 9 = .ok (.getfield 31, 3) := by decide +kernel
theorem dX6_ownDuty_12 : decode cX6_ownDuty 12 = .ok (.aload_n 0, 1) := by decide +kernel
theorem dX6_ownDuty_13 : decode cX6_ownDuty 13 = .ok (.getfield 89, 3) := by decide +kernel
theorem dX6_ownDuty_16 : decode cX6_ownDuty 16 = .ok (.iaload, 1) := by decide +kernel
theorem dX6_ownDuty_17 : decode cX6_ownDuty 17 = .ok (.iload_n 1, 1) := by decide +kernel
theorem dX6_ownDuty_18 : decode cX6_ownDuty 18 = .ok (.if_icmp .ne 10, 3) := by decide +kernel
theorem dX6_ownDuty_21 : decode cX6_ownDuty 21 = .ok (.aload_n 0, 1) := by decide +kernel
theorem dX6_ownDuty_22 : decode cX6_ownDuty 22 = .ok (.getfield 89, 3) := by decide +kernel
theorem dX6_ownDuty_25 : decode cX6_ownDuty 25 = .ok (.goto 9, 3) := by decide +kernel
theorem dX6_ownDuty_28 : decode cX6_ownDuty 28 = .ok (.aload_n 0, 1) := by decide +kernel
theorem dX6_ownDuty_29 : decode cX6_ownDuty 29 = .ok (.iload_n 1, 1) := by decide +kernel
theorem dX6_ownDuty_30 : decode cX6_ownDuty 30 = .ok (.iload_n 2, 1) := by decide +kernel
theorem dX6_ownDuty_31 : decode cX6_ownDuty 31 = .ok (.invokevirtual 129, 3) := by decide +kernel
theorem dX6_ownDuty_34 : decode cX6_ownDuty 34 = .ok (.istore 4, 2) := by decide +kernel
theorem dX6_ownDuty_36 : decode cX6_ownDuty 36 = .ok (.iload 4, 2) := by decide +kernel
theorem dX6_ownDuty_38 : decode cX6_ownDuty 38 = .ok (.iconst (-1), 1) := by decide +kernel
theorem dX6_ownDuty_39 : decode cX6_ownDuty 39 = .ok (.if_icmp .eq 13, 3) := by decide +kernel
theorem dX6_ownDuty_42 : decode cX6_ownDuty 42 = .ok (.aload_n 0, 1) := by decide +kernel
theorem dX6_ownDuty_43 : decode cX6_ownDuty 43 = .ok (.getfield 40, 3) := by decide +kernel
theorem dX6_ownDuty_46 : decode cX6_ownDuty 46 = .ok (.iload 4, 2) := by decide +kernel
theorem dX6_ownDuty_48 : decode cX6_ownDuty 48 = .ok (.iaload, 1) := by decide +kernel
theorem dX6_ownDuty_49 : decode cX6_ownDuty 49 = .ok (.ifCond .ne 5, 3) := by decide +kernel
theorem dX6_ownDuty_52 : decode cX6_ownDuty 52 = .ok (.iconst 0, 1) := by decide +kernel
theorem dX6_ownDuty_53 : decode cX6_ownDuty 53 = .ok (.ireturn, 1) := by decide +kernel
theorem dX6_ownDuty_54 : decode cX6_ownDuty 54 = .ok (.aload_n 0, 1) := by decide +kernel
theorem dX6_ownDuty_55 : decode cX6_ownDuty 55 = .ok (.iload_n 1, 1) := by decide +kernel
theorem dX6_ownDuty_56 : decode cX6_ownDuty 56 = .ok (.iload_n 2, 1) := by decide +kernel
theorem dX6_ownDuty_57 : decode cX6_ownDuty 57 = .ok (.iload_n 3, 1) := by decide +kernel
theorem dX6_ownDuty_58 : decode cX6_ownDuty 58 = .ok (.invokevirtual 120, 3) := by decide +kernel
theorem dX6_ownDuty_61 : decode cX6_ownDuty 61 = .ok (.istore 5, 2) := by decide +kernel
theorem dX6_ownDuty_63 : decode cX6_ownDuty 63 = .ok (.iconst 0, 1) := by decide +kernel
theorem dX6_ownDuty_64 : decode cX6_ownDuty 64 = .ok (.istore 6, 2) := by decide +kernel
theorem dX6_ownDuty_66 : decode cX6_ownDuty 66 = .ok (.iconst 1, 1) := by decide +kernel
theorem dX6_ownDuty_67 : decode cX6_ownDuty 67 = .ok (.istore 7, 2) := by decide +kernel
theorem dX6_ownDuty_69 : decode cX6_ownDuty 69 = .ok (.iload 7, 2) := by decide +kernel
theorem dX6_ownDuty_71 : decode cX6_ownDuty 71 = .ok (.aload_n 0, 1) := by decide +kernel
theorem dX6_ownDuty_72 : decode cX6_ownDuty 72 = .ok (.getfield 40, 3) := by decide +kernel
theorem dX6_ownDuty_75 : decode cX6_ownDuty 75 = .ok (.iload 4, 2) := by decide +kernel
theorem dX6_ownDuty_77 : decode cX6_ownDuty 77 = .ok (.iaload, 1) := by decide +kernel
theorem dX6_ownDuty_78 : decode cX6_ownDuty 78 = .ok (.if_icmp .ge 36, 3) := by decide +kernel
theorem dX6_ownDuty_81 : decode cX6_ownDuty 81 = .ok (.aload_n 0, 1) := by decide +kernel
theorem dX6_ownDuty_82 : decode cX6_ownDuty 82 = .ok (.getfield 43, 3) := by decide +kernel
theorem dX6_ownDuty_85 : decode cX6_ownDuty 85 = .ok (.bipush 8, 2) := by decide +kernel
theorem dX6_ownDuty_87 : decode cX6_ownDuty 87 = .ok (.iload 4, 2) := by decide +kernel
theorem dX6_ownDuty_89 : decode cX6_ownDuty 89 = .ok (.imul, 1) := by decide +kernel
theorem dX6_ownDuty_90 : decode cX6_ownDuty 90 = .ok (.iload 7, 2) := by decide +kernel
theorem dX6_ownDuty_92 : decode cX6_ownDuty 92 = .ok (.iadd, 1) := by decide +kernel
theorem dX6_ownDuty_93 : decode cX6_ownDuty 93 = .ok (.iaload, 1) := by decide +kernel
theorem dX6_ownDuty_94 : decode cX6_ownDuty 94 = .ok (.iload 5, 2) := by decide +kernel
theorem dX6_ownDuty_96 : decode cX6_ownDuty 96 = .ok (.if_icmp .gt 8, 3) := by decide +kernel
theorem dX6_ownDuty_99 : decode cX6_ownDuty 99 = .ok (.iload 7, 2) := by decide +kernel
theorem dX6_ownDuty_101 : decode cX6_ownDuty 101 = .ok (.goto 5, 3) := by decide +kernel
theorem dX6_ownDuty_104 : decode cX6_ownDuty 104 = .ok (.iload 6, 2) := by decide +kernel
theorem dX6_ownDuty_106 : decode cX6_ownDuty 106 = .ok (.istore 6, 2) := by decide +kernel
theorem dX6_ownDuty_108 : decode cX6_ownDuty 108 = .ok (.iinc 7 1, 3) := by decide +kernel
theorem dX6_ownDuty_111 : decode cX6_ownDuty 111 = .ok (.goto (-42), 3) := by decide +kernel
theorem dX6_ownDuty_114 : decode cX6_ownDuty 114 = .ok (.aload_n 0, 1) := by decide +kernel
theorem dX6_ownDuty_115 : decode cX6_ownDuty 115 = .ok (.getfield 46, 3) := by decide +kernel
theorem dX6_ownDuty_118 : decode cX6_ownDuty 118 = .ok (.bipush 8, 2) := by decide +kernel
theorem dX6_ownDuty_120 : decode cX6_ownDuty 120 = .ok (.iload 4, 2) := by decide +kernel
theorem dX6_ownDuty_122 : decode cX6_ownDuty 122 = .ok (.imul, 1) := by decide +kernel
theorem dX6_ownDuty_123 : decode cX6_ownDuty 123 = .ok (.iload 6, 2) := by decide +kernel
theorem dX6_ownDuty_125 : decode cX6_ownDuty 125 = .ok (.iadd, 1) := by decide +kernel
theorem dX6_ownDuty_126 : decode cX6_ownDuty 126 = .ok (.iaload, 1) := by decide +kernel
theorem dX6_ownDuty_127 : decode cX6_ownDuty 127 = .ok (.ireturn, 1) := by decide +kernel
set_option maxRecDepth 20000 in
theorem ggX6_dutyAt_X6_ownDuty : GoodIn wsX6_dutyAt wsX6_ownDuty := goodIn_r _ [8, 9, 10, 11, 12, 13, 14, 15, 16, 7, 17, 18, 19, 20, 21, 22, 23, 24, 25, 26, 27, 28, 29, 30, 31, 32, 33, 34, 35, 36, 37, 38, 39, 40, 41, 42, 43, 44, 45, 46, 47, 48, 49, 50, 51, 52, 53, 54, 55, 56, 57, 58, 59, 60, 61, 62, 63, 64, 65, 66, 67, 68, 69, 70, 71, 72, 73] (by decide +kernel) (by decide +kernel)
set_option maxRecDepth 20000 in
theorem gX6_dutyAt_X6_ownDuty : GoodIn wsX6_dutyAt (wsV RX6 133 RX6 yX6_ownDuty wsX6_ownDuty) := goodIn_app (goodIn_of _ (by decide +kernel)) ggX6_dutyAt_X6_ownDuty
theorem dX6_dutyAt_0 : decode cX6_dutyAt 0 = .ok (.aload_n 0, 1) := by decide +kernel
theorem dX6_dutyAt_1 : decode cX6_dutyAt 1 = .ok (.getfield 49, 3) := by decide +kernel
theorem dX6_dutyAt_4 : decode cX6_dutyAt 4 = .ok (.iload_n 1, 1) := by decide +kernel
theorem dX6_dutyAt_5 : decode cX6_dutyAt 5 = .ok (.iaload, 1) := by decide +kernel
theorem dX6_dutyAt_6 : decode cX6_dutyAt 6 = .ok (.istore 4, 2) := by decide +kernel
theorem dX6_dutyAt_8 : decode cX6_dutyAt 8 = .ok (.iload 4, 2) := by decide +kernel
theorem dX6_dutyAt_10 : decode cX6_dutyAt 10 = .ok (.iconst (-1), 1) := by decide +kernel
theorem dX6_dutyAt_11 : decode cX6_dutyAt 11 = .ok (.if_icmp .ne 13, 3) := by decide +kernel
theorem dX6_dutyAt_14 : decode cX6_dutyAt 14 = .ok (.aload_n 0, 1) := by decide +kernel
theorem dX6_dutyAt_15 : decode cX6_dutyAt 15 = .ok (.iload_n 1, 1) := by decide +kernel
theorem dX6_dutyAt_16 : decode cX6_dutyAt 16 = .ok (.iload_n 2, 1) := by decide +kernel
theorem dX6_dutyAt_17 : decode cX6_dutyAt 17 = .ok (.iload_n 3, 1) := by decide +kernel
theorem dX6_dutyAt_18 : decode cX6_dutyAt 18 = .ok (.invokevirtual 133, 3) := by decide +kernel
theorem dX6_dutyAt_21 : decode cX6_dutyAt 21 = .ok (.goto 25, 3) := by decide +kernel
theorem dX6_dutyAt_24 : decode cX6_dutyAt 24 = .ok (.aload_n 0, 1) := by decide +kernel
theorem dX6_dutyAt_25 : decode cX6_dutyAt 25 = .ok (.iload 4, 2) := by decide +kernel
theorem dX6_dutyAt_27 : decode cX6_dutyAt 27 = .ok (.iload_n 2, 1) := by decide +kernel
theorem dX6_dutyAt_28 : decode cX6_dutyAt 28 = .ok (.iload_n 3, 1) := by decide +kernel
theorem dX6_dutyAt_29 : decode cX6_dutyAt 29 = .ok (.invokevirtual 133, 3) := by decide +kernel
theorem dX6_dutyAt_32 : decode cX6_dutyAt 32 = .ok (.aload_n 0, 1) := by decide +kernel
theorem dX6_dutyAt_33 : decode cX6_dutyAt 33 = .ok (.getfield 52, 3) := by decide +kernel
theorem dX6_dutyAt_36 : decode cX6_dutyAt 36 = .ok (.iload_n 1, 1) := by decide +kernel
theorem dX6_dutyAt_37 : decode cX6_dutyAt 37 = .ok (.iaload, 1) := by decide +kernel
theorem dX6_dutyAt_38 : decode cX6_dutyAt 38 = .ok (.imul, 1) := by decide +kernel
theorem dX6_dutyAt_39 : decode cX6_dutyAt 39 = .ok (.aload_n 0, 1) := by decide +kernel
theorem dX6_dutyAt_40 : decode cX6_dutyAt 40 = .ok (.getfield 55, 3) := by decide +kernel
theorem dX6_dutyAt_43 : decode cX6_dutyAt 43 = .ok (.iload_n 1, 1) := by decide +kernel
theorem dX6_dutyAt_44 : decode cX6_dutyAt 44 = .ok (.iaload, 1) := by decide +kernel
theorem dX6_dutyAt_45 : decode cX6_dutyAt 45 = .ok (.idiv, 1) := by decide +kernel
theorem dX6_dutyAt_46 : decode cX6_dutyAt 46 = .ok (.ireturn, 1) := by decide +kernel
set_option maxRecDepth 20000 in
theorem ggX6_duty_X6_isGrain : GoodIn wsX6_duty wsX6_isGrain := goodIn_r _ [4, 5, 6, 3, 7] (by decide +kernel) (by decide +kernel)
set_option maxRecDepth 20000 in
theorem gX6_duty_X6_isGrain : GoodIn wsX6_duty (va_wsS RX6 105 yX6_isGrain wsX6_isGrain) := goodIn_app (goodIn_of _ (by decide +kernel)) ggX6_duty_X6_isGrain
set_option maxRecDepth 20000 in
theorem ggX6_duty_X6_in : GoodIn wsX6_duty wsX6_in := goodIn_r _ [7] (by decide +kernel) (by decide +kernel)
set_option maxRecDepth 20000 in
theorem gX6_duty_X6_in : GoodIn wsX6_duty (va_wsS RX6 92 yX6_in wsX6_in) := goodIn_app (goodIn_of _ (by decide +kernel)) ggX6_duty_X6_in
set_option maxRecDepth 20000 in
theorem ggX6_duty_X6_dutyAt : GoodIn wsX6_duty wsX6_dutyAt := goodIn_r _ [11, 12, 13, 14, 15, 16, 17, 3, 18, 19, 20, 21, 22, 23, 24, 25, 26, 27, 28, 29, 30, 31, 32, 33, 34, 35, 36, 37, 38, 39, 40, 41, 42, 43, 44, 45, 46, 47, 48, 49, 50, 51, 52, 53, 54, 55, 56, 57, 58, 59, 60, 61, 62, 63, 64, 65, 66, 67, 68, 69, 70, 71, 72, 73, 74, 75, 76, 77, 78, 79, 80, 81, 82, 83] (by decide +kernel) (by decide +kernel)
set_option maxRecDepth 20000 in
theorem gX6_duty_X6_dutyAt : GoodIn wsX6_duty (wsV RX6 136 RX6 yX6_dutyAt wsX6_dutyAt) := goodIn_app (goodIn_of _ (by decide +kernel)) ggX6_duty_X6_dutyAt
theorem dX6_duty_0 : decode cX6_duty 0 = .ok (.iload_n 1, 1) := by decide +kernel
theorem dX6_duty_1 : decode cX6_duty 1 = .ok (.invokestatic 105, 3) := by decide +kernel
theorem dX6_duty_4 : decode cX6_duty 4 = .ok (.ifCond .eq 24, 3) := by decide +kernel
theorem dX6_duty_7 : decode cX6_duty 7 = .ok (.iload_n 2, 1) := by decide +kernel
theorem dX6_duty_8 : decode cX6_duty 8 = .ok (.iconst 0, 1) := by decide +kernel
theorem dX6_duty_9 : decode cX6_duty 9 = .ok (.sipush 220, 3) := by decide +kernel
theorem dX6_duty_12 : decode cX6_duty 12 = .ok (.invokestatic 92, 3) := by decide +kernel
theorem dX6_duty_15 : decode cX6_duty 15 = .ok (.ifCond .eq 13, 3) := by decide +kernel
theorem dX6_duty_18 : decode cX6_duty 18 = .ok (.aload_n 0, 1) := by decide +kernel
theorem dX6_duty_19 : decode cX6_duty 19 = .ok (.iload_n 1, 1) := by decide +kernel
theorem dX6_duty_20 : decode cX6_duty 20 = .ok (.iload_n 2, 1) := by decide +kernel
theorem dX6_duty_21 : decode cX6_duty 21 = .ok (.iload_n 2, 1) := by decide +kernel
theorem dX6_duty_22 : decode cX6_duty 22 = .ok (.invokevirtual 136, 3) := by decide +kernel
theorem dX6_duty_25 : decode cX6_duty 25 = .ok (.goto 5, 3) := by decide +kernel
theorem dX6_duty_28 : decode cX6_duty 28 = .ok (.bipush (-2), 2) := by decide +kernel
theorem dX6_duty_30 : decode cX6_duty 30 = .ok (.ireturn, 1) := by decide +kernel
set_option maxRecDepth 20000 in
theorem ggX6_cargo_X6_isGrain : GoodIn wsX6_cargo wsX6_isGrain := goodIn_r _ [12, 13, 14, 11, 15] (by decide +kernel) (by decide +kernel)
set_option maxRecDepth 20000 in
theorem gX6_cargo_X6_isGrain : GoodIn wsX6_cargo (va_wsS RX6 105 yX6_isGrain wsX6_isGrain) := goodIn_app (goodIn_of _ (by decide +kernel)) ggX6_cargo_X6_isGrain
set_option maxRecDepth 20000 in
theorem ggX6_cargo_X6_in : GoodIn wsX6_cargo wsX6_in := goodIn_r _ [15] (by decide +kernel) (by decide +kernel)
set_option maxRecDepth 20000 in
theorem gX6_cargo_X6_in : GoodIn wsX6_cargo (va_wsS RX6 92 yX6_in wsX6_in) := goodIn_app (goodIn_of _ (by decide +kernel)) ggX6_cargo_X6_in
theorem dX6_cargo_0 : decode cX6_cargo 0 = .ok (.iload_n 1, 1) := by decide +kernel
theorem dX6_cargo_1 : decode cX6_cargo 1 = .ok (.invokestatic 105, 3) := by decide +kernel
theorem dX6_cargo_4 : decode cX6_cargo 4 = .ok (.ifCond .eq 14, 3) := by decide +kernel
theorem dX6_cargo_7 : decode cX6_cargo 7 = .ok (.iload_n 2, 1) := by decide +kernel
theorem dX6_cargo_8 : decode cX6_cargo 8 = .ok (.iconst 1, 1) := by decide +kernel
theorem dX6_cargo_9 : decode cX6_cargo 9 = .ok (.sipush 10000, 3) := by decide +kernel
theorem dX6_cargo_12 : decode cX6_cargo 12 = .ok (.invokestatic 92, 3) := by decide +kernel
theorem dX6_cargo_15 : decode cX6_cargo 15 = .ok (.ifCond .ne 6, 3) := by decide +kernel
theorem dX6_cargo_18 : decode cX6_cargo 18 = .ok (.bipush (-2), 2) := by decide +kernel
theorem dX6_cargo_20 : decode cX6_cargo 20 = .ok (.ireturn, 1) := by decide +kernel
theorem dX6_cargo_21 : decode cX6_cargo 21 = .ok (.aload_n 0, 1) := by decide +kernel
theorem dX6_cargo_22 : decode cX6_cargo 22 = .ok (.getfield 99, 3) := by decide +kernel
theorem dX6_cargo_25 : decode cX6_cargo 25 = .ok (.bipush 20, 2) := by decide +kernel
theorem dX6_cargo_27 : decode cX6_cargo 27 = .ok (.if_icmp .ne 6, 3) := by decide +kernel
theorem dX6_cargo_30 : decode cX6_cargo 30 = .ok (.bipush (-4), 2) := by decide +kernel
theorem dX6_cargo_32 : decode cX6_cargo 32 = .ok (.ireturn, 1) := by decide +kernel
theorem dX6_cargo_33 : decode cX6_cargo 33 = .ok (.aload_n 0, 1) := by decide +kernel
theorem dX6_cargo_34 : decode cX6_cargo 34 = .ok (.getfield 58, 3) := by decide +kernel
theorem dX6_cargo_37 : decode cX6_cargo 37 = .ok (.aload_n 0, 1) := by decide +kernel
theorem dX6_cargo_38 : decode cX6_cargo 38 = .ok (.getfield 99, 3) := by decide +kernel
theorem dX6_cargo_41 : decode cX6_cargo 41 = .ok (.iload_n 1, 1) := by decide +kernel
theorem dX6_cargo_42 : decode cX6_cargo 42 = .ok (.iastore, 1) := by decide +kernel
theorem dX6_cargo_43 : decode cX6_cargo 43 = .ok (.aload_n 0, 1) := by decide +kernel
theorem dX6_cargo_44 : decode cX6_cargo 44 = .ok (.getfield 61, 3) := by decide +kernel
theorem dX6_cargo_47 : decode cX6_cargo 47 = .ok (.aload_n 0, 1) := by decide +kernel
theorem dX6_cargo_48 : decode cX6_cargo 48 = .ok (.getfield 99, 3) := by decide +kernel
theorem dX6_cargo_51 : decode cX6_cargo 51 = .ok (.iload_n 2, 1) := by decide +kernel
theorem dX6_cargo_52 : decode cX6_cargo 52 = .ok (.iastore, 1) := by decide +kernel
theorem dX6_cargo_53 : decode cX6_cargo 53 = .ok (.aload_n 0, 1) := by decide +kernel
theorem dX6_cargo_54 : decode cX6_cargo 54 = .ok (.getfield 64, 3) := by decide +kernel
theorem dX6_cargo_57 : decode cX6_cargo 57 = .ok (.aload_n 0, 1) := by decide +kernel
theorem dX6_cargo_58 : decode cX6_cargo 58 = .ok (.getfield 99, 3) := by decide +kernel
theorem dX6_cargo_61 : decode cX6_cargo 61 = .ok (.iconst 0, 1) := by decide +kernel
theorem dX6_cargo_62 : decode cX6_cargo 62 = .ok (.iastore, 1) := by decide +kernel
theorem dX6_cargo_63 : decode cX6_cargo 63 = .ok (.aload_n 0, 1) := by decide +kernel
theorem dX6_cargo_64 : decode cX6_cargo 64 = .ok (.getfield 67, 3) := by decide +kernel
theorem dX6_cargo_67 : decode cX6_cargo 67 = .ok (.aload_n 0, 1) := by decide +kernel
theorem dX6_cargo_68 : decode cX6_cargo 68 = .ok (.getfield 99, 3) := by decide +kernel
theorem dX6_cargo_71 : decode cX6_cargo 71 = .ok (.iconst 0, 1) := by decide +kernel
theorem dX6_cargo_72 : decode cX6_cargo 72 = .ok (.iastore, 1) := by decide +kernel
theorem dX6_cargo_73 : decode cX6_cargo 73 = .ok (.aload_n 0, 1) := by decide +kernel
theorem dX6_cargo_74 : decode cX6_cargo 74 = .ok (.getfield 70, 3) := by decide +kernel
theorem dX6_cargo_77 : decode cX6_cargo 77 = .ok (.aload_n 0, 1) := by decide +kernel
theorem dX6_cargo_78 : decode cX6_cargo 78 = .ok (.getfield 99, 3) := by decide +kernel
theorem dX6_cargo_81 : decode cX6_cargo 81 = .ok (.iconst 0, 1) := by decide +kernel
theorem dX6_cargo_82 : decode cX6_cargo 82 = .ok (.iastore, 1) := by decide +kernel
theorem dX6_cargo_83 : decode cX6_cargo 83 = .ok (.aload_n 0, 1) := by decide +kernel
theorem dX6_cargo_84 : decode cX6_cargo 84 = .ok (.getfield 73, 3) := by decide +kernel
theorem dX6_cargo_87 : decode cX6_cargo 87 = .ok (.aload_n 0, 1) := by decide +kernel
theorem dX6_cargo_88 : decode cX6_cargo 88 = .ok (.getfield 99, 3) := by decide +kernel
theorem dX6_cargo_91 : decode cX6_cargo 91 = .ok (.aload_n 0, 1) := by decide +kernel
theorem dX6_cargo_92 : decode cX6_cargo 92 = .ok (.getfield 96, 3) := by decide +kernel
theorem dX6_cargo_95 : decode cX6_cargo 95 = .ok (.iastore, 1) := by decide +kernel
theorem dX6_cargo_96 : decode cX6_cargo 96 = .ok (.aload_n 0, 1) := by decide +kernel
theorem dX6_cargo_97 : decode cX6_cargo 97 = .ok (.dup, 1) := by decide +kernel
theorem dX6_cargo_98 : decode cX6_cargo 98 = .ok (.getfield 99, 3) := by decide +kernel
theorem dX6_cargo_101 : decode cX6_cargo 101 = .ok (.iconst 1, 1) := by decide +kernel
theorem dX6_cargo_102 : decode cX6_cargo 102 = .ok (.iadd, 1) := by decide +kernel
theorem dX6_cargo_103 : decode cX6_cargo 103 = .ok (.putfield 99, 3) := by decide +kernel
theorem dX6_cargo_106 : decode cX6_cargo 106 = .ok (.aload_n 0, 1) := by decide +kernel
theorem dX6_cargo_107 : decode cX6_cargo 107 = .ok (.getfield 99, 3) := by decide +kernel
theorem dX6_cargo_110 : decode cX6_cargo 110 = .ok (.iconst 1, 1) := by decide +kernel
theorem dX6_cargo_111 : decode cX6_cargo 111 = .ok (.isub, 1) := by decide +kernel
theorem dX6_cargo_112 : decode cX6_cargo 112 = .ok (.ireturn, 1) := by decide +kernel
set_option maxRecDepth 20000 in
theorem ggX6_isCargo_X6_in : GoodIn wsX6_isCargo wsX6_in := goodIn_r _ [5] (by decide +kernel) (by decide +kernel)
set_option maxRecDepth 20000 in
theorem gX6_isCargo_X6_in : GoodIn wsX6_isCargo (va_wsS RX6 92 yX6_in wsX6_in) := goodIn_app (goodIn_of _ (by decide +kernel)) ggX6_isCargo_X6_in
theorem dX6_isCargo_0 : decode cX6_isCargo 0 = .ok (.iload_n 1, 1) := by decide +kernel
theorem dX6_isCargo_1 : decode cX6_isCargo 1 = .ok (.iconst 0, 1) := by decide +kernel
theorem dX6_isCargo_2 : decode cX6_isCargo 2 = .ok (.aload_n 0, 1) := by decide +kernel
theorem dX6_isCargo_3 : decode cX6_isCargo 3 = .ok (.getfield 99, 3) := by decide +kernel
theorem dX6_isCargo_6 : decode cX6_isCargo 6 = .ok (.iconst 1, 1) := by decide +kernel
theorem dX6_isCargo_7 : decode cX6_isCargo 7 = .ok (.isub, 1) := by decide +kernel
theorem dX6_isCargo_8 : decode cX6_isCargo 8 = .ok (.invokestatic 92, 3) := by decide +kernel
theorem dX6_isCargo_11 : decode cX6_isCargo 11 = .ok (.ireturn, 1) := by decide +kernel
set_option maxRecDepth 20000 in
theorem ggX6_spoil_X6_in : GoodIn wsX6_spoil wsX6_in := goodIn_r _ [5] (by decide +kernel) (by decide +kernel)
set_option maxRecDepth 20000 in
theorem gX6_spoil_X6_in : GoodIn wsX6_spoil (va_wsS RX6 92 yX6_in wsX6_in) := goodIn_app (goodIn_of _ (by decide +kernel)) ggX6_spoil_X6_in
theorem dX6_spoil_0 : decode cX6_spoil 0 = .ok (.iload_n 1, 1) := by decide +kernel
theorem dX6_spoil_1 : decode cX6_spoil 1 = .ok (.iconst 0, 1) := by decide +kernel
theorem dX6_spoil_2 : decode cX6_spoil 2 = .ok (.bipush 100, 2) := by decide +kernel
theorem dX6_spoil_4 : decode cX6_spoil 4 = .ok (.invokestatic 92, 3) := by decide +kernel
theorem dX6_spoil_7 : decode cX6_spoil 7 = .ok (.ifCond .ne 6, 3) := by decide +kernel
theorem dX6_spoil_10 : decode cX6_spoil 10 = .ok (.bipush (-2), 2) := by decide +kernel
theorem dX6_spoil_12 : decode cX6_spoil 12 = .ok (.ireturn, 1) := by decide +kernel
theorem dX6_spoil_13 : decode cX6_spoil 13 = .ok (.aload_n 0, 1) := by decide +kernel
theorem dX6_spoil_14 : decode cX6_spoil 14 = .ok (.getfield 102, 3) := by decide +kernel
theorem dX6_spoil_17 : decode cX6_spoil 17 = .ok (.istore_n 2, 1) := by decide +kernel
theorem dX6_spoil_18 : decode cX6_spoil 18 = .ok (.aload_n 0, 1) := by decide +kernel
theorem dX6_spoil_19 : decode cX6_spoil 19 = .ok (.iload_n 1, 1) := by decide +kernel
theorem dX6_spoil_20 : decode cX6_spoil 20 = .ok (.putfield 102, 3) := by decide +kernel
theorem dX6_spoil_23 : decode cX6_spoil 23 = .ok (.iload_n 2, 1) := by decide +kernel
theorem dX6_spoil_24 : decode cX6_spoil 24 = .ok (.ireturn, 1) := by decide +kernel
set_option maxRecDepth 20000 in
theorem ggX6_letOut_X6_isCargo : GoodIn wsX6_letOut wsX6_isCargo := goodIn_r _ [17, 18, 19, 20, 16, 21, 64, 65, 66, 67, 68, 69, 70, 71, 72, 73, 74, 75, 76, 77, 78, 79, 80, 81, 82, 83, 84, 85, 86, 87, 88, 89, 90, 91, 92, 93, 94, 95, 96, 97] (by decide +kernel) (by decide +kernel)
set_option maxRecDepth 20000 in
theorem gX6_letOut_X6_isCargo : GoodIn wsX6_letOut (wsV RX6 139 RX6 yX6_isCargo wsX6_isCargo) := goodIn_app (goodIn_of _ (by decide +kernel)) ggX6_letOut_X6_isCargo
set_option maxRecDepth 20000 in
theorem ggX6_letOut_X6_in : GoodIn wsX6_letOut wsX6_in := goodIn_r _ [21] (by decide +kernel) (by decide +kernel)
set_option maxRecDepth 20000 in
theorem gX6_letOut_X6_in : GoodIn wsX6_letOut (va_wsS RX6 92 yX6_in wsX6_in) := goodIn_app (goodIn_of _ (by decide +kernel)) ggX6_letOut_X6_in
set_option maxRecDepth 20000 in
theorem ggX6_letOut_X6_dutyAt : GoodIn wsX6_letOut wsX6_dutyAt := goodIn_r _ [25, 26, 27, 28, 29, 30, 31, 16, 32, 33, 34, 35, 36, 37, 38, 39, 40, 41, 42, 43, 44, 45, 46, 47, 48, 49, 50, 51, 52, 53, 54, 55, 56, 57, 58, 59, 60, 61, 62, 63, 64, 65, 66, 67, 68, 69, 70, 71, 72, 73, 74, 75, 76, 77, 78, 79, 80, 81, 82, 83, 84, 85, 86, 87, 88, 89, 90, 91, 92, 93, 94, 95, 96, 97] (by decide +kernel) (by decide +kernel)
set_option maxRecDepth 20000 in
theorem gX6_letOut_X6_dutyAt : GoodIn wsX6_letOut (wsV RX6 136 RX6 yX6_dutyAt wsX6_dutyAt) := goodIn_app (goodIn_of _ (by decide +kernel)) ggX6_letOut_X6_dutyAt
theorem dX6_letOut_0 : decode cX6_letOut 0 = .ok (.aload_n 0, 1) := by decide +kernel
theorem dX6_letOut_1 : decode cX6_letOut 1 = .ok (.iload_n 1, 1) := by decide +kernel
theorem dX6_letOut_2 : decode cX6_letOut 2 = .ok (.invokevirtual 139, 3) := by decide +kernel
theorem dX6_letOut_5 : decode cX6_letOut 5 = .ok (.ifCond .eq 14, 3) := by decide +kernel
theorem dX6_letOut_8 : decode cX6_letOut 8 = .ok (.iload_n 2, 1) := by decide +kernel
theorem dX6_letOut_9 : decode cX6_letOut 9 = .ok (.iconst 1, 1) := by decide +kernel
theorem dX6_letOut_10 : decode cX6_letOut 10 = .ok (.sipush 10000, 3) := by decide +kernel
theorem dX6_letOut_13 : decode cX6_letOut 13 = .ok (.invokestatic 92, 3) := by decide +kernel
theorem dX6_letOut_16 : decode cX6_letOut 16 = .ok (.ifCond .ne 7, 3) := by decide +kernel
theorem dX6_letOut_19 : decode cX6_letOut 19 = .ok (.ldc2_w 142, 3) := by decide +kernel
theorem dX6_letOut_22 : decode cX6_letOut 22 = .ok (.lreturn, 1) := by decide +kernel
theorem dX6_letOut_23 : decode cX6_letOut 23 = .ok (.aload_n 0, 1) := by decide +kernel
theorem dX6_letOut_24 : decode cX6_letOut 24 = .ok (.getfield 61, 3) := by decide +kernel
theorem dX6_letOut_27 : decode cX6_letOut 27 = .ok (.iload_n 1, 1) := by decide +kernel
theorem dX6_letOut_28 : decode cX6_letOut 28 = .ok (.iaload, 1) := by decide +kernel
theorem dX6_letOut_29 : decode cX6_letOut 29 = .ok (.iload_n 2, 1) := by decide +kernel
theorem dX6_letOut_30 : decode cX6_letOut 30 = .ok (.if_icmp .ge 7, 3) := by decide +kernel
theorem dX6_letOut_33 : decode cX6_letOut 33 = .ok (.ldc2_w 144, 3) := by decide +kernel
theorem dX6_letOut_36 : decode cX6_letOut 36 = .ok (.lreturn, 1) := by decide +kernel
theorem dX6_letOut_37 : decode cX6_letOut 37 = .ok (.aload_n 0, 1) := by decide +kernel
theorem dX6_letOut_38 : decode cX6_letOut 38 = .ok (.getfield 146, 3) := by decide +kernel
theorem dX6_letOut_41 : decode cX6_letOut 41 = .ok (.bipush 100, 2) := by decide +kernel
theorem dX6_letOut_43 : decode cX6_letOut 43 = .ok (.if_icmp .ne 7, 3) := by decide +kernel
theorem dX6_letOut_46 : decode cX6_letOut 46 = .ok (.ldc2_w 149, 3) := by decide +kernel
theorem dX6_letOut_49 : decode cX6_letOut 49 = .ok (.lreturn, 1) := by decide +kernel
theorem dX6_letOut_50 : decode cX6_letOut 50 = .ok (.iload_n 2, 1) := by decide +kernel
theorem dX6_letOut_51 : decode cX6_letOut 51 = .ok (.i2l, 1) := by decide +kernel
theorem dX6_letOut_52 : decode cX6_letOut 52 = .ok (.aload_n 0, 1) := by decide +kernel
theorem dX6_letOut_53 : decode cX6_letOut 53 = .ok (.aload_n 0, 1) := by decide +kernel
theorem dX6_letOut_54 : decode cX6_letOut 54 = .ok (.getfield 58, 3) := by decide +kernel
theorem dX6_letOut_57 : decode cX6_letOut 57 = .ok (.iload_n 1, 1) := by decide +kernel
theorem dX6_letOut_58 : decode cX6_letOut 58 = .ok (.iaload, 1) := by decide +kernel
theorem dX6_letOut_59 : decode cX6_letOut 59 = .ok (.aload_n 0, 1) := by decide +kernel
theorem dX6_letOut_60 : decode cX6_letOut 60 = .ok (.getfield 96, 3) := by decide +kernel
theorem dX6_letOut_63 : decode cX6_letOut 63 = .ok (.aload_n 0, 1) := by decide +kernel
theorem dX6_letOut_64 : decode cX6_letOut 64 = .ok (.getfield 96, 3) := by decide +kernel
theorem dX6_letOut_67 : decode cX6_letOut 67 = .ok (.invokevirtual 136, 3) := by decide +kernel
theorem dX6_letOut_70 : decode cX6_letOut 70 = .ok (.i2l, 1) := by decide +kernel
theorem dX6_letOut_71 : decode cX6_letOut 71 = .ok (.lmul, 1) := by decide +kernel
theorem dX6_letOut_72 : decode cX6_letOut 72 = .ok (.lstore_n 3, 1) := by decide +kernel
theorem dX6_letOut_73 : decode cX6_letOut 73 = .ok (.aload_n 0, 1) := by decide +kernel
theorem dX6_letOut_74 : decode cX6_letOut 74 = .ok (.getfield 61, 3) := by decide +kernel
theorem dX6_letOut_77 : decode cX6_letOut 77 = .ok (.iload_n 1, 1) := by decide +kernel
theorem dX6_letOut_78 : decode cX6_letOut 78 = .ok (.dup2, 1) := by decide +kernel
theorem dX6_letOut_79 : decode cX6_letOut 79 = .ok (.iaload, 1) := by decide +kernel
theorem dX6_letOut_80 : decode cX6_letOut 80 = .ok (.iload_n 2, 1) := by decide +kernel
theorem dX6_letOut_81 : decode cX6_letOut 81 = .ok (.isub, 1) := by decide +kernel
theorem dX6_letOut_82 : decode cX6_letOut 82 = .ok (.iastore, 1) := by decide +kernel
theorem dX6_letOut_83 : decode cX6_letOut 83 = .ok (.aload_n 0, 1) := by decide +kernel
theorem dX6_letOut_84 : decode cX6_letOut 84 = .ok (.getfield 64, 3) := by decide +kernel
theorem dX6_letOut_87 : decode cX6_letOut 87 = .ok (.iload_n 1, 1) := by decide +kernel
theorem dX6_letOut_88 : decode cX6_letOut 88 = .ok (.dup2, 1) := by decide +kernel
theorem dX6_letOut_89 : decode cX6_letOut 89 = .ok (.iaload, 1) := by decide +kernel
theorem dX6_letOut_90 : decode cX6_letOut 90 = .ok (.iload_n 2, 1) := by decide +kernel
theorem dX6_letOut_91 : decode cX6_letOut 91 = .ok (.iadd, 1) := by decide +kernel
theorem dX6_letOut_92 : decode cX6_letOut 92 = .ok (.iastore, 1) := by decide +kernel
theorem dX6_letOut_93 : decode cX6_letOut 93 = .ok (.aload_n 0, 1) := by decide +kernel
theorem dX6_letOut_94 : decode cX6_letOut 94 = .ok (.getfield 76, 3) := by decide +kernel
theorem dX6_letOut_97 : decode cX6_letOut 97 = .ok (.aload_n 0, 1) := by decide +kernel
theorem dX6_letOut_98 : decode cX6_letOut 98 = .ok (.getfield 146, 3) := by decide +kernel
theorem dX6_letOut_101 : decode cX6_letOut 101 = .ok (.aload_n 0, 1) := by decide +kernel
theorem dX6_letOut_102 : decode cX6_letOut 102 = .ok (.getfield 58, 3) := by decide +kernel
theorem dX6_letOut_105 : decode cX6_letOut 105 = .ok (.iload_n 1, 1) := by decide +kernel
theorem dX6_letOut_106 : decode cX6_letOut 106 = .ok (.iaload, 1) := by decide +kernel
theorem dX6_letOut_107 : decode cX6_letOut 107 = .ok (.iastore, 1) := by decide +kernel
theorem dX6_letOut_108 : decode cX6_letOut 108 = .ok (.aload_n 0, 1) := by decide +kernel
theorem dX6_letOut_109 : decode cX6_letOut 109 = .ok (.getfield 79, 3) := by decide +kernel
theorem dX6_letOut_112 : decode cX6_letOut 112 = .ok (.aload_n 0, 1) := by decide +kernel
theorem dX6_letOut_113 : decode cX6_letOut 113 = .ok (.getfield 146, 3) := by decide +kernel
theorem dX6_letOut_116 : decode cX6_letOut 116 = .ok (.aload_n 0, 1) := by decide +kernel
theorem dX6_letOut_117 : decode cX6_letOut 117 = .ok (.getfield 96, 3) := by decide +kernel
theorem dX6_letOut_120 : decode cX6_letOut 120 = .ok (.iastore, 1) := by decide +kernel
theorem dX6_letOut_121 : decode cX6_letOut 121 = .ok (.aload_n 0, 1) := by decide +kernel
theorem dX6_letOut_122 : decode cX6_letOut 122 = .ok (.getfield 82, 3) := by decide +kernel
theorem dX6_letOut_125 : decode cX6_letOut 125 = .ok (.aload_n 0, 1) := by decide +kernel
theorem dX6_letOut_126 : decode cX6_letOut 126 = .ok (.getfield 146, 3) := by decide +kernel
theorem dX6_letOut_129 : decode cX6_letOut 129 = .ok (.iload_n 2, 1) := by decide +kernel
theorem dX6_letOut_130 : decode cX6_letOut 130 = .ok (.iastore, 1) := by decide +kernel
theorem dX6_letOut_131 : decode cX6_letOut 131 = .ok (.aload_n 0, 1) := by decide +kernel
theorem dX6_letOut_132 : decode cX6_letOut 132 = .ok (.dup, 1) := by decide +kernel
theorem dX6_letOut_133 : decode cX6_letOut 133 = .ok (.getfield 146, 3) := by decide +kernel
theorem dX6_letOut_136 : decode cX6_letOut 136 = .ok (.iconst 1, 1) := by decide +kernel
theorem dX6_letOut_137 : decode cX6_letOut 137 = .ok (.iadd, 1) := by decide +kernel
theorem dX6_letOut_138 : decode cX6_letOut 138 = .ok (.putfield 146, 3) := by decide +kernel
theorem dX6_letOut_141 : decode cX6_letOut 141 = .ok (.aload_n 0, 1) := by decide +kernel
theorem dX6_letOut_142 : decode cX6_letOut 142 = .ok (.dup, 1) := by decide +kernel
theorem dX6_letOut_143 : decode cX6_letOut 143 = .ok (.getfield 151, 3) := by decide +kernel
theorem dX6_letOut_146 : decode cX6_letOut 146 = .ok (.lload_n 3, 1) := by decide +kernel
theorem dX6_letOut_147 : decode cX6_letOut 147 = .ok (.ladd, 1) := by decide +kernel
theorem dX6_letOut_148 : decode cX6_letOut 148 = .ok (.putfield 151, 3) := by decide +kernel
theorem dX6_letOut_151 : decode cX6_letOut 151 = .ok (.lload_n 3, 1) := by decide +kernel
theorem dX6_letOut_152 : decode cX6_letOut 152 = .ok (.lreturn, 1) := by decide +kernel
set_option maxRecDepth 20000 in
theorem ggX6_ship_X6_isCargo : GoodIn wsX6_ship wsX6_isCargo := goodIn_r _ [7, 8, 9, 10, 6, 11, 12, 13, 14, 15, 16, 17, 18, 19, 20, 21, 22, 23, 24, 25, 26, 27, 28, 29, 30, 31, 32, 33, 34, 35, 36, 37, 38, 39, 40, 41, 42, 43, 44, 45] (by decide +kernel) (by decide +kernel)
set_option maxRecDepth 20000 in
theorem gX6_ship_X6_isCargo : GoodIn wsX6_ship (wsV RX6 139 RX6 yX6_isCargo wsX6_isCargo) := goodIn_app (goodIn_of _ (by decide +kernel)) ggX6_ship_X6_isCargo
set_option maxRecDepth 20000 in
theorem ggX6_ship_X6_in : GoodIn wsX6_ship wsX6_in := goodIn_r _ [11] (by decide +kernel) (by decide +kernel)
set_option maxRecDepth 20000 in
theorem gX6_ship_X6_in : GoodIn wsX6_ship (va_wsS RX6 92 yX6_in wsX6_in) := goodIn_app (goodIn_of _ (by decide +kernel)) ggX6_ship_X6_in
theorem dX6_ship_0 : decode cX6_ship 0 = .ok (.aload_n 0, 1) := by decide +kernel
theorem dX6_ship_1 : decode cX6_ship 1 = .ok (.iload_n 1, 1) := by decide +kernel
theorem dX6_ship_2 : decode cX6_ship 2 = .ok (.invokevirtual 139, 3) := by decide +kernel
theorem dX6_ship_5 : decode cX6_ship 5 = .ok (.ifCond .eq 14, 3) := by decide +kernel
theorem dX6_ship_8 : decode cX6_ship 8 = .ok (.iload_n 2, 1) := by decide +kernel
theorem dX6_ship_9 : decode cX6_ship 9 = .ok (.iconst 1, 1) := by decide +kernel
theorem dX6_ship_10 : decode cX6_ship 10 = .ok (.sipush 10000, 3) := by decide +kernel
theorem dX6_ship_13 : decode cX6_ship 13 = .ok (.invokestatic 92, 3) := by decide +kernel
theorem dX6_ship_16 : decode cX6_ship 16 = .ok (.ifCond .ne 6, 3) := by decide +kernel
theorem dX6_ship_19 : decode cX6_ship 19 = .ok (.bipush (-2), 2) := by decide +kernel
theorem dX6_ship_21 : decode cX6_ship 21 = .ok (.ireturn, 1) := by decide +kernel
theorem dX6_ship_22 : decode cX6_ship 22 = .ok (.aload_n 0, 1) := by decide +kernel
theorem dX6_ship_23 : decode cX6_ship 23 = .ok (.getfield 61, 3) := by decide +kernel
theorem dX6_ship_26 : decode cX6_ship 26 = .ok (.iload_n 1, 1) := by decide +kernel
theorem dX6_ship_27 : decode cX6_ship 27 = .ok (.iaload, 1) := by decide +kernel
theorem dX6_ship_28 : decode cX6_ship 28 = .ok (.iload_n 2, 1) := by decide +kernel
theorem dX6_ship_29 : decode cX6_ship 29 = .ok (.if_icmp .ge 6, 3) := by decide +kernel
theorem dX6_ship_32 : decode cX6_ship 32 = .ok (.bipush (-3), 2) := by decide +kernel
theorem dX6_ship_34 : decode cX6_ship 34 = .ok (.ireturn, 1) := by decide +kernel
theorem dX6_ship_35 : decode cX6_ship 35 = .ok (.aload_n 0, 1) := by decide +kernel
theorem dX6_ship_36 : decode cX6_ship 36 = .ok (.getfield 61, 3) := by decide +kernel
theorem dX6_ship_39 : decode cX6_ship 39 = .ok (.iload_n 1, 1) := by decide +kernel
theorem dX6_ship_40 : decode cX6_ship 40 = .ok (.dup2, 1) := by decide +kernel
theorem dX6_ship_41 : decode cX6_ship 41 = .ok (.iaload, 1) := by decide +kernel
theorem dX6_ship_42 : decode cX6_ship 42 = .ok (.iload_n 2, 1) := by decide +kernel
theorem dX6_ship_43 : decode cX6_ship 43 = .ok (.isub, 1) := by decide +kernel
theorem dX6_ship_44 : decode cX6_ship 44 = .ok (.iastore, 1) := by decide +kernel
theorem dX6_ship_45 : decode cX6_ship 45 = .ok (.aload_n 0, 1) := by decide +kernel
theorem dX6_ship_46 : decode cX6_ship 46 = .ok (.getfield 67, 3) := by decide +kernel
theorem dX6_ship_49 : decode cX6_ship 49 = .ok (.iload_n 1, 1) := by decide +kernel
theorem dX6_ship_50 : decode cX6_ship 50 = .ok (.dup2, 1) := by decide +kernel
theorem dX6_ship_51 : decode cX6_ship 51 = .ok (.iaload, 1) := by decide +kernel
theorem dX6_ship_52 : decode cX6_ship 52 = .ok (.iload_n 2, 1) := by decide +kernel
theorem dX6_ship_53 : decode cX6_ship 53 = .ok (.iadd, 1) := by decide +kernel
theorem dX6_ship_54 : decode cX6_ship 54 = .ok (.iastore, 1) := by decide +kernel
theorem dX6_ship_55 : decode cX6_ship 55 = .ok (.aload_n 0, 1) := by decide +kernel
theorem dX6_ship_56 : decode cX6_ship 56 = .ok (.getfield 61, 3) := by decide +kernel
theorem dX6_ship_59 : decode cX6_ship 59 = .ok (.iload_n 1, 1) := by decide +kernel
theorem dX6_ship_60 : decode cX6_ship 60 = .ok (.iaload, 1) := by decide +kernel
theorem dX6_ship_61 : decode cX6_ship 61 = .ok (.ireturn, 1) := by decide +kernel
set_option maxRecDepth 20000 in
theorem ggX6_bond_X6_isCargo : GoodIn wsX6_bond wsX6_isCargo := goodIn_r _ [11, 12, 13, 14, 10, 15, 16, 17, 18, 19, 20, 21, 22, 23, 24, 25, 26, 27, 28, 29, 30, 31, 32, 33, 34, 35, 36, 37, 38, 39, 40, 41, 42, 43, 44, 45, 46, 47, 48, 49] (by decide +kernel) (by decide +kernel)
set_option maxRecDepth 20000 in
theorem gX6_bond_X6_isCargo : GoodIn wsX6_bond (wsV RX6 139 RX6 yX6_isCargo wsX6_isCargo) := goodIn_app (goodIn_of _ (by decide +kernel)) ggX6_bond_X6_isCargo
theorem dX6_bond_0 : decode cX6_bond 0 = .ok (.aload_n 0, 1) := by decide +kernel
theorem dX6_bond_1 : decode cX6_bond 1 = .ok (.iload_n 1, 1) := by decide +kernel
theorem dX6_bond_2 : decode cX6_bond 2 = .ok (.invokevirtual 139, 3) := by decide +kernel
theorem dX6_bond_5 : decode cX6_bond 5 = .ok (.ifCond .ne 6, 3) := by decide +kernel
theorem dX6_bond_8 : decode cX6_bond 8 = .ok (.bipush (-2), 2) := by decide +kernel
theorem dX6_bond_10 : decode cX6_bond 10 = .ok (.ireturn, 1) := by decide +kernel
theorem dX6_bond_11 : decode cX6_bond 11 = .ok (.iload_n 2, 1) := by decide +kernel
theorem dX6_bond_12 : decode cX6_bond 12 = .ok (.tableswitch 82 0 5 #[40, 47, 54, 61, 68, 75], 40) := by decide +kernel
theorem dX6_bond_52 : decode cX6_bond 52 = .ok (.aload_n 0, 1) := by decide +kernel
theorem dX6_bond_53 : decode cX6_bond 53 = .ok (.getfield 58, 3) := by decide +kernel
theorem dX6_bond_56 : decode cX6_bond 56 = .ok (.iload_n 1, 1) := by decide +kernel
theorem dX6_bond_57 : decode cX6_bond 57 = .ok (.iaload, 1) := by decide +kernel
theorem dX6_bond_58 : decode cX6_bond 58 = .ok (.ireturn, 1) := by decide +kernel
theorem dX6_bond_59 : decode cX6_bond 59 = .ok (.aload_n 0, 1) := by decide +kernel
theorem dX6_bond_60 : decode cX6_bond 60 = .ok (.getfield 61, 3) := by decide +kernel
theorem dX6_bond_63 : decode cX6_bond 63 = .ok (.iload_n 1, 1) := by decide +kernel
theorem dX6_bond_64 : decode cX6_bond 64 = .ok (.iaload, 1) := by decide +kernel
theorem dX6_bond_65 : decode cX6_bond 65 = .ok (.ireturn, 1) := by decide +kernel
theorem dX6_bond_66 : decode cX6_bond 66 = .ok (.aload_n 0, 1) := by decide +kernel
theorem dX6_bond_67 : decode cX6_bond 67 = .ok (.getfield 64, 3) := by decide +kernel
theorem dX6_bond_70 : decode cX6_bond 70 = .ok (.iload_n 1, 1) := by decide +kernel
theorem dX6_bond_71 : decode cX6_bond 71 = .ok (.iaload, 1) := by decide +kernel
theorem dX6_bond_72 : decode cX6_bond 72 = .ok (.ireturn, 1) := by decide +kernel
theorem dX6_bond_73 : decode cX6_bond 73 = .ok (.aload_n 0, 1) := by decide +kernel
theorem dX6_bond_74 : decode cX6_bond 74 = .ok (.getfield 67, 3) := by decide +kernel
theorem dX6_bond_77 : decode cX6_bond 77 = .ok (.iload_n 1, 1) := by decide +kernel
theorem dX6_bond_78 : decode cX6_bond 78 = .ok (.iaload, 1) := by decide +kernel
theorem dX6_bond_79 : decode cX6_bond 79 = .ok (.ireturn, 1) := by decide +kernel
theorem dX6_bond_80 : decode cX6_bond 80 = .ok (.aload_n 0, 1) := by decide +kernel
theorem dX6_bond_81 : decode cX6_bond 81 = .ok (.getfield 70, 3) := by decide +kernel
theorem dX6_bond_84 : decode cX6_bond 84 = .ok (.iload_n 1, 1) := by decide +kernel
theorem dX6_bond_85 : decode cX6_bond 85 = .ok (.iaload, 1) := by decide +kernel
theorem dX6_bond_86 : decode cX6_bond 86 = .ok (.ireturn, 1) := by decide +kernel
theorem dX6_bond_87 : decode cX6_bond 87 = .ok (.aload_n 0, 1) := by decide +kernel
theorem dX6_bond_88 : decode cX6_bond 88 = .ok (.getfield 73, 3) := by decide +kernel
theorem dX6_bond_91 : decode cX6_bond 91 = .ok (.iload_n 1, 1) := by decide +kernel
theorem dX6_bond_92 : decode cX6_bond 92 = .ok (.iaload, 1) := by decide +kernel
theorem dX6_bond_93 : decode cX6_bond 93 = .ok (.ireturn, 1) := by decide +kernel
theorem dX6_bond_94 : decode cX6_bond 94 = .ok (.bipush (-2), 2) := by decide +kernel
theorem dX6_bond_96 : decode cX6_bond 96 = .ok (.ireturn, 1) := by decide +kernel
theorem dX6_chest_0 : decode cX6_chest 0 = .ok (.aload_n 0, 1) := by decide +kernel
theorem dX6_chest_1 : decode cX6_chest 1 = .ok (.getfield 151, 3) := by decide +kernel
theorem dX6_chest_4 : decode cX6_chest 4 = .ok (.lreturn, 1) := by decide +kernel
set_option maxRecDepth 20000 in
theorem ggX6_paidAnew_X6_dutyAt : GoodIn wsX6_paidAnew wsX6_dutyAt := goodIn_r _ [9, 10, 11, 12, 13, 14, 15, 8, 16, 17, 18, 19, 20, 21, 22, 23, 24, 25, 26, 27, 28, 29, 30, 31, 32, 33, 34, 35, 36, 37, 38, 39, 40, 41, 42, 43, 44, 45, 46, 47, 48, 49, 50, 51, 52, 53, 54, 55, 56, 57, 58, 59, 60, 61, 62, 63, 64, 65, 66, 67, 68, 69, 70, 71, 72, 73, 74, 75, 76, 77, 78, 79, 80, 81] (by decide +kernel) (by decide +kernel)
set_option maxRecDepth 20000 in
theorem gX6_paidAnew_X6_dutyAt : GoodIn wsX6_paidAnew (wsV RX6 136 RX6 yX6_dutyAt wsX6_dutyAt) := goodIn_app (goodIn_of _ (by decide +kernel)) ggX6_paidAnew_X6_dutyAt
theorem dX6_paidAnew_0 : decode cX6_paidAnew 0 = .ok (.lconst 0, 1) := by decide +kernel
theorem dX6_paidAnew_1 : decode cX6_paidAnew 1 = .ok (.lstore_n 1, 1) := by decide +kernel
theorem dX6_paidAnew_2 : decode cX6_paidAnew 2 = .ok (.iconst 0, 1) := by decide +kernel
theorem dX6_paidAnew_3 : decode cX6_paidAnew 3 = .ok (.istore_n 3, 1) := by decide +kernel
theorem dX6_paidAnew_4 : decode cX6_paidAnew 4 = .ok (.iload_n 3, 1) := by decide +kernel
theorem dX6_paidAnew_5 : decode cX6_paidAnew 5 = .ok (.aload_n 0, 1) := by decide +kernel
theorem dX6_paidAnew_6 : decode cX6_paidAnew 6 = .ok (.getfield 146, 3) := by decide +kernel
theorem dX6_paidAnew_9 : decode cX6_paidAnew 9 = .ok (.if_icmp .ge 43, 3) := by decide +kernel
theorem dX6_paidAnew_12 : decode cX6_paidAnew 12 = .ok (.lload_n 1, 1) := by decide +kernel
theorem dX6_paidAnew_13 : decode cX6_paidAnew 13 = .ok (.aload_n 0, 1) := by decide +kernel
theorem dX6_paidAnew_14 : decode cX6_paidAnew 14 = .ok (.getfield 82, 3) := by decide +kernel
theorem dX6_paidAnew_17 : decode cX6_paidAnew 17 = .ok (.iload_n 3, 1) := by decide +kernel
theorem dX6_paidAnew_18 : decode cX6_paidAnew 18 = .ok (.iaload, 1) := by decide +kernel
theorem dX6_paidAnew_19 : decode cX6_paidAnew 19 = .ok (.i2l, 1) := by decide +kernel
theorem dX6_paidAnew_20 : decode cX6_paidAnew 20 = .ok (.aload_n 0, 1) := by decide +kernel
theorem dX6_paidAnew_21 : decode cX6_paidAnew 21 = .ok (.aload_n 0, 1) := by decide +kernel
theorem dX6_paidAnew_22 : decode cX6_paidAnew 22 = .ok (.getfield 76, 3) := by decide +kernel
theorem dX6_paidAnew_25 : decode cX6_paidAnew 25 = .ok (.iload_n 3, 1) := by decide +kernel
theorem dX6_paidAnew_26 : decode cX6_paidAnew 26 = .ok (.iaload, 1) := by decide +kernel
theorem dX6_paidAnew_27 : decode cX6_paidAnew 27 = .ok (.aload_n 0, 1) := by decide +kernel
theorem dX6_paidAnew_28 : decode cX6_paidAnew 28 = .ok (.getfield 79, 3) := by decide +kernel
theorem dX6_paidAnew_31 : decode cX6_paidAnew 31 = .ok (.iload_n 3, 1) := by decide +kernel
theorem dX6_paidAnew_32 : decode cX6_paidAnew 32 = .ok (.iaload, 1) := by decide +kernel
theorem dX6_paidAnew_33 : decode cX6_paidAnew 33 = .ok (.aload_n 0, 1) := by decide +kernel
theorem dX6_paidAnew_34 : decode cX6_paidAnew 34 = .ok (.getfield 79, 3) := by decide +kernel
theorem dX6_paidAnew_37 : decode cX6_paidAnew 37 = .ok (.iload_n 3, 1) := by decide +kernel
theorem dX6_paidAnew_38 : decode cX6_paidAnew 38 = .ok (.iaload, 1) := by decide +kernel
theorem dX6_paidAnew_39 : decode cX6_paidAnew 39 = .ok (.invokevirtual 136, 3) := by decide +kernel
theorem dX6_paidAnew_42 : decode cX6_paidAnew 42 = .ok (.i2l, 1) := by decide +kernel
theorem dX6_paidAnew_43 : decode cX6_paidAnew 43 = .ok (.lmul, 1) := by decide +kernel
theorem dX6_paidAnew_44 : decode cX6_paidAnew 44 = .ok (.ladd, 1) := by decide +kernel
theorem dX6_paidAnew_45 : decode cX6_paidAnew 45 = .ok (.lstore_n 1, 1) := by decide +kernel
theorem dX6_paidAnew_46 : decode cX6_paidAnew 46 = .ok (.iinc 3 1, 3) := by decide +kernel
theorem dX6_paidAnew_49 : decode cX6_paidAnew 49 = .ok (.goto (-45), 3) := by decide +kernel
theorem dX6_paidAnew_52 : decode cX6_paidAnew 52 = .ok (.lload_n 1, 1) := by decide +kernel
theorem dX6_paidAnew_53 : decode cX6_paidAnew 53 = .ok (.lreturn, 1) := by decide +kernel
set_option maxRecDepth 20000 in
theorem ggX6_worth_X6_in : GoodIn wsX6_worth wsX6_in := goodIn_r _ [8] (by decide +kernel) (by decide +kernel)
set_option maxRecDepth 20000 in
theorem gX6_worth_X6_in : GoodIn wsX6_worth (va_wsS RX6 92 yX6_in wsX6_in) := goodIn_app (goodIn_of _ (by decide +kernel)) ggX6_worth_X6_in
set_option maxRecDepth 20000 in
theorem ggX6_worth_X6_paidAnew : GoodIn wsX6_worth wsX6_paidAnew := goodIn_r _ [12, 13, 14, 15, 16, 17, 18, 19, 7, 20, 21, 22, 23, 24, 25, 26, 27, 28, 29, 30, 31, 32, 33, 34, 35, 36, 37, 38, 39, 40, 41, 42, 43, 44, 45, 46, 1, 47, 48, 49, 50, 51, 52, 53, 54, 3, 55, 56, 57, 58, 59, 60, 61, 62, 63, 64, 65, 66, 67, 68, 69, 70, 71, 72, 73, 74, 75, 76, 77, 78, 79, 80, 81, 82, 83, 84, 85, 86, 87, 88, 89, 90] (by decide +kernel) (by decide +kernel)
set_option maxRecDepth 20000 in
theorem gX6_worth_X6_paidAnew : GoodIn wsX6_worth (wsV RX6 157 RX6 yX6_paidAnew wsX6_paidAnew) := goodIn_app (goodIn_of _ (by decide +kernel)) ggX6_worth_X6_paidAnew
theorem dX6_worth_0 : decode cX6_worth 0 = .ok (.iload_n 1, 1) := by decide +kernel
theorem dX6_worth_1 : decode cX6_worth 1 = .ok (.iconst 0, 1) := by decide +kernel
theorem dX6_worth_2 : decode cX6_worth 2 = .ok (.aload_n 0, 1) := by decide +kernel
theorem dX6_worth_3 : decode cX6_worth 3 = .ok (.getfield 109, 3) := by decide +kernel
theorem dX6_worth_6 : decode cX6_worth 6 = .ok (.iconst 1, 1) := by decide +kernel
theorem dX6_worth_7 : decode cX6_worth 7 = .ok (.isub, 1) := by decide +kernel
theorem dX6_worth_8 : decode cX6_worth 8 = .ok (.invokestatic 92, 3) := by decide +kernel
theorem dX6_worth_11 : decode cX6_worth 11 = .ok (.ifCond .ne 7, 3) := by decide +kernel
theorem dX6_worth_14 : decode cX6_worth 14 = .ok (.ldc2_w 155, 3) := by decide +kernel
theorem dX6_worth_17 : decode cX6_worth 17 = .ok (.lreturn, 1) := by decide +kernel
theorem dX6_worth_18 : decode cX6_worth 18 = .ok (.aload_n 0, 1) := by decide +kernel
theorem dX6_worth_19 : decode cX6_worth 19 = .ok (.iload_n 1, 1) := by decide +kernel
theorem dX6_worth_20 : decode cX6_worth 20 = .ok (.putfield 85, 3) := by decide +kernel
theorem dX6_worth_23 : decode cX6_worth 23 = .ok (.aload_n 0, 1) := by decide +kernel
theorem dX6_worth_24 : decode cX6_worth 24 = .ok (.invokevirtual 157, 3) := by decide +kernel
theorem dX6_worth_27 : decode cX6_worth 27 = .ok (.lstore_n 2, 1) := by decide +kernel
theorem dX6_worth_28 : decode cX6_worth 28 = .ok (.aload_n 0, 1) := by decide +kernel
theorem dX6_worth_29 : decode cX6_worth 29 = .ok (.iconst (-1), 1) := by decide +kernel
theorem dX6_worth_30 : decode cX6_worth 30 = .ok (.putfield 85, 3) := by decide +kernel
theorem dX6_worth_33 : decode cX6_worth 33 = .ok (.lload_n 2, 1) := by decide +kernel
theorem dX6_worth_34 : decode cX6_worth 34 = .ok (.aload_n 0, 1) := by decide +kernel
theorem dX6_worth_35 : decode cX6_worth 35 = .ok (.getfield 151, 3) := by decide +kernel
theorem dX6_worth_38 : decode cX6_worth 38 = .ok (.lsub, 1) := by decide +kernel
theorem dX6_worth_39 : decode cX6_worth 39 = .ok (.lreturn, 1) := by decide +kernel
set_option maxRecDepth 20000 in
theorem ggX6_other_X6_isScale : GoodIn wsX6_other wsX6_isScale := goodIn_r _ [7, 8, 9, 10, 6, 11, 60, 61, 62, 63, 64, 65, 66, 67, 68, 69, 70, 71, 72, 73, 74, 75, 76, 77, 78, 79, 80, 81, 82, 83, 84, 85, 86, 87, 88, 89, 90, 91, 92, 93] (by decide +kernel) (by decide +kernel)
set_option maxRecDepth 20000 in
theorem gX6_other_X6_isScale : GoodIn wsX6_other (wsV RX6 126 RX6 yX6_isScale wsX6_isScale) := goodIn_app (goodIn_of _ (by decide +kernel)) ggX6_other_X6_isScale
set_option maxRecDepth 20000 in
theorem ggX6_other_X6_paidAnew : GoodIn wsX6_other wsX6_paidAnew := goodIn_r _ [15, 16, 17, 18, 19, 20, 21, 22, 6, 23, 24, 25, 26, 27, 28, 29, 30, 2, 31, 32, 33, 34, 35, 36, 37, 38, 8, 39, 40, 41, 42, 43, 44, 45, 46, 47, 48, 49, 50, 51, 52, 53, 54, 55, 56, 57, 58, 59, 60, 61, 62, 63, 64, 65, 66, 67, 68, 69, 70, 71, 72, 73, 74, 75, 76, 77, 78, 79, 80, 81, 82, 83, 84, 85, 86, 87, 88, 89, 90, 91, 92, 93] (by decide +kernel) (by decide +kernel)
set_option maxRecDepth 20000 in
theorem gX6_other_X6_paidAnew : GoodIn wsX6_other (wsV RX6 157 RX6 yX6_paidAnew wsX6_paidAnew) := goodIn_app (goodIn_of _ (by decide +kernel)) ggX6_other_X6_paidAnew
theorem dX6_other_0 : decode cX6_other 0 = .ok (.aload_n 0, 1) := by decide +kernel
theorem dX6_other_1 : decode cX6_other 1 = .ok (.iload_n 1, 1) := by decide +kernel
theorem dX6_other_2 : decode cX6_other 2 = .ok (.invokevirtual 126, 3) := by decide +kernel
theorem dX6_other_5 : decode cX6_other 5 = .ok (.ifCond .ne 7, 3) := by decide +kernel
theorem dX6_other_8 : decode cX6_other 8 = .ok (.ldc2_w 142, 3) := by decide +kernel
theorem dX6_other_11 : decode cX6_other 11 = .ok (.lreturn, 1) := by decide +kernel
theorem dX6_other_12 : decode cX6_other 12 = .ok (.aload_n 0, 1) := by decide +kernel
theorem dX6_other_13 : decode cX6_other 13 = .ok (.iload_n 1, 1) := by decide +kernel
theorem dX6_other_14 : decode cX6_other 14 = .ok (.putfield 89, 3) := by decide +kernel
theorem dX6_other_17 : decode cX6_other 17 = .ok (.aload_n 0, 1) := by decide +kernel
theorem dX6_other_18 : decode cX6_other 18 = .ok (.invokevirtual 157, 3) := by decide +kernel
theorem dX6_other_21 : decode cX6_other 21 = .ok (.lstore_n 2, 1) := by decide +kernel
theorem dX6_other_22 : decode cX6_other 22 = .ok (.aload_n 0, 1) := by decide +kernel
theorem dX6_other_23 : decode cX6_other 23 = .ok (.iconst (-1), 1) := by decide +kernel
theorem dX6_other_24 : decode cX6_other 24 = .ok (.putfield 89, 3) := by decide +kernel
theorem dX6_other_27 : decode cX6_other 27 = .ok (.lload_n 2, 1) := by decide +kernel
theorem dX6_other_28 : decode cX6_other 28 = .ok (.lreturn, 1) := by decide +kernel
set_option maxRecDepth 20000 in
theorem ggX6_gainAt_X6_dutyAt : GoodIn wsX6_gainAt wsX6_dutyAt := goodIn_r _ [9, 10, 11, 12, 13, 14, 15, 8, 16, 17, 18, 19, 20, 21, 22, 23, 24, 25, 26, 27, 28, 29, 30, 31, 32, 33, 34, 35, 36, 37, 38, 39, 40, 41, 42, 43, 44, 45, 46, 47, 48, 49, 50, 51, 52, 53, 54, 55, 56, 57, 58, 59, 60, 61, 62, 63, 64, 65, 66, 67, 68, 69, 70, 71, 72, 73, 74, 75, 76, 77, 78, 79, 80, 81] (by decide +kernel) (by decide +kernel)
set_option maxRecDepth 20000 in
theorem gX6_gainAt_X6_dutyAt : GoodIn wsX6_gainAt (wsV RX6 136 RX6 yX6_dutyAt wsX6_dutyAt) := goodIn_app (goodIn_of _ (by decide +kernel)) ggX6_gainAt_X6_dutyAt
theorem dX6_gainAt_0 : decode cX6_gainAt 0 = .ok (.aload_n 0, 1) := by decide +kernel
theorem dX6_gainAt_1 : decode cX6_gainAt 1 = .ok (.getfield 61, 3) := by decide +kernel
theorem dX6_gainAt_4 : decode cX6_gainAt 4 = .ok (.iload_n 1, 1) := by decide +kernel
theorem dX6_gainAt_5 : decode cX6_gainAt 5 = .ok (.iaload, 1) := by decide +kernel
theorem dX6_gainAt_6 : decode cX6_gainAt 6 = .ok (.istore 4, 2) := by decide +kernel
theorem dX6_gainAt_8 : decode cX6_gainAt 8 = .ok (.aload_n 0, 1) := by decide +kernel
theorem dX6_gainAt_9 : decode cX6_gainAt 9 = .ok (.getfield 96, 3) := by decide +kernel
theorem dX6_gainAt_12 : decode cX6_gainAt 12 = .ok (.istore 5, 2) := by decide +kernel
theorem dX6_gainAt_14 : decode cX6_gainAt 14 = .ok (.iload 5, 2) := by decide +kernel
theorem dX6_gainAt_16 : decode cX6_gainAt 16 = .ok (.iload_n 2, 1) := by decide +kernel
theorem dX6_gainAt_17 : decode cX6_gainAt 17 = .ok (.if_icmp .ge 25, 3) := by decide +kernel
theorem dX6_gainAt_20 : decode cX6_gainAt 20 = .ok (.iload 4, 2) := by decide +kernel
theorem dX6_gainAt_22 : decode cX6_gainAt 22 = .ok (.iload 4, 2) := by decide +kernel
theorem dX6_gainAt_24 : decode cX6_gainAt 24 = .ok (.aload_n 0, 1) := by decide +kernel
theorem dX6_gainAt_25 : decode cX6_gainAt 25 = .ok (.getfield 102, 3) := by decide +kernel
theorem dX6_gainAt_28 : decode cX6_gainAt 28 = .ok (.imul, 1) := by decide +kernel
theorem dX6_gainAt_29 : decode cX6_gainAt 29 = .ok (.sipush 1000, 3) := by decide +kernel
theorem dX6_gainAt_32 : decode cX6_gainAt 32 = .ok (.idiv, 1) := by decide +kernel
theorem dX6_gainAt_33 : decode cX6_gainAt 33 = .ok (.isub, 1) := by decide +kernel
theorem dX6_gainAt_34 : decode cX6_gainAt 34 = .ok (.istore 4, 2) := by decide +kernel
theorem dX6_gainAt_36 : decode cX6_gainAt 36 = .ok (.iinc 5 1, 3) := by decide +kernel
theorem dX6_gainAt_39 : decode cX6_gainAt 39 = .ok (.goto (-25), 3) := by decide +kernel
theorem dX6_gainAt_42 : decode cX6_gainAt 42 = .ok (.iload 4, 2) := by decide +kernel
theorem dX6_gainAt_44 : decode cX6_gainAt 44 = .ok (.i2l, 1) := by decide +kernel
theorem dX6_gainAt_45 : decode cX6_gainAt 45 = .ok (.iload_n 3, 1) := by decide +kernel
theorem dX6_gainAt_46 : decode cX6_gainAt 46 = .ok (.aload_n 0, 1) := by decide +kernel
theorem dX6_gainAt_47 : decode cX6_gainAt 47 = .ok (.aload_n 0, 1) := by decide +kernel
theorem dX6_gainAt_48 : decode cX6_gainAt 48 = .ok (.getfield 58, 3) := by decide +kernel
theorem dX6_gainAt_51 : decode cX6_gainAt 51 = .ok (.iload_n 1, 1) := by decide +kernel
theorem dX6_gainAt_52 : decode cX6_gainAt 52 = .ok (.iaload, 1) := by decide +kernel
theorem dX6_gainAt_53 : decode cX6_gainAt 53 = .ok (.iload_n 2, 1) := by decide +kernel
theorem dX6_gainAt_54 : decode cX6_gainAt 54 = .ok (.aload_n 0, 1) := by decide +kernel
theorem dX6_gainAt_55 : decode cX6_gainAt 55 = .ok (.getfield 96, 3) := by decide +kernel
theorem dX6_gainAt_58 : decode cX6_gainAt 58 = .ok (.invokevirtual 136, 3) := by decide +kernel
theorem dX6_gainAt_61 : decode cX6_gainAt 61 = .ok (.isub, 1) := by decide +kernel
theorem dX6_gainAt_62 : decode cX6_gainAt 62 = .ok (.i2l, 1) := by decide +kernel
theorem dX6_gainAt_63 : decode cX6_gainAt 63 = .ok (.lmul, 1) := by decide +kernel
theorem dX6_gainAt_64 : decode cX6_gainAt 64 = .ok (.lreturn, 1) := by decide +kernel
set_option maxRecDepth 20000 in
theorem ggX6_gain_X6_isCargo : GoodIn wsX6_gain wsX6_isCargo := goodIn_r _ [7, 8, 9, 10, 6, 11, 61, 62, 63, 64, 65, 66, 67, 68, 69, 70, 71, 72, 73, 74, 75, 76, 77, 78, 79, 80, 81, 82, 83, 84, 85, 86, 87, 88, 89, 90, 91, 92, 93, 94] (by decide +kernel) (by decide +kernel)
set_option maxRecDepth 20000 in
theorem gX6_gain_X6_isCargo : GoodIn wsX6_gain (wsV RX6 139 RX6 yX6_isCargo wsX6_isCargo) := goodIn_app (goodIn_of _ (by decide +kernel)) ggX6_gain_X6_isCargo
set_option maxRecDepth 20000 in
theorem ggX6_gain_X6_in : GoodIn wsX6_gain wsX6_in := goodIn_r _ [11] (by decide +kernel) (by decide +kernel)
set_option maxRecDepth 20000 in
theorem gX6_gain_X6_in : GoodIn wsX6_gain (va_wsS RX6 92 yX6_in wsX6_in) := goodIn_app (goodIn_of _ (by decide +kernel)) ggX6_gain_X6_in
set_option maxRecDepth 20000 in
theorem ggX6_gain_X6_gainAt : GoodIn wsX6_gain wsX6_gainAt := goodIn_r _ [15, 16, 1, 17, 18, 19, 20, 21, 6, 22, 23, 24, 25, 26, 27, 28, 29, 30, 31, 32, 33, 34, 35, 36, 37, 38, 39, 40, 41, 42, 43, 44, 45, 46, 47, 48, 49, 50, 51, 52, 53, 54, 55, 56, 57, 58, 59, 60, 61, 62, 63, 64, 65, 66, 67, 68, 69, 70, 71, 72, 73, 74, 75, 76, 77, 78, 79, 80, 81, 82, 83, 84, 85, 86, 87, 88, 89, 90, 91, 92, 93, 94] (by decide +kernel) (by decide +kernel)
set_option maxRecDepth 20000 in
theorem gX6_gain_X6_gainAt : GoodIn wsX6_gain (wsV RX6 161 RX6 yX6_gainAt wsX6_gainAt) := goodIn_app (goodIn_of _ (by decide +kernel)) ggX6_gain_X6_gainAt
theorem dX6_gain_0 : decode cX6_gain 0 = .ok (.aload_n 0, 1) := by decide +kernel
theorem dX6_gain_1 : decode cX6_gain 1 = .ok (.iload_n 1, 1) := by decide +kernel
theorem dX6_gain_2 : decode cX6_gain 2 = .ok (.invokevirtual 139, 3) := by decide +kernel
theorem dX6_gain_5 : decode cX6_gain 5 = .ok (.ifCond .eq 42, 3) := by decide +kernel
theorem dX6_gain_8 : decode cX6_gain 8 = .ok (.iload_n 2, 1) := by decide +kernel
theorem dX6_gain_9 : decode cX6_gain 9 = .ok (.aload_n 0, 1) := by decide +kernel
theorem dX6_gain_10 : decode cX6_gain 10 = .ok (.getfield 96, 3) := by decide +kernel
theorem dX6_gain_13 : decode cX6_gain 13 = .ok (.aload_n 0, 1) := by decide +kernel
theorem dX6_gain_14 : decode cX6_gain 14 = .ok (.getfield 96, 3) := by decide +kernel
theorem dX6_gain_17 : decode cX6_gain 17 = .ok (.bipush 20, 2) := by decide +kernel
theorem dX6_gain_19 : decode cX6_gain 19 = .ok (.iadd, 1) := by decide +kernel
theorem dX6_gain_20 : decode cX6_gain 20 = .ok (.invokestatic 92, 3) := by decide +kernel
theorem dX6_gain_23 : decode cX6_gain 23 = .ok (.ifCond .eq 24, 3) := by decide +kernel
theorem dX6_gain_26 : decode cX6_gain 26 = .ok (.iload_n 3, 1) := by decide +kernel
theorem dX6_gain_27 : decode cX6_gain 27 = .ok (.iconst 0, 1) := by decide +kernel
theorem dX6_gain_28 : decode cX6_gain 28 = .ok (.sipush 2000, 3) := by decide +kernel
theorem dX6_gain_31 : decode cX6_gain 31 = .ok (.invokestatic 92, 3) := by decide +kernel
theorem dX6_gain_34 : decode cX6_gain 34 = .ok (.ifCond .eq 13, 3) := by decide +kernel
theorem dX6_gain_37 : decode cX6_gain 37 = .ok (.aload_n 0, 1) := by decide +kernel
theorem dX6_gain_38 : decode cX6_gain 38 = .ok (.iload_n 1, 1) := by decide +kernel
theorem dX6_gain_39 : decode cX6_gain 39 = .ok (.iload_n 2, 1) := by decide +kernel
theorem dX6_gain_40 : decode cX6_gain 40 = .ok (.iload_n 3, 1) := by decide +kernel
theorem dX6_gain_41 : decode cX6_gain 41 = .ok (.invokevirtual 161, 3) := by decide +kernel
theorem dX6_gain_44 : decode cX6_gain 44 = .ok (.goto 6, 3) := by decide +kernel
theorem dX6_gain_47 : decode cX6_gain 47 = .ok (.ldc2_w 155, 3) := by decide +kernel
theorem dX6_gain_50 : decode cX6_gain 50 = .ok (.lreturn, 1) := by decide +kernel
set_option maxRecDepth 20000 in
theorem ggX6_best_X6_isCargo : GoodIn wsX6_best wsX6_isCargo := goodIn_r _ [6, 7, 8, 9, 5, 10, 60, 61, 62, 63, 64, 65, 66, 67, 68, 69, 70, 71, 72, 73, 74, 75, 76, 77, 78, 79, 80, 81, 82, 83, 84, 85, 86, 87, 88, 89, 90, 91, 92, 93] (by decide +kernel) (by decide +kernel)
set_option maxRecDepth 20000 in
theorem gX6_best_X6_isCargo : GoodIn wsX6_best (wsV RX6 139 RX6 yX6_isCargo wsX6_isCargo) := goodIn_app (goodIn_of _ (by decide +kernel)) ggX6_best_X6_isCargo
set_option maxRecDepth 20000 in
theorem ggX6_best_X6_in : GoodIn wsX6_best wsX6_in := goodIn_r _ [10] (by decide +kernel) (by decide +kernel)
set_option maxRecDepth 20000 in
theorem gX6_best_X6_in : GoodIn wsX6_best (va_wsS RX6 92 yX6_in wsX6_in) := goodIn_app (goodIn_of _ (by decide +kernel)) ggX6_best_X6_in
set_option maxRecDepth 20000 in
theorem ggX6_best_X6_gainAt : GoodIn wsX6_best wsX6_gainAt := goodIn_r _ [14, 15, 1, 16, 17, 18, 19, 20, 5, 21, 22, 23, 24, 25, 26, 27, 28, 29, 30, 31, 32, 33, 34, 35, 36, 37, 38, 39, 40, 41, 42, 43, 44, 45, 46, 47, 48, 49, 50, 51, 52, 53, 54, 55, 56, 57, 58, 59, 60, 61, 62, 63, 64, 65, 66, 67, 68, 69, 70, 71, 72, 73, 74, 75, 76, 77, 78, 79, 80, 81, 82, 83, 84, 85, 86, 87, 88, 89, 90, 91, 92, 93] (by decide +kernel) (by decide +kernel)
set_option maxRecDepth 20000 in
theorem gX6_best_X6_gainAt : GoodIn wsX6_best (wsV RX6 161 RX6 yX6_gainAt wsX6_gainAt) := goodIn_app (goodIn_of _ (by decide +kernel)) ggX6_best_X6_gainAt
theorem dX6_best_0 : decode cX6_best 0 = .ok (.aload_n 0, 1) := by decide +kernel
theorem dX6_best_1 : decode cX6_best 1 = .ok (.iload_n 1, 1) := by decide +kernel
theorem dX6_best_2 : decode cX6_best 2 = .ok (.invokevirtual 139, 3) := by decide +kernel
theorem dX6_best_5 : decode cX6_best 5 = .ok (.ifCond .eq 24, 3) := by decide +kernel
theorem dX6_best_8 : decode cX6_best 8 = .ok (.iload_n 2, 1) := by decide +kernel
theorem dX6_best_9 : decode cX6_best 9 = .ok (.iconst 0, 1) := by decide +kernel
theorem dX6_best_10 : decode cX6_best 10 = .ok (.bipush 20, 2) := by decide +kernel
theorem dX6_best_12 : decode cX6_best 12 = .ok (.invokestatic 92, 3) := by decide +kernel
theorem dX6_best_15 : decode cX6_best 15 = .ok (.ifCond .eq 14, 3) := by decide +kernel
theorem dX6_best_18 : decode cX6_best 18 = .ok (.iload_n 3, 1) := by decide +kernel
theorem dX6_best_19 : decode cX6_best 19 = .ok (.iconst 0, 1) := by decide +kernel
theorem dX6_best_20 : decode cX6_best 20 = .ok (.sipush 2000, 3) := by decide +kernel
theorem dX6_best_23 : decode cX6_best 23 = .ok (.invokestatic 92, 3) := by decide +kernel
theorem dX6_best_26 : decode cX6_best 26 = .ok (.ifCond .ne 6, 3) := by decide +kernel
theorem dX6_best_29 : decode cX6_best 29 = .ok (.bipush (-2), 2) := by decide +kernel
theorem dX6_best_31 : decode cX6_best 31 = .ok (.ireturn, 1) := by decide +kernel
theorem dX6_best_32 : decode cX6_best 32 = .ok (.aload_n 0, 1) := by decide +kernel
theorem dX6_best_33 : decode cX6_best 33 = .ok (.getfield 96, 3) := by decide +kernel
theorem dX6_best_36 : decode cX6_best 36 = .ok (.istore 4, 2) := by decide +kernel
theorem dX6_best_38 : decode cX6_best 38 = .ok (.aload_n 0, 1) := by decide +kernel
theorem dX6_best_39 : decode cX6_best 39 = .ok (.getfield 96, 3) := by decide +kernel
theorem dX6_best_42 : decode cX6_best 42 = .ok (.iconst 1, 1) := by decide +kernel
theorem dX6_best_43 : decode cX6_best 43 = .ok (.iadd, 1) := by decide +kernel
theorem dX6_best_44 : decode cX6_best 44 = .ok (.istore 5, 2) := by decide +kernel
theorem dX6_best_46 : decode cX6_best 46 = .ok (.iload 5, 2) := by decide +kernel
theorem dX6_best_48 : decode cX6_best 48 = .ok (.aload_n 0, 1) := by decide +kernel
theorem dX6_best_49 : decode cX6_best 49 = .ok (.getfield 96, 3) := by decide +kernel
theorem dX6_best_52 : decode cX6_best 52 = .ok (.iload_n 2, 1) := by decide +kernel
theorem dX6_best_53 : decode cX6_best 53 = .ok (.iadd, 1) := by decide +kernel
theorem dX6_best_54 : decode cX6_best 54 = .ok (.if_icmp .gt 38, 3) := by decide +kernel
theorem dX6_best_57 : decode cX6_best 57 = .ok (.aload_n 0, 1) := by decide +kernel
theorem dX6_best_58 : decode cX6_best 58 = .ok (.iload_n 1, 1) := by decide +kernel
theorem dX6_best_59 : decode cX6_best 59 = .ok (.iload 5, 2) := by decide +kernel
theorem dX6_best_61 : decode cX6_best 61 = .ok (.iload_n 3, 1) := by decide +kernel
theorem dX6_best_62 : decode cX6_best 62 = .ok (.invokevirtual 161, 3) := by decide +kernel
theorem dX6_best_65 : decode cX6_best 65 = .ok (.aload_n 0, 1) := by decide +kernel
theorem dX6_best_66 : decode cX6_best 66 = .ok (.iload_n 1, 1) := by decide +kernel
theorem dX6_best_67 : decode cX6_best 67 = .ok (.iload 4, 2) := by decide +kernel
theorem dX6_best_69 : decode cX6_best 69 = .ok (.iload_n 3, 1) := by decide +kernel
theorem dX6_best_70 : decode cX6_best 70 = .ok (.invokevirtual 161, 3) := by decide +kernel
theorem dX6_best_73 : decode cX6_best 73 = .ok (.lcmp, 1) := by decide +kernel
theorem dX6_best_74 : decode cX6_best 74 = .ok (.ifCond .le 8, 3) := by decide +kernel
theorem dX6_best_77 : decode cX6_best 77 = .ok (.iload 5, 2) := by decide +kernel
theorem dX6_best_79 : decode cX6_best 79 = .ok (.goto 5, 3) := by decide +kernel
theorem dX6_best_82 : decode cX6_best 82 = .ok (.iload 4, 2) := by decide +kernel
theorem dX6_best_84 : decode cX6_best 84 = .ok (.istore 4, 2) := by decide +kernel
theorem dX6_best_86 : decode cX6_best 86 = .ok (.iinc 5 1, 3) := by decide +kernel
theorem dX6_best_89 : decode cX6_best 89 = .ok (.goto (-43), 3) := by decide +kernel
theorem dX6_best_92 : decode cX6_best 92 = .ok (.iload 4, 2) := by decide +kernel
theorem dX6_best_94 : decode cX6_best 94 = .ok (.ireturn, 1) := by decide +kernel
theorem dX6_count_0 : decode cX6_count 0 = .ok (.iconst 0, 1) := by decide +kernel
theorem dX6_count_1 : decode cX6_count 1 = .ok (.istore_n 2, 1) := by decide +kernel
theorem dX6_count_2 : decode cX6_count 2 = .ok (.iload_n 1, 1) := by decide +kernel
theorem dX6_count_3 : decode cX6_count 3 = .ok (.tableswitch 98 0 5 #[37, 42, 47, 83, 88, 93], 37) := by decide +kernel
theorem dX6_count_40 : decode cX6_count 40 = .ok (.aload_n 0, 1) := by decide +kernel
theorem dX6_count_41 : decode cX6_count 41 = .ok (.getfield 96, 3) := by decide +kernel
theorem dX6_count_44 : decode cX6_count 44 = .ok (.ireturn, 1) := by decide +kernel
theorem dX6_count_45 : decode cX6_count 45 = .ok (.aload_n 0, 1) := by decide +kernel
theorem dX6_count_46 : decode cX6_count 46 = .ok (.getfield 109, 3) := by decide +kernel
theorem dX6_count_49 : decode cX6_count 49 = .ok (.ireturn, 1) := by decide +kernel
theorem dX6_count_50 : decode cX6_count 50 = .ok (.iconst 0, 1) := by decide +kernel
theorem dX6_count_51 : decode cX6_count 51 = .ok (.istore_n 3, 1) := by decide +kernel
theorem dX6_count_52 : decode cX6_count 52 = .ok (.iload_n 3, 1) := by decide +kernel
theorem dX6_count_53 : decode cX6_count 53 = .ok (.aload_n 0, 1) := by decide +kernel
theorem dX6_count_54 : decode cX6_count 54 = .ok (.getfield 109, 3) := by decide +kernel
theorem dX6_count_57 : decode cX6_count 57 = .ok (.if_icmp .ge 27, 3) := by decide +kernel
theorem dX6_count_60 : decode cX6_count 60 = .ok (.iload_n 2, 1) := by decide +kernel
theorem dX6_count_61 : decode cX6_count 61 = .ok (.aload_n 0, 1) := by decide +kernel
theorem dX6_count_62 : decode cX6_count 62 = .ok (.getfield 28, 3) := by decide +kernel
theorem dX6_count_65 : decode cX6_count 65 = .ok (.iload_n 3, 1) := by decide +kernel
theorem dX6_count_66 : decode cX6_count 66 = .ok (.iaload, 1) := by decide +kernel
theorem dX6_count_67 : decode cX6_count 67 = .ok (.iconst (-1), 1) := by decide +kernel
theorem dX6_count_68 : decode cX6_count 68 = .ok (.if_icmp .eq 7, 3) := by decide +kernel
theorem dX6_count_71 : decode cX6_count 71 = .ok (.iconst 1, 1) := by decide +kernel
theorem dX6_count_72 : decode cX6_count 72 = .ok (.goto 4, 3) := by decide +kernel
theorem dX6_count_75 : decode cX6_count 75 = .ok (.iconst 0, 1) := by decide +kernel
theorem dX6_count_76 : decode cX6_count 76 = .ok (.iadd, 1) := by decide +kernel
theorem dX6_count_77 : decode cX6_count 77 = .ok (.istore_n 2, 1) := by decide +kernel
theorem dX6_count_78 : decode cX6_count 78 = .ok (.iinc 3 1, 3) := by decide +kernel
theorem dX6_count_81 : decode cX6_count 81 = .ok (.goto (-29), 3) := by decide +kernel
theorem dX6_count_84 : decode cX6_count 84 = .ok (.iload_n 2, 1) := by decide +kernel
theorem dX6_count_85 : decode cX6_count 85 = .ok (.ireturn, 1) := by decide +kernel
theorem dX6_count_86 : decode cX6_count 86 = .ok (.aload_n 0, 1) := by decide +kernel
theorem dX6_count_87 : decode cX6_count 87 = .ok (.getfield 123, 3) := by decide +kernel
theorem dX6_count_90 : decode cX6_count 90 = .ok (.ireturn, 1) := by decide +kernel
theorem dX6_count_91 : decode cX6_count 91 = .ok (.aload_n 0, 1) := by decide +kernel
theorem dX6_count_92 : decode cX6_count 92 = .ok (.getfield 99, 3) := by decide +kernel
theorem dX6_count_95 : decode cX6_count 95 = .ok (.ireturn, 1) := by decide +kernel
theorem dX6_count_96 : decode cX6_count 96 = .ok (.aload_n 0, 1) := by decide +kernel
theorem dX6_count_97 : decode cX6_count 97 = .ok (.getfield 146, 3) := by decide +kernel
theorem dX6_count_100 : decode cX6_count 100 = .ok (.ireturn, 1) := by decide +kernel
theorem dX6_count_101 : decode cX6_count 101 = .ok (.bipush (-2), 2) := by decide +kernel
theorem dX6_count_103 : decode cX6_count 103 = .ok (.ireturn, 1) := by decide +kernel
theorem dJ6_bitCount_0f7a4_0 : decode cJ6_bitCount_0f7a4 0 = .ok (.iload_n 0, 1) := by decide +kernel
theorem dJ6_bitCount_0f7a4_1 : decode cJ6_bitCount_0f7a4 1 = .ok (.iload_n 0, 1) := by decide +kernel
theorem dJ6_bitCount_0f7a4_2 : decode cJ6_bitCount_0f7a4 2 = .ok (.iconst 1, 1) := by decide +kernel
theorem dJ6_bitCount_0f7a4_3 : decode cJ6_bitCount_0f7a4 3 = .ok (.iushr, 1) := by decide +kernel
theorem dJ6_bitCount_0f7a4_4 : decode cJ6_bitCount_0f7a4 4 = .ok (.ldc_w 265, 3) := by decide +kernel
theorem dJ6_bitCount_0f7a4_7 : decode cJ6_bitCount_0f7a4 7 = .ok (.iand, 1) := by decide +kernel
theorem dJ6_bitCount_0f7a4_8 : decode cJ6_bitCount_0f7a4 8 = .ok (.isub, 1) := by decide +kernel
theorem dJ6_bitCount_0f7a4_9 : decode cJ6_bitCount_0f7a4 9 = .ok (.istore_n 0, 1) := by decide +kernel
theorem dJ6_bitCount_0f7a4_10 : decode cJ6_bitCount_0f7a4 10 = .ok (.iload_n 0, 1) := by decide +kernel
theorem dJ6_bitCount_0f7a4_11 : decode cJ6_bitCount_0f7a4 11 = .ok (.ldc_w 266, 3) := by decide +kernel
theorem dJ6_bitCount_0f7a4_14 : decode cJ6_bitCount_0f7a4 14 = .ok (.iand, 1) := by decide +kernel
theorem dJ6_bitCount_0f7a4_15 : decode cJ6_bitCount_0f7a4 15 = .ok (.iload_n 0, 1) := by decide +kernel
theorem dJ6_bitCount_0f7a4_16 : decode cJ6_bitCount_0f7a4 16 = .ok (.iconst 2, 1) := by decide +kernel
theorem dJ6_bitCount_0f7a4_17 : decode cJ6_bitCount_0f7a4 17 = .ok (.iushr, 1) := by decide +kernel
theorem dJ6_bitCount_0f7a4_18 : decode cJ6_bitCount_0f7a4 18 = .ok (.ldc_w 266, 3) := by decide +kernel
theorem dJ6_bitCount_0f7a4_21 : decode cJ6_bitCount_0f7a4 21 = .ok (.iand, 1) := by decide +kernel
theorem dJ6_bitCount_0f7a4_22 : decode cJ6_bitCount_0f7a4 22 = .ok (.iadd, 1) := by decide +kernel
theorem dJ6_bitCount_0f7a4_23 : decode cJ6_bitCount_0f7a4 23 = .ok (.istore_n 0, 1) := by decide +kernel
theorem dJ6_bitCount_0f7a4_24 : decode cJ6_bitCount_0f7a4 24 = .ok (.iload_n 0, 1) := by decide +kernel
theorem dJ6_bitCount_0f7a4_25 : decode cJ6_bitCount_0f7a4 25 = .ok (.iload_n 0, 1) := by decide +kernel
theorem dJ6_bitCount_0f7a4_26 : decode cJ6_bitCount_0f7a4 26 = .ok (.iconst 4, 1) := by decide +kernel
theorem dJ6_bitCount_0f7a4_27 : decode cJ6_bitCount_0f7a4 27 = .ok (.iushr, 1) := by decide +kernel
theorem dJ6_bitCount_0f7a4_28 : decode cJ6_bitCount_0f7a4 28 = .ok (.iadd, 1) := by decide +kernel
theorem dJ6_bitCount_0f7a4_29 : decode cJ6_bitCount_0f7a4 29 = .ok (.ldc_w 267, 3) := by decide +kernel
theorem dJ6_bitCount_0f7a4_32 : decode cJ6_bitCount_0f7a4 32 = .ok (.iand, 1) := by decide +kernel
theorem dJ6_bitCount_0f7a4_33 : decode cJ6_bitCount_0f7a4 33 = .ok (.istore_n 0, 1) := by decide +kernel
theorem dJ6_bitCount_0f7a4_34 : decode cJ6_bitCount_0f7a4 34 = .ok (.iload_n 0, 1) := by decide +kernel
theorem dJ6_bitCount_0f7a4_35 : decode cJ6_bitCount_0f7a4 35 = .ok (.iload_n 0, 1) := by decide +kernel
theorem dJ6_bitCount_0f7a4_36 : decode cJ6_bitCount_0f7a4 36 = .ok (.bipush 8, 2) := by decide +kernel
theorem dJ6_bitCount_0f7a4_38 : decode cJ6_bitCount_0f7a4 38 = .ok (.iushr, 1) := by decide +kernel
theorem dJ6_bitCount_0f7a4_39 : decode cJ6_bitCount_0f7a4 39 = .ok (.iadd, 1) := by decide +kernel
theorem dJ6_bitCount_0f7a4_40 : decode cJ6_bitCount_0f7a4 40 = .ok (.istore_n 0, 1) := by decide +kernel
theorem dJ6_bitCount_0f7a4_41 : decode cJ6_bitCount_0f7a4 41 = .ok (.iload_n 0, 1) := by decide +kernel
theorem dJ6_bitCount_0f7a4_42 : decode cJ6_bitCount_0f7a4 42 = .ok (.iload_n 0, 1) := by decide +kernel
theorem dJ6_bitCount_0f7a4_43 : decode cJ6_bitCount_0f7a4 43 = .ok (.bipush 16, 2) := by decide +kernel
theorem dJ6_bitCount_0f7a4_45 : decode cJ6_bitCount_0f7a4 45 = .ok (.iushr, 1) := by decide +kernel
theorem dJ6_bitCount_0f7a4_46 : decode cJ6_bitCount_0f7a4 46 = .ok (.iadd, 1) := by decide +kernel
theorem dJ6_bitCount_0f7a4_47 : decode cJ6_bitCount_0f7a4 47 = .ok (.istore_n 0, 1) := by decide +kernel
theorem dJ6_bitCount_0f7a4_48 : decode cJ6_bitCount_0f7a4 48 = .ok (.iload_n 0, 1) := by decide +kernel
theorem dJ6_bitCount_0f7a4_49 : decode cJ6_bitCount_0f7a4 49 = .ok (.bipush 63, 2) := by decide +kernel
theorem dJ6_bitCount_0f7a4_51 : decode cJ6_bitCount_0f7a4 51 = .ok (.iand, 1) := by decide +kernel
theorem dJ6_bitCount_0f7a4_52 : decode cJ6_bitCount_0f7a4 52 = .ok (.ireturn, 1) := by decide +kernel
set_option maxRecDepth 20000 in
theorem ggL_law_X5_init : GoodIn wsL_law wsX5_init := goodIn_r _ [8, 9, 10, 11, 12, 13, 14, 15, 16, 17, 18, 19, 20, 21, 22, 23, 24, 25, 26, 27, 28, 29, 30, 31, 32, 33, 34, 35, 36, 37, 38, 39, 40, 41, 42, 43, 44, 45, 46, 47, 48, 49, 50, 51, 52, 53, 54, 55, 56, 57, 58, 59, 60, 61, 62, 63, 64, 65, 66, 67, 68, 69, 70, 71, 72, 73, 563, 564, 565, 566, 567, 568, 569, 570, 521, 522, 523, 524, 525, 526, 527, 528, 571, 572, 573, 574, 575, 576, 577, 578, 579, 580, 581, 582, 583, 584, 585, 586, 587, 588, 589, 590, 591] (by decide +kernel) (by decide +kernel)
set_option maxRecDepth 20000 in
theorem gL_law_X5_init : GoodIn wsL_law (wsX5_init) := ggL_law_X5_init
set_option maxRecDepth 20000 in
theorem ggL_law_X6_init : GoodIn wsL_law wsX6_init := goodIn_r _ [76, 77, 10, 11, 35, 78, 79, 80, 81, 82, 83, 84, 85, 86, 87, 88, 89, 90, 91, 92, 93, 94, 95, 96, 97, 98, 99, 100, 101, 102, 103, 104, 529, 530, 531, 532, 533, 534, 535, 536, 537, 538, 539, 540, 541, 542, 543, 544, 545, 546, 547, 548, 549, 550, 551, 552, 553, 554, 555, 556, 557, 558, 559, 560, 561, 562] (by decide +kernel) (by decide +kernel)
set_option maxRecDepth 20000 in
theorem gL_law_X6_init : GoodIn wsL_law (wsX6_init) := ggL_law_X6_init
set_option maxRecDepth 20000 in
theorem ggL_law_X5_weeks : GoodIn wsL_law wsX5_weeks := goodIn_r _ [108, 109, 27, 110, 111, 112, 2, 113, 114, 115, 116, 26, 117, 118, 63, 66, 119, 120, 121, 521, 522, 523, 524, 525, 526, 527, 528, 581, 582, 583, 584, 585, 586, 587] (by decide +kernel) (by decide +kernel)
set_option maxRecDepth 20000 in
theorem gL_law_X5_weeks : GoodIn wsL_law (wsV RL 13 RX5 yX5_weeks wsX5_weeks) := goodIn_app (goodIn_of _ (by decide +kernel)) ggL_law_X5_weeks
set_option maxRecDepth 20000 in
theorem ggL_law_X6_weeks : GoodIn wsL_law wsX6_weeks := goodIn_r _ [125, 126, 127, 95, 128, 98, 129, 130, 5, 131, 529, 530, 531, 532, 533, 534, 535, 536, 537, 538, 539, 540, 541, 542, 543, 544, 545, 546, 547, 548, 549, 550, 551, 552, 553, 554, 555, 556, 557, 558, 559, 560, 561, 562] (by decide +kernel) (by decide +kernel)
set_option maxRecDepth 20000 in
theorem gL_law_X6_weeks : GoodIn wsL_law (wsV RL 17 RX6 yX6_weeks wsX6_weeks) := goodIn_app (goodIn_of _ (by decide +kernel)) ggL_law_X6_weeks
set_option maxRecDepth 20000 in
theorem ggL_law_X5_sale : GoodIn wsL_law wsX5_sale := goodIn_r _ [135, 109, 15, 136, 111, 112, 2, 113, 137, 138, 139, 140, 141, 142, 14, 143, 144, 36, 37, 38, 39, 40, 41, 42, 521, 522, 523, 524, 525, 526, 527, 528, 563, 564, 565, 566, 567, 568, 569, 570] (by decide +kernel) (by decide +kernel)
set_option maxRecDepth 20000 in
theorem gL_law_X5_sale : GoodIn wsL_law (wsV RL 18 RX5 yX5_sale wsX5_sale) := goodIn_app (goodIn_of _ (by decide +kernel)) ggL_law_X5_sale
set_option maxRecDepth 20000 in
theorem ggL_law_X6_sale : GoodIn wsL_law wsX6_sale := goodIn_r _ [148, 126, 149, 78, 79, 80, 81, 82, 83, 84, 129, 130, 5, 131, 150, 151, 152, 529, 530, 531, 532, 533, 534, 535, 536, 537, 538, 539, 540, 541, 542, 543, 544, 545, 546, 547, 548, 549, 550, 551, 552, 553, 554, 555, 556, 557, 558, 559, 560, 561, 562] (by decide +kernel) (by decide +kernel)
set_option maxRecDepth 20000 in
theorem gL_law_X6_sale : GoodIn wsL_law (wsV RL 22 RX6 yX6_sale wsX6_sale) := goodIn_app (goodIn_of _ (by decide +kernel)) ggL_law_X6_sale
set_option maxRecDepth 20000 in
theorem ggL_law_X5_strike : GoodIn wsL_law wsX5_strike := goodIn_r _ [156, 15, 157, 109, 158, 159, 160, 14, 161, 144, 521, 522, 523, 524, 525, 526, 527, 528, 563, 564, 565, 566, 567, 568, 569, 570] (by decide +kernel) (by decide +kernel)
set_option maxRecDepth 20000 in
theorem gL_law_X5_strike : GoodIn wsL_law (wsV RL 23 RX5 yX5_strike wsX5_strike) := goodIn_app (goodIn_of _ (by decide +kernel)) ggL_law_X5_strike
set_option maxRecDepth 20000 in
theorem ggL_law_X6_strike : GoodIn wsL_law wsX6_strike := goodIn_r _ [165, 149, 84, 126, 129, 130, 5, 131, 529, 530, 531, 532, 533, 534, 535, 536, 537, 538, 539, 540, 541, 542, 543, 544, 545, 546, 547, 548, 549, 550, 551, 552, 553, 554, 555, 556, 557, 558, 559, 560, 561, 562] (by decide +kernel) (by decide +kernel)
set_option maxRecDepth 20000 in
theorem gL_law_X6_strike : GoodIn wsL_law (wsV RL 26 RX6 yX6_strike wsX6_strike) := goodIn_app (goodIn_of _ (by decide +kernel)) ggL_law_X6_strike
set_option maxRecDepth 20000 in
theorem ggL_law_X5_sold : GoodIn wsL_law wsX5_sold := goodIn_r _ [169, 15, 170, 171, 172, 173, 174, 175, 157, 158, 159, 160, 14, 161, 144, 521, 522, 523, 524, 525, 526, 527, 528, 563, 564, 565, 566, 567, 568, 569, 570] (by decide +kernel) (by decide +kernel)
set_option maxRecDepth 20000 in
theorem gL_law_X5_sold : GoodIn wsL_law (wsV RL 27 RX5 yX5_sold wsX5_sold) := goodIn_app (goodIn_of _ (by decide +kernel)) ggL_law_X5_sold
set_option maxRecDepth 20000 in
theorem ggL_law_X6_sold : GoodIn wsL_law wsX6_sold := goodIn_r _ [179, 149, 78, 79, 80, 81, 82, 83, 84, 129, 130, 5, 131, 529, 530, 531, 532, 533, 534, 535, 536, 537, 538, 539, 540, 541, 542, 543, 544, 545, 546, 547, 548, 549, 550, 551, 552, 553, 554, 555, 556, 557, 558, 559, 560, 561, 562] (by decide +kernel) (by decide +kernel)
set_option maxRecDepth 20000 in
theorem gL_law_X6_sold : GoodIn wsL_law (wsV RL 31 RX6 yX6_sold wsX6_sold) := goodIn_app (goodIn_of _ (by decide +kernel)) ggL_law_X6_sold
set_option maxRecDepth 20000 in
theorem ggL_law_X5_weekly : GoodIn wsL_law wsX5_weekly := goodIn_r _ [183, 15, 137, 138, 2, 139, 111, 112, 113, 184, 185, 186, 14, 187, 144, 37, 38, 40, 39, 188, 189, 190, 191, 41, 42, 521, 522, 523, 524, 525, 526, 527, 528, 563, 564, 565, 566, 567, 568, 569, 570] (by decide +kernel) (by decide +kernel)
set_option maxRecDepth 20000 in
theorem gL_law_X5_weekly : GoodIn wsL_law (wsV RL 32 RX5 yX5_weekly wsX5_weekly) := goodIn_app (goodIn_of _ (by decide +kernel)) ggL_law_X5_weekly
set_option maxRecDepth 20000 in
theorem ggL_law_X6_weekly : GoodIn wsL_law wsX6_weekly := goodIn_r _ [195, 150, 151, 5, 152, 129, 130, 131, 196, 197, 198, 199, 149, 79, 80, 82, 81, 200, 201, 202, 203, 103, 83, 84, 529, 530, 531, 532, 533, 534, 535, 536, 537, 538, 539, 540, 541, 542, 543, 544, 545, 546, 547, 548, 549, 550, 551, 552, 553, 554, 555, 556, 557, 558, 559, 560, 561, 562] (by decide +kernel) (by decide +kernel)
set_option maxRecDepth 20000 in
theorem gL_law_X6_weekly : GoodIn wsL_law (wsV RL 36 RX6 yX6_weekly wsX6_weekly) := goodIn_app (goodIn_of _ (by decide +kernel)) ggL_law_X6_weekly
set_option maxRecDepth 20000 in
theorem ggL_law_X5_average : GoodIn wsL_law wsX5_average := goodIn_r _ [207, 15, 137, 138, 2, 139, 111, 112, 113, 208, 209, 210, 14, 211, 212, 185, 186, 187, 144, 37, 38, 40, 39, 188, 189, 190, 191, 41, 42, 521, 522, 523, 524, 525, 526, 527, 528, 563, 564, 565, 566, 567, 568, 569, 570] (by decide +kernel) (by decide +kernel)
set_option maxRecDepth 20000 in
theorem gL_law_X5_average : GoodIn wsL_law (wsV RL 37 RX5 yX5_average wsX5_average) := goodIn_app (goodIn_of _ (by decide +kernel)) ggL_law_X5_average
set_option maxRecDepth 20000 in
theorem ggL_law_X6_average : GoodIn wsL_law wsX6_average := goodIn_r _ [216, 150, 151, 5, 152, 129, 130, 131, 217, 218, 219, 220, 196, 197, 198, 199, 149, 79, 80, 82, 81, 200, 201, 202, 203, 103, 83, 84, 529, 530, 531, 532, 533, 534, 535, 536, 537, 538, 539, 540, 541, 542, 543, 544, 545, 546, 547, 548, 549, 550, 551, 552, 553, 554, 555, 556, 557, 558, 559, 560, 561, 562] (by decide +kernel) (by decide +kernel)
set_option maxRecDepth 20000 in
theorem gL_law_X6_average : GoodIn wsL_law (wsV RL 40 RX6 yX6_average wsX6_average) := goodIn_app (goodIn_of _ (by decide +kernel)) ggL_law_X6_average
set_option maxRecDepth 20000 in
theorem ggL_law_X5_towns : GoodIn wsL_law wsX5_towns := goodIn_r _ [224, 15, 111, 112, 2, 113, 225, 226, 227, 14, 228, 144, 38, 36, 188, 189, 190, 191, 41, 42, 229, 230, 231, 232, 233, 234, 235, 521, 522, 523, 524, 525, 526, 527, 528, 563, 564, 565, 566, 567, 568, 569, 570] (by decide +kernel) (by decide +kernel)
set_option maxRecDepth 20000 in
theorem gL_law_X5_towns : GoodIn wsL_law (wsV RL 41 RX5 yX5_towns wsX5_towns) := goodIn_app (goodIn_of _ (by decide +kernel)) ggL_law_X5_towns
set_option maxRecDepth 20000 in
theorem ggL_law_X6_towns : GoodIn wsL_law wsX6_towns := goodIn_r _ [239, 149, 80, 78, 129, 130, 5, 131, 200, 201, 202, 203, 103, 83, 84, 529, 530, 531, 532, 533, 534, 535, 536, 537, 538, 539, 540, 541, 542, 543, 544, 545, 546, 547, 548, 549, 550, 551, 552, 553, 554, 555, 556, 557, 558, 559, 560, 561, 562] (by decide +kernel) (by decide +kernel)
set_option maxRecDepth 20000 in
theorem gL_law_X6_towns : GoodIn wsL_law (wsV RL 44 RX6 yX6_towns wsX6_towns) := goodIn_app (goodIn_of _ (by decide +kernel)) ggL_law_X6_towns
set_option maxRecDepth 20000 in
theorem ggL_law_X5_scale : GoodIn wsL_law wsX5_scale := goodIn_r _ [243, 109, 19, 244, 137, 138, 2, 139, 111, 112, 113, 245, 246, 247, 18, 248, 249, 46, 47, 48, 521, 522, 523, 524, 525, 526, 527, 528, 571, 572, 573, 574, 575, 576, 577] (by decide +kernel) (by decide +kernel)
set_option maxRecDepth 20000 in
theorem gL_law_X5_scale : GoodIn wsL_law (wsV RL 45 RX5 yX5_scale wsX5_scale) := goodIn_app (goodIn_of _ (by decide +kernel)) ggL_law_X5_scale
set_option maxRecDepth 20000 in
theorem ggL_law_X6_scale : GoodIn wsL_law wsX6_scale := goodIn_r _ [253, 126, 254, 85, 86, 87, 88, 150, 151, 5, 152, 129, 130, 131, 529, 530, 531, 532, 533, 534, 535, 536, 537, 538, 539, 540, 541, 542, 543, 544, 545, 546, 547, 548, 549, 550, 551, 552, 553, 554, 555, 556, 557, 558, 559, 560, 561, 562] (by decide +kernel) (by decide +kernel)
set_option maxRecDepth 20000 in
theorem gL_law_X6_scale : GoodIn wsL_law (wsV RL 48 RX6 yX6_scale wsX6_scale) := goodIn_app (goodIn_of _ (by decide +kernel)) ggL_law_X6_scale
set_option maxRecDepth 20000 in
theorem ggL_law_X5_step : GoodIn wsL_law wsX5_step := goodIn_r _ [258, 19, 109, 259, 260, 261, 262, 18, 263, 249, 111, 112, 2, 113, 264, 265, 266, 267, 49, 51, 268, 269, 270, 271, 47, 48, 272, 273, 274, 275, 52, 521, 522, 523, 524, 525, 526, 527, 528, 571, 572, 573, 574, 575, 576, 577] (by decide +kernel) (by decide +kernel)
set_option maxRecDepth 20000 in
theorem gL_law_X5_step : GoodIn wsL_law (wsV RL 49 RX5 yX5_step wsX5_step) := goodIn_app (goodIn_of _ (by decide +kernel)) ggL_law_X5_step
set_option maxRecDepth 20000 in
theorem ggL_law_X6_step : GoodIn wsL_law wsX6_step := goodIn_r _ [279, 88, 89, 86, 126, 87, 90, 280, 281, 282, 5, 283, 254, 129, 130, 131, 529, 530, 531, 532, 533, 534, 535, 536, 537, 538, 539, 540, 541, 542, 543, 544, 545, 546, 547, 548, 549, 550, 551, 552, 553, 554, 555, 556, 557, 558, 559, 560, 561, 562] (by decide +kernel) (by decide +kernel)
set_option maxRecDepth 20000 in
theorem gL_law_X6_step : GoodIn wsL_law (wsV RL 52 RX6 yX6_step wsX6_step) := goodIn_app (goodIn_of _ (by decide +kernel)) ggL_law_X6_step
set_option maxRecDepth 20000 in
theorem ggL_law_X5_hang : GoodIn wsL_law wsX5_hang := goodIn_r _ [287, 23, 137, 138, 2, 139, 111, 112, 113, 288, 289, 290, 22, 291, 58, 292, 293, 294, 295, 56, 296, 297, 298, 299, 300, 57, 521, 522, 523, 524, 525, 526, 527, 528, 578, 579, 580] (by decide +kernel) (by decide +kernel)
set_option maxRecDepth 20000 in
theorem gL_law_X5_hang : GoodIn wsL_law (wsV RL 53 RX5 yX5_hang wsX5_hang) := goodIn_app (goodIn_of _ (by decide +kernel)) ggL_law_X5_hang
set_option maxRecDepth 20000 in
theorem ggL_law_X6_hang : GoodIn wsL_law wsX6_hang := goodIn_r _ [304, 91, 92, 93, 150, 151, 5, 152, 129, 130, 131, 529, 530, 531, 532, 533, 534, 535, 536, 537, 538, 539, 540, 541, 542, 543, 544, 545, 546, 547, 548, 549, 550, 551, 552, 553, 554, 555, 556, 557, 558, 559, 560, 561, 562] (by decide +kernel) (by decide +kernel)
set_option maxRecDepth 20000 in
theorem gL_law_X6_hang : GoodIn wsL_law (wsV RL 57 RX6 yX6_hang wsX6_hang) := goodIn_app (goodIn_of _ (by decide +kernel)) ggL_law_X6_hang
set_option maxRecDepth 20000 in
theorem ggL_law_X5_unhang : GoodIn wsL_law wsX5_unhang := goodIn_r _ [308, 23, 137, 138, 2, 139, 111, 112, 113, 288, 289, 290, 22, 291, 58, 309, 310, 311, 312, 521, 522, 523, 524, 525, 526, 527, 528, 578, 579, 580] (by decide +kernel) (by decide +kernel)
set_option maxRecDepth 20000 in
theorem gL_law_X5_unhang : GoodIn wsL_law (wsV RL 58 RX5 yX5_unhang wsX5_unhang) := goodIn_app (goodIn_of _ (by decide +kernel)) ggL_law_X5_unhang
set_option maxRecDepth 20000 in
theorem ggL_law_X6_unhang : GoodIn wsL_law wsX6_unhang := goodIn_r _ [316, 91, 150, 151, 5, 152, 129, 130, 131, 529, 530, 531, 532, 533, 534, 535, 536, 537, 538, 539, 540, 541, 542, 543, 544, 545, 546, 547, 548, 549, 550, 551, 552, 553, 554, 555, 556, 557, 558, 559, 560, 561, 562] (by decide +kernel) (by decide +kernel)
set_option maxRecDepth 20000 in
theorem gL_law_X6_unhang : GoodIn wsL_law (wsV RL 61 RX6 yX6_unhang wsX6_unhang) := goodIn_app (goodIn_of _ (by decide +kernel)) ggL_law_X6_unhang
set_option maxRecDepth 20000 in
theorem ggL_law_X5_force : GoodIn wsL_law wsX5_force := goodIn_r _ [320, 19, 137, 138, 2, 139, 111, 112, 113, 321, 322, 323, 18, 324, 249, 46, 49, 47, 521, 522, 523, 524, 525, 526, 527, 528, 571, 572, 573, 574, 575, 576, 577] (by decide +kernel) (by decide +kernel)
set_option maxRecDepth 20000 in
theorem gL_law_X5_force : GoodIn wsL_law (wsV RL 62 RX5 yX5_force wsX5_force) := goodIn_app (goodIn_of _ (by decide +kernel)) ggL_law_X5_force
set_option maxRecDepth 20000 in
theorem ggL_law_X6_force : GoodIn wsL_law wsX6_force := goodIn_r _ [328, 150, 151, 5, 152, 129, 130, 131, 329, 330, 331, 332, 254, 85, 88, 86, 529, 530, 531, 532, 533, 534, 535, 536, 537, 538, 539, 540, 541, 542, 543, 544, 545, 546, 547, 548, 549, 550, 551, 552, 553, 554, 555, 556, 557, 558, 559, 560, 561, 562] (by decide +kernel) (by decide +kernel)
set_option maxRecDepth 20000 in
theorem gL_law_X6_force : GoodIn wsL_law (wsV RL 65 RX6 yX6_force wsX6_force) := goodIn_app (goodIn_of _ (by decide +kernel)) ggL_law_X6_force
set_option maxRecDepth 20000 in
theorem ggL_law_X5_duty : GoodIn wsL_law wsX5_duty := goodIn_r _ [336, 137, 138, 2, 139, 111, 112, 113, 337, 338, 339, 340, 23, 19, 15, 341, 342, 343, 22, 344, 56, 296, 289, 290, 291, 58, 345, 346, 347, 18, 348, 46, 349, 261, 262, 263, 249, 321, 322, 323, 324, 49, 47, 208, 209, 210, 14, 211, 212, 185, 186, 187, 144, 37, 38, 40, 39, 188, 189, 190, 191, 41, 42, 350, 351, 352, 353, 52, 51, 354, 355, 356, 357, 57, 521, 522, 523, 524, 525, 526, 527, 528, 578, 579, 580, 571, 572, 573, 574, 575, 576, 577, 563, 564, 565, 566, 567, 568, 569, 570] (by decide +kernel) (by decide +kernel)
set_option maxRecDepth 20000 in
theorem gL_law_X5_duty : GoodIn wsL_law (wsV RL 66 RX5 yX5_duty wsX5_duty) := goodIn_app (goodIn_of _ (by decide +kernel)) ggL_law_X5_duty
set_option maxRecDepth 20000 in
theorem ggL_law_X6_duty : GoodIn wsL_law wsX6_duty := goodIn_r _ [361, 150, 151, 5, 152, 129, 130, 131, 362, 363, 364, 365, 91, 92, 93, 366, 367, 368, 369, 104, 85, 88, 89, 90, 329, 330, 331, 332, 254, 86, 217, 218, 219, 220, 196, 197, 198, 199, 149, 79, 80, 82, 81, 200, 201, 202, 203, 103, 83, 84, 529, 530, 531, 532, 533, 534, 535, 536, 537, 538, 539, 540, 541, 542, 543, 544, 545, 546, 547, 548, 549, 550, 551, 552, 553, 554, 555, 556, 557, 558, 559, 560, 561, 562] (by decide +kernel) (by decide +kernel)
set_option maxRecDepth 20000 in
theorem gL_law_X6_duty : GoodIn wsL_law (wsV RL 69 RX6 yX6_duty wsX6_duty) := goodIn_app (goodIn_of _ (by decide +kernel)) ggL_law_X6_duty
set_option maxRecDepth 20000 in
theorem ggL_law_X5_cargo : GoodIn wsL_law wsX5_cargo := goodIn_r _ [373, 27, 374, 109, 137, 138, 2, 139, 111, 112, 113, 375, 376, 377, 26, 378, 118, 62, 63, 67, 521, 522, 523, 524, 525, 526, 527, 528, 581, 582, 583, 584, 585, 586, 587] (by decide +kernel) (by decide +kernel)
set_option maxRecDepth 20000 in
theorem gL_law_X5_cargo : GoodIn wsL_law (wsV RL 70 RX5 yX5_cargo wsX5_cargo) := goodIn_app (goodIn_of _ (by decide +kernel)) ggL_law_X5_cargo
set_option maxRecDepth 20000 in
theorem ggL_law_X6_cargo : GoodIn wsL_law wsX6_cargo := goodIn_r _ [382, 127, 94, 95, 96, 97, 98, 99, 126, 150, 151, 5, 152, 129, 130, 131, 529, 530, 531, 532, 533, 534, 535, 536, 537, 538, 539, 540, 541, 542, 543, 544, 545, 546, 547, 548, 549, 550, 551, 552, 553, 554, 555, 556, 557, 558, 559, 560, 561, 562] (by decide +kernel) (by decide +kernel)
set_option maxRecDepth 20000 in
theorem gL_law_X6_cargo : GoodIn wsL_law (wsV RL 73 RX6 yX6_cargo wsX6_cargo) := goodIn_app (goodIn_of _ (by decide +kernel)) ggL_law_X6_cargo
set_option maxRecDepth 20000 in
theorem ggL_law_X5_spoil : GoodIn wsL_law wsX5_spoil := goodIn_r _ [386, 110, 111, 112, 2, 113, 521, 522, 523, 524, 525, 526, 527, 528] (by decide +kernel) (by decide +kernel)
set_option maxRecDepth 20000 in
theorem gL_law_X5_spoil : GoodIn wsL_law (wsV RL 74 RX5 yX5_spoil wsX5_spoil) := goodIn_app (goodIn_of _ (by decide +kernel)) ggL_law_X5_spoil
set_option maxRecDepth 20000 in
theorem ggL_law_X6_spoil : GoodIn wsL_law wsX6_spoil := goodIn_r _ [390, 128, 129, 130, 5, 131, 529, 530, 531, 532, 533, 534, 535, 536, 537, 538, 539, 540, 541, 542, 543, 544, 545, 546, 547, 548, 549, 550, 551, 552, 553, 554, 555, 556, 557, 558, 559, 560, 561, 562] (by decide +kernel) (by decide +kernel)
set_option maxRecDepth 20000 in
theorem gL_law_X6_spoil : GoodIn wsL_law (wsV RL 77 RX6 yX6_spoil wsX6_spoil) := goodIn_app (goodIn_of _ (by decide +kernel)) ggL_law_X6_spoil
set_option maxRecDepth 20000 in
theorem ggL_law_X5_letOut : GoodIn wsL_law wsX5_letOut := goodIn_r _ [394, 27, 395, 396, 397, 31, 398, 399, 400, 109, 401, 402, 403, 404, 405, 26, 406, 118, 111, 112, 2, 113, 337, 338, 339, 340, 23, 19, 15, 341, 342, 343, 22, 344, 56, 296, 289, 290, 291, 58, 345, 346, 347, 18, 348, 46, 349, 261, 262, 263, 249, 321, 322, 323, 324, 49, 47, 208, 209, 210, 14, 211, 212, 185, 186, 187, 144, 37, 38, 40, 39, 188, 189, 190, 191, 41, 42, 350, 351, 352, 353, 52, 51, 354, 355, 356, 357, 57, 407, 408, 409, 30, 410, 71, 411, 72, 73, 521, 522, 523, 524, 525, 526, 527, 528, 581, 582, 583, 584, 585, 586, 587, 588, 589, 590, 591, 578, 579, 580, 571, 572, 573, 574, 575, 576, 577, 563, 564, 565, 566, 567, 568, 569, 570] (by decide +kernel) (by decide +kernel)
set_option maxRecDepth 20000 in
theorem gL_law_X5_letOut : GoodIn wsL_law (wsV RL 78 RX5 yX5_letOut wsX5_letOut) := goodIn_app (goodIn_of _ (by decide +kernel)) ggL_law_X5_letOut
set_option maxRecDepth 20000 in
theorem ggL_law_X6_letOut : GoodIn wsL_law wsX6_letOut := goodIn_r _ [415, 416, 95, 417, 418, 419, 94, 126, 96, 100, 101, 102, 420, 421, 422, 423, 5, 424, 127, 129, 130, 131, 362, 363, 364, 365, 91, 92, 93, 366, 367, 368, 369, 104, 85, 88, 89, 90, 329, 330, 331, 332, 254, 86, 217, 218, 219, 220, 196, 197, 198, 199, 149, 79, 80, 82, 81, 200, 201, 202, 203, 103, 83, 84, 529, 530, 531, 532, 533, 534, 535, 536, 537, 538, 539, 540, 541, 542, 543, 544, 545, 546, 547, 548, 549, 550, 551, 552, 553, 554, 555, 556, 557, 558, 559, 560, 561, 562] (by decide +kernel) (by decide +kernel)
set_option maxRecDepth 20000 in
theorem gL_law_X6_letOut : GoodIn wsL_law (wsV RL 82 RX6 yX6_letOut wsX6_letOut) := goodIn_app (goodIn_of _ (by decide +kernel)) ggL_law_X6_letOut
set_option maxRecDepth 20000 in
theorem ggL_law_X5_ship : GoodIn wsL_law wsX5_ship := goodIn_r _ [428, 27, 396, 429, 403, 404, 405, 26, 406, 118, 111, 112, 2, 113, 521, 522, 523, 524, 525, 526, 527, 528, 581, 582, 583, 584, 585, 586, 587] (by decide +kernel) (by decide +kernel)
set_option maxRecDepth 20000 in
theorem gL_law_X5_ship : GoodIn wsL_law (wsV RL 83 RX5 yX5_ship wsX5_ship) := goodIn_app (goodIn_of _ (by decide +kernel)) ggL_law_X5_ship
set_option maxRecDepth 20000 in
theorem ggL_law_X6_ship : GoodIn wsL_law wsX6_ship := goodIn_r _ [433, 95, 97, 421, 422, 423, 5, 424, 127, 129, 130, 131, 529, 530, 531, 532, 533, 534, 535, 536, 537, 538, 539, 540, 541, 542, 543, 544, 545, 546, 547, 548, 549, 550, 551, 552, 553, 554, 555, 556, 557, 558, 559, 560, 561, 562] (by decide +kernel) (by decide +kernel)
set_option maxRecDepth 20000 in
theorem gL_law_X6_ship : GoodIn wsL_law (wsV RL 86 RX6 yX6_ship wsX6_ship) := goodIn_app (goodIn_of _ (by decide +kernel)) ggL_law_X6_ship
set_option maxRecDepth 20000 in
theorem ggL_law_X5_bond : GoodIn wsL_law wsX5_bond := goodIn_r _ [437, 27, 400, 396, 401, 429, 438, 439, 403, 404, 405, 26, 406, 118, 521, 522, 523, 524, 525, 526, 527, 528, 581, 582, 583, 584, 585, 586, 587] (by decide +kernel) (by decide +kernel)
set_option maxRecDepth 20000 in
theorem gL_law_X5_bond : GoodIn wsL_law (wsV RL 87 RX5 yX5_bond wsX5_bond) := goodIn_app (goodIn_of _ (by decide +kernel)) ggL_law_X5_bond
set_option maxRecDepth 20000 in
theorem ggL_law_X6_bond : GoodIn wsL_law wsX6_bond := goodIn_r _ [443, 94, 95, 96, 97, 98, 99, 421, 422, 423, 5, 424, 127, 129, 130, 131, 529, 530, 531, 532, 533, 534, 535, 536, 537, 538, 539, 540, 541, 542, 543, 544, 545, 546, 547, 548, 549, 550, 551, 552, 553, 554, 555, 556, 557, 558, 559, 560, 561, 562] (by decide +kernel) (by decide +kernel)
set_option maxRecDepth 20000 in
theorem gL_law_X6_bond : GoodIn wsL_law (wsV RL 90 RX6 yX6_bond wsX6_bond) := goodIn_app (goodIn_of _ (by decide +kernel)) ggL_law_X6_bond
set_option maxRecDepth 20000 in
theorem ggL_law_X5_chest : GoodIn wsL_law wsX5_chest := goodIn_r _ [447, 402, 521, 522, 523, 524, 525, 526, 527, 528] (by decide +kernel) (by decide +kernel)
set_option maxRecDepth 20000 in
theorem gL_law_X5_chest : GoodIn wsL_law (wsV RL 91 RX5 yX5_chest wsX5_chest) := goodIn_app (goodIn_of _ (by decide +kernel)) ggL_law_X5_chest
set_option maxRecDepth 20000 in
theorem ggL_law_X6_chest : GoodIn wsL_law wsX6_chest := goodIn_r _ [451, 420, 529, 530, 531, 532, 533, 534, 535, 536, 537, 538, 539, 540, 541, 542, 543, 544, 545, 546, 547, 548, 549, 550, 551, 552, 553, 554, 555, 556, 557, 558, 559, 560, 561, 562] (by decide +kernel) (by decide +kernel)
set_option maxRecDepth 20000 in
theorem gL_law_X6_chest : GoodIn wsL_law (wsV RL 95 RX6 yX6_chest wsX6_chest) := goodIn_app (goodIn_of _ (by decide +kernel)) ggL_law_X6_chest
set_option maxRecDepth 20000 in
theorem ggL_law_X5_worth : GoodIn wsL_law wsX5_worth := goodIn_r _ [455, 15, 456, 402, 158, 159, 160, 14, 161, 144, 457, 458, 459, 2, 460, 31, 398, 461, 462, 463, 337, 338, 339, 340, 23, 19, 341, 342, 343, 22, 344, 56, 296, 289, 290, 291, 58, 345, 346, 347, 18, 348, 46, 349, 261, 262, 263, 249, 321, 322, 323, 324, 49, 47, 208, 209, 210, 211, 212, 185, 186, 187, 37, 38, 40, 39, 188, 189, 190, 191, 41, 42, 350, 351, 352, 353, 52, 51, 354, 355, 356, 357, 57, 521, 522, 523, 524, 525, 526, 527, 528, 563, 564, 565, 566, 567, 568, 569, 570, 588, 589, 590, 591, 578, 579, 580, 571, 572, 573, 574, 575, 576, 577] (by decide +kernel) (by decide +kernel)
set_option maxRecDepth 20000 in
theorem gL_law_X5_worth : GoodIn wsL_law (wsV RL 96 RX5 yX5_worth wsX5_worth) := goodIn_app (goodIn_of _ (by decide +kernel)) ggL_law_X5_worth
set_option maxRecDepth 20000 in
theorem ggL_law_X6_worth : GoodIn wsL_law wsX6_worth := goodIn_r _ [467, 149, 468, 103, 420, 129, 130, 5, 131, 469, 470, 471, 472, 418, 102, 100, 101, 362, 363, 364, 365, 91, 92, 93, 366, 367, 368, 369, 104, 85, 88, 89, 90, 329, 330, 331, 332, 254, 86, 217, 218, 219, 220, 196, 197, 198, 199, 79, 80, 82, 81, 200, 201, 202, 203, 83, 84, 529, 530, 531, 532, 533, 534, 535, 536, 537, 538, 539, 540, 541, 542, 543, 544, 545, 546, 547, 548, 549, 550, 551, 552, 553, 554, 555, 556, 557, 558, 559, 560, 561, 562] (by decide +kernel) (by decide +kernel)
set_option maxRecDepth 20000 in
theorem gL_law_X6_worth : GoodIn wsL_law (wsV RL 100 RX6 yX6_worth wsX6_worth) := goodIn_app (goodIn_of _ (by decide +kernel)) ggL_law_X6_worth
set_option maxRecDepth 20000 in
theorem ggL_law_X5_other : GoodIn wsL_law wsX5_other := goodIn_r _ [476, 19, 395, 260, 261, 262, 18, 263, 249, 457, 458, 459, 2, 460, 31, 398, 461, 462, 463, 337, 338, 339, 340, 23, 15, 341, 342, 343, 22, 344, 56, 296, 289, 290, 291, 58, 345, 346, 347, 348, 46, 349, 321, 322, 323, 324, 49, 47, 208, 209, 210, 14, 211, 212, 185, 186, 187, 144, 37, 38, 40, 39, 188, 189, 190, 191, 41, 42, 350, 351, 352, 353, 52, 51, 354, 355, 356, 357, 57, 521, 522, 523, 524, 525, 526, 527, 528, 571, 572, 573, 574, 575, 576, 577, 588, 589, 590, 591, 578, 579, 580, 563, 564, 565, 566, 567, 568, 569, 570] (by decide +kernel) (by decide +kernel)
set_option maxRecDepth 20000 in
theorem gL_law_X5_other : GoodIn wsL_law (wsV RL 101 RX5 yX5_other wsX5_other) := goodIn_app (goodIn_of _ (by decide +kernel)) ggL_law_X5_other
set_option maxRecDepth 20000 in
theorem ggL_law_X6_other : GoodIn wsL_law wsX6_other := goodIn_r _ [480, 416, 104, 280, 281, 282, 5, 283, 254, 129, 130, 131, 469, 470, 471, 472, 418, 102, 100, 101, 362, 363, 364, 365, 91, 92, 93, 366, 367, 368, 369, 85, 88, 89, 90, 329, 330, 331, 332, 86, 217, 218, 219, 220, 196, 197, 198, 199, 149, 79, 80, 82, 81, 200, 201, 202, 203, 103, 83, 84, 529, 530, 531, 532, 533, 534, 535, 536, 537, 538, 539, 540, 541, 542, 543, 544, 545, 546, 547, 548, 549, 550, 551, 552, 553, 554, 555, 556, 557, 558, 559, 560, 561, 562] (by decide +kernel) (by decide +kernel)
set_option maxRecDepth 20000 in
theorem gL_law_X6_other : GoodIn wsL_law (wsV RL 104 RX6 yX6_other wsX6_other) := goodIn_app (goodIn_of _ (by decide +kernel)) ggL_law_X6_other
set_option maxRecDepth 20000 in
theorem ggL_law_X5_gain : GoodIn wsL_law wsX5_gain := goodIn_r _ [484, 27, 109, 456, 403, 404, 405, 26, 406, 118, 111, 112, 2, 113, 485, 486, 487, 488, 400, 110, 337, 338, 339, 340, 23, 19, 15, 341, 342, 343, 22, 344, 56, 296, 289, 290, 291, 58, 345, 346, 347, 18, 348, 46, 349, 261, 262, 263, 249, 321, 322, 323, 324, 49, 47, 208, 209, 210, 14, 211, 212, 185, 186, 187, 144, 37, 38, 40, 39, 188, 189, 190, 191, 41, 42, 350, 351, 352, 353, 52, 51, 354, 355, 356, 357, 57, 489, 490, 491, 492, 63, 119, 120, 121, 521, 522, 523, 524, 525, 526, 527, 528, 581, 582, 583, 584, 585, 586, 587, 578, 579, 580, 571, 572, 573, 574, 575, 576, 577, 563, 564, 565, 566, 567, 568, 569, 570] (by decide +kernel) (by decide +kernel)
set_option maxRecDepth 20000 in
theorem gL_law_X5_gain : GoodIn wsL_law (wsV RL 105 RX5 yX5_gain wsX5_gain) := goodIn_app (goodIn_of _ (by decide +kernel)) ggL_law_X5_gain
set_option maxRecDepth 20000 in
theorem ggL_law_X6_gain : GoodIn wsL_law wsX6_gain := goodIn_r _ [496, 126, 468, 421, 422, 423, 5, 424, 127, 129, 130, 131, 497, 498, 499, 500, 95, 128, 94, 362, 363, 364, 365, 91, 92, 93, 366, 367, 368, 369, 104, 85, 88, 89, 90, 329, 330, 331, 332, 254, 86, 217, 218, 219, 220, 196, 197, 198, 199, 149, 79, 80, 82, 81, 200, 201, 202, 203, 103, 83, 84, 529, 530, 531, 532, 533, 534, 535, 536, 537, 538, 539, 540, 541, 542, 543, 544, 545, 546, 547, 548, 549, 550, 551, 552, 553, 554, 555, 556, 557, 558, 559, 560, 561, 562] (by decide +kernel) (by decide +kernel)
set_option maxRecDepth 20000 in
theorem gL_law_X6_gain : GoodIn wsL_law (wsV RL 109 RX6 yX6_gain wsX6_gain) := goodIn_app (goodIn_of _ (by decide +kernel)) ggL_law_X6_gain
set_option maxRecDepth 20000 in
theorem ggL_law_X5_best : GoodIn wsL_law wsX5_best := goodIn_r _ [504, 27, 109, 403, 404, 405, 26, 406, 118, 111, 112, 2, 113, 485, 486, 487, 488, 400, 110, 337, 338, 339, 340, 23, 19, 15, 341, 342, 343, 22, 344, 56, 296, 289, 290, 291, 58, 345, 346, 347, 18, 348, 46, 349, 261, 262, 263, 249, 321, 322, 323, 324, 49, 47, 208, 209, 210, 14, 211, 212, 185, 186, 187, 144, 37, 38, 40, 39, 188, 189, 190, 191, 41, 42, 350, 351, 352, 353, 52, 51, 354, 355, 356, 357, 57, 489, 490, 491, 492, 63, 119, 120, 121, 521, 522, 523, 524, 525, 526, 527, 528, 581, 582, 583, 584, 585, 586, 587, 578, 579, 580, 571, 572, 573, 574, 575, 576, 577, 563, 564, 565, 566, 567, 568, 569, 570] (by decide +kernel) (by decide +kernel)
set_option maxRecDepth 20000 in
theorem gL_law_X5_best : GoodIn wsL_law (wsV RL 110 RX5 yX5_best wsX5_best) := goodIn_app (goodIn_of _ (by decide +kernel)) ggL_law_X5_best
set_option maxRecDepth 20000 in
theorem ggL_law_X6_best : GoodIn wsL_law wsX6_best := goodIn_r _ [508, 126, 421, 422, 423, 5, 424, 127, 129, 130, 131, 497, 498, 499, 500, 95, 128, 94, 362, 363, 364, 365, 91, 92, 93, 366, 367, 368, 369, 104, 85, 88, 89, 90, 329, 330, 331, 332, 254, 86, 217, 218, 219, 220, 196, 197, 198, 199, 149, 79, 80, 82, 81, 200, 201, 202, 203, 103, 83, 84, 529, 530, 531, 532, 533, 534, 535, 536, 537, 538, 539, 540, 541, 542, 543, 544, 545, 546, 547, 548, 549, 550, 551, 552, 553, 554, 555, 556, 557, 558, 559, 560, 561, 562] (by decide +kernel) (by decide +kernel)
set_option maxRecDepth 20000 in
theorem gL_law_X6_best : GoodIn wsL_law (wsV RL 113 RX6 yX6_best wsX6_best) := goodIn_app (goodIn_of _ (by decide +kernel)) ggL_law_X6_best
set_option maxRecDepth 20000 in
theorem ggL_law_X5_count : GoodIn wsL_law wsX5_count := goodIn_r _ [512, 109, 15, 136, 19, 244, 27, 374, 31, 398, 513, 514, 515, 14, 516, 144, 42, 521, 522, 523, 524, 525, 526, 527, 528, 563, 564, 565, 566, 567, 568, 569, 570, 571, 572, 573, 574, 575, 576, 577, 581, 582, 583, 584, 585, 586, 587, 588, 589, 590, 591] (by decide +kernel) (by decide +kernel)
set_option maxRecDepth 20000 in
theorem gL_law_X5_count : GoodIn wsL_law (wsV RL 114 RX5 yX5_count wsX5_count) := goodIn_app (goodIn_of _ (by decide +kernel)) ggL_law_X5_count
set_option maxRecDepth 20000 in
theorem ggL_law_X6_count : GoodIn wsL_law wsX6_count := goodIn_r _ [520, 126, 149, 84, 254, 127, 418, 529, 530, 531, 532, 533, 534, 535, 536, 537, 538, 539, 540, 541, 542, 543, 544, 545, 546, 547, 548, 549, 550, 551, 552, 553, 554, 555, 556, 557, 558, 559, 560, 561, 562] (by decide +kernel) (by decide +kernel)
set_option maxRecDepth 20000 in
theorem gL_law_X6_count : GoodIn wsL_law (wsV RL 117 RX6 yX6_count wsX6_count) := goodIn_app (goodIn_of _ (by decide +kernel)) ggL_law_X6_count
end
section
theorem dL_law_0 : decode cL_law 0 = .ok (.new 7, 3) := by decide +kernel
theorem dL_law_3 : decode cL_law 3 = .ok (.dup, 1) := by decide +kernel
theorem dL_law_4 : decode cL_law 4 = .ok (.invokespecial 9, 3) := by decide +kernel
theorem dL_law_7 : decode cL_law 7 = .ok (.astore_n 1, 1) := by decide +kernel
theorem dL_law_8 : decode cL_law 8 = .ok (.new 10, 3) := by decide +kernel
theorem dL_law_11 : decode cL_law 11 = .ok (.dup, 1) := by decide +kernel
theorem dL_law_12 : decode cL_law 12 = .ok (.invokespecial 12, 3) := by decide +kernel
theorem dL_law_15 : decode cL_law 15 = .ok (.astore_n 2, 1) := by decide +kernel
theorem dL_law_16 : decode cL_law 16 = .ok (.iconst 0, 1) := by decide +kernel
theorem dL_law_17 : decode cL_law 17 = .ok (.istore_n 3, 1) := by decide +kernel
theorem dL_law_18 : decode cL_law 18 = .ok (.iload_n 3, 1) := by decide +kernel
theorem dL_law_19 : decode cL_law 19 = .ok (.aload_n 0, 1) := by decide +kernel
theorem dL_law_20 : decode cL_law 20 = .ok (.arraylength, 1) := by decide +kernel
theorem dL_law_21 : decode cL_law 21 = .ok (.bipush 6, 2) := by decide +kernel
theorem dL_law_23 : decode cL_law 23 = .ok (.isub, 1) := by decide +kernel
theorem dL_law_24 : decode cL_law 24 = .ok (.if_icmp .gt 923, 3) := by decide +kernel
theorem dL_law_27 : decode cL_law 27 = .ok (.aload_n 0, 1) := by decide +kernel
theorem dL_law_28 : decode cL_law 28 = .ok (.iload_n 3, 1) := by decide +kernel
theorem dL_law_29 : decode cL_law 29 = .ok (.iaload, 1) := by decide +kernel
theorem dL_law_30 : decode cL_law 30 = .ok (.bipush 31, 2) := by decide +kernel
theorem dL_law_32 : decode cL_law 32 = .ok (.iand, 1) := by decide +kernel
theorem dL_law_33 : decode cL_law 33 = .ok (.tableswitch 908 0 23 #[111, 134, 197, 220, 253, 296, 329, 362, 395, 438, 491, 514, 547, 580, 613, 636, 670, 703, 736, 750, 774, 798, 842, 885], 111) := by decide +kernel
theorem dL_law_144 : decode cL_law 144 = .ok (.aload_n 1, 1) := by decide +kernel
theorem dL_law_145 : decode cL_law 145 = .ok (.aload_n 0, 1) := by decide +kernel
theorem dL_law_146 : decode cL_law 146 = .ok (.iload_n 3, 1) := by decide +kernel
theorem dL_law_147 : decode cL_law 147 = .ok (.iconst 1, 1) := by decide +kernel
theorem dL_law_148 : decode cL_law 148 = .ok (.iadd, 1) := by decide +kernel
theorem dL_law_149 : decode cL_law 149 = .ok (.iaload, 1) := by decide +kernel
theorem dL_law_150 : decode cL_law 150 = .ok (.invokevirtual 13, 3) := by decide +kernel
theorem dL_law_153 : decode cL_law 153 = .ok (.aload_n 2, 1) := by decide +kernel
theorem dL_law_154 : decode cL_law 154 = .ok (.aload_n 0, 1) := by decide +kernel
theorem dL_law_155 : decode cL_law 155 = .ok (.iload_n 3, 1) := by decide +kernel
theorem dL_law_156 : decode cL_law 156 = .ok (.iconst 1, 1) := by decide +kernel
theorem dL_law_157 : decode cL_law 157 = .ok (.iadd, 1) := by decide +kernel
theorem dL_law_158 : decode cL_law 158 = .ok (.iaload, 1) := by decide +kernel
theorem dL_law_159 : decode cL_law 159 = .ok (.invokevirtual 17, 3) := by decide +kernel
theorem dL_law_162 : decode cL_law 162 = .ok (.if_icmp .eq 779, 3) := by decide +kernel
theorem dL_law_165 : decode cL_law 165 = .ok (.iconst 0, 1) := by decide +kernel
theorem dL_law_166 : decode cL_law 166 = .ok (.ireturn, 1) := by decide +kernel
theorem dL_law_167 : decode cL_law 167 = .ok (.aload_n 1, 1) := by decide +kernel
theorem dL_law_168 : decode cL_law 168 = .ok (.aload_n 0, 1) := by decide +kernel
theorem dL_law_169 : decode cL_law 169 = .ok (.iload_n 3, 1) := by decide +kernel
theorem dL_law_170 : decode cL_law 170 = .ok (.iconst 1, 1) := by decide +kernel
theorem dL_law_171 : decode cL_law 171 = .ok (.iadd, 1) := by decide +kernel
theorem dL_law_172 : decode cL_law 172 = .ok (.iaload, 1) := by decide +kernel
theorem dL_law_173 : decode cL_law 173 = .ok (.aload_n 0, 1) := by decide +kernel
theorem dL_law_174 : decode cL_law 174 = .ok (.iload_n 3, 1) := by decide +kernel
theorem dL_law_175 : decode cL_law 175 = .ok (.iconst 2, 1) := by decide +kernel
theorem dL_law_176 : decode cL_law 176 = .ok (.iadd, 1) := by decide +kernel
theorem dL_law_177 : decode cL_law 177 = .ok (.iaload, 1) := by decide +kernel
theorem dL_law_178 : decode cL_law 178 = .ok (.aload_n 0, 1) := by decide +kernel
theorem dL_law_179 : decode cL_law 179 = .ok (.iload_n 3, 1) := by decide +kernel
theorem dL_law_180 : decode cL_law 180 = .ok (.iconst 3, 1) := by decide +kernel
theorem dL_law_181 : decode cL_law 181 = .ok (.iadd, 1) := by decide +kernel
theorem dL_law_182 : decode cL_law 182 = .ok (.iaload, 1) := by decide +kernel
theorem dL_law_183 : decode cL_law 183 = .ok (.aload_n 0, 1) := by decide +kernel
theorem dL_law_184 : decode cL_law 184 = .ok (.iload_n 3, 1) := by decide +kernel
theorem dL_law_185 : decode cL_law 185 = .ok (.iconst 4, 1) := by decide +kernel
theorem dL_law_186 : decode cL_law 186 = .ok (.iadd, 1) := by decide +kernel
theorem dL_law_187 : decode cL_law 187 = .ok (.iaload, 1) := by decide +kernel
theorem dL_law_188 : decode cL_law 188 = .ok (.aload_n 0, 1) := by decide +kernel
theorem dL_law_189 : decode cL_law 189 = .ok (.iload_n 3, 1) := by decide +kernel
theorem dL_law_190 : decode cL_law 190 = .ok (.iconst 5, 1) := by decide +kernel
theorem dL_law_191 : decode cL_law 191 = .ok (.iadd, 1) := by decide +kernel
theorem dL_law_192 : decode cL_law 192 = .ok (.iaload, 1) := by decide +kernel
theorem dL_law_193 : decode cL_law 193 = .ok (.invokevirtual 18, 3) := by decide +kernel
theorem dL_law_196 : decode cL_law 196 = .ok (.aload_n 2, 1) := by decide +kernel
theorem dL_law_197 : decode cL_law 197 = .ok (.aload_n 0, 1) := by decide +kernel
theorem dL_law_198 : decode cL_law 198 = .ok (.iload_n 3, 1) := by decide +kernel
theorem dL_law_199 : decode cL_law 199 = .ok (.iconst 1, 1) := by decide +kernel
theorem dL_law_200 : decode cL_law 200 = .ok (.iadd, 1) := by decide +kernel
theorem dL_law_201 : decode cL_law 201 = .ok (.iaload, 1) := by decide +kernel
theorem dL_law_202 : decode cL_law 202 = .ok (.aload_n 0, 1) := by decide +kernel
theorem dL_law_203 : decode cL_law 203 = .ok (.iload_n 3, 1) := by decide +kernel
theorem dL_law_204 : decode cL_law 204 = .ok (.iconst 2, 1) := by decide +kernel
theorem dL_law_205 : decode cL_law 205 = .ok (.iadd, 1) := by decide +kernel
theorem dL_law_206 : decode cL_law 206 = .ok (.iaload, 1) := by decide +kernel
theorem dL_law_207 : decode cL_law 207 = .ok (.aload_n 0, 1) := by decide +kernel
theorem dL_law_208 : decode cL_law 208 = .ok (.iload_n 3, 1) := by decide +kernel
theorem dL_law_209 : decode cL_law 209 = .ok (.iconst 3, 1) := by decide +kernel
theorem dL_law_210 : decode cL_law 210 = .ok (.iadd, 1) := by decide +kernel
theorem dL_law_211 : decode cL_law 211 = .ok (.iaload, 1) := by decide +kernel
theorem dL_law_212 : decode cL_law 212 = .ok (.aload_n 0, 1) := by decide +kernel
theorem dL_law_213 : decode cL_law 213 = .ok (.iload_n 3, 1) := by decide +kernel
theorem dL_law_214 : decode cL_law 214 = .ok (.iconst 4, 1) := by decide +kernel
theorem dL_law_215 : decode cL_law 215 = .ok (.iadd, 1) := by decide +kernel
theorem dL_law_216 : decode cL_law 216 = .ok (.iaload, 1) := by decide +kernel
theorem dL_law_217 : decode cL_law 217 = .ok (.aload_n 0, 1) := by decide +kernel
theorem dL_law_218 : decode cL_law 218 = .ok (.iload_n 3, 1) := by decide +kernel
theorem dL_law_219 : decode cL_law 219 = .ok (.iconst 5, 1) := by decide +kernel
theorem dL_law_220 : decode cL_law 220 = .ok (.iadd, 1) := by decide +kernel
theorem dL_law_221 : decode cL_law 221 = .ok (.iaload, 1) := by decide +kernel
theorem dL_law_222 : decode cL_law 222 = .ok (.invokevirtual 22, 3) := by decide +kernel
theorem dL_law_225 : decode cL_law 225 = .ok (.if_icmp .eq 716, 3) := by decide +kernel
theorem dL_law_228 : decode cL_law 228 = .ok (.iconst 0, 1) := by decide +kernel
theorem dL_law_229 : decode cL_law 229 = .ok (.ireturn, 1) := by decide +kernel
theorem dL_law_230 : decode cL_law 230 = .ok (.aload_n 1, 1) := by decide +kernel
theorem dL_law_231 : decode cL_law 231 = .ok (.aload_n 0, 1) := by decide +kernel
theorem dL_law_232 : decode cL_law 232 = .ok (.iload_n 3, 1) := by decide +kernel
theorem dL_law_233 : decode cL_law 233 = .ok (.iconst 1, 1) := by decide +kernel
theorem dL_law_234 : decode cL_law 234 = .ok (.iadd, 1) := by decide +kernel
theorem dL_law_235 : decode cL_law 235 = .ok (.iaload, 1) := by decide +kernel
theorem dL_law_236 : decode cL_law 236 = .ok (.invokevirtual 23, 3) := by decide +kernel
theorem dL_law_239 : decode cL_law 239 = .ok (.aload_n 2, 1) := by decide +kernel
theorem dL_law_240 : decode cL_law 240 = .ok (.aload_n 0, 1) := by decide +kernel
theorem dL_law_241 : decode cL_law 241 = .ok (.iload_n 3, 1) := by decide +kernel
theorem dL_law_242 : decode cL_law 242 = .ok (.iconst 1, 1) := by decide +kernel
theorem dL_law_243 : decode cL_law 243 = .ok (.iadd, 1) := by decide +kernel
theorem dL_law_244 : decode cL_law 244 = .ok (.iaload, 1) := by decide +kernel
theorem dL_law_245 : decode cL_law 245 = .ok (.invokevirtual 26, 3) := by decide +kernel
theorem dL_law_248 : decode cL_law 248 = .ok (.if_icmp .eq 693, 3) := by decide +kernel
theorem dL_law_251 : decode cL_law 251 = .ok (.iconst 0, 1) := by decide +kernel
theorem dL_law_252 : decode cL_law 252 = .ok (.ireturn, 1) := by decide +kernel
theorem dL_law_253 : decode cL_law 253 = .ok (.aload_n 1, 1) := by decide +kernel
theorem dL_law_254 : decode cL_law 254 = .ok (.aload_n 0, 1) := by decide +kernel
theorem dL_law_255 : decode cL_law 255 = .ok (.iload_n 3, 1) := by decide +kernel
theorem dL_law_256 : decode cL_law 256 = .ok (.iconst 1, 1) := by decide +kernel
theorem dL_law_257 : decode cL_law 257 = .ok (.iadd, 1) := by decide +kernel
theorem dL_law_258 : decode cL_law 258 = .ok (.iaload, 1) := by decide +kernel
theorem dL_law_259 : decode cL_law 259 = .ok (.aload_n 0, 1) := by decide +kernel
theorem dL_law_260 : decode cL_law 260 = .ok (.iload_n 3, 1) := by decide +kernel
theorem dL_law_261 : decode cL_law 261 = .ok (.iconst 2, 1) := by decide +kernel
theorem dL_law_262 : decode cL_law 262 = .ok (.iadd, 1) := by decide +kernel
theorem dL_law_263 : decode cL_law 263 = .ok (.iaload, 1) := by decide +kernel
theorem dL_law_264 : decode cL_law 264 = .ok (.invokevirtual 27, 3) := by decide +kernel
theorem dL_law_267 : decode cL_law 267 = .ok (.aload_n 2, 1) := by decide +kernel
theorem dL_law_268 : decode cL_law 268 = .ok (.aload_n 0, 1) := by decide +kernel
theorem dL_law_269 : decode cL_law 269 = .ok (.iload_n 3, 1) := by decide +kernel
theorem dL_law_270 : decode cL_law 270 = .ok (.iconst 1, 1) := by decide +kernel
theorem dL_law_271 : decode cL_law 271 = .ok (.iadd, 1) := by decide +kernel
theorem dL_law_272 : decode cL_law 272 = .ok (.iaload, 1) := by decide +kernel
theorem dL_law_273 : decode cL_law 273 = .ok (.aload_n 0, 1) := by decide +kernel
theorem dL_law_274 : decode cL_law 274 = .ok (.iload_n 3, 1) := by decide +kernel
theorem dL_law_275 : decode cL_law 275 = .ok (.iconst 2, 1) := by decide +kernel
theorem dL_law_276 : decode cL_law 276 = .ok (.iadd, 1) := by decide +kernel
theorem dL_law_277 : decode cL_law 277 = .ok (.iaload, 1) := by decide +kernel
theorem dL_law_278 : decode cL_law 278 = .ok (.invokevirtual 31, 3) := by decide +kernel
theorem dL_law_281 : decode cL_law 281 = .ok (.if_icmp .eq 660, 3) := by decide +kernel
theorem dL_law_284 : decode cL_law 284 = .ok (.iconst 0, 1) := by decide +kernel
theorem dL_law_285 : decode cL_law 285 = .ok (.ireturn, 1) := by decide +kernel
theorem dL_law_286 : decode cL_law 286 = .ok (.aload_n 1, 1) := by decide +kernel
theorem dL_law_287 : decode cL_law 287 = .ok (.aload_n 0, 1) := by decide +kernel
theorem dL_law_288 : decode cL_law 288 = .ok (.iload_n 3, 1) := by decide +kernel
theorem dL_law_289 : decode cL_law 289 = .ok (.iconst 1, 1) := by decide +kernel
theorem dL_law_290 : decode cL_law 290 = .ok (.iadd, 1) := by decide +kernel
theorem dL_law_291 : decode cL_law 291 = .ok (.iaload, 1) := by decide +kernel
theorem dL_law_292 : decode cL_law 292 = .ok (.aload_n 0, 1) := by decide +kernel
theorem dL_law_293 : decode cL_law 293 = .ok (.iload_n 3, 1) := by decide +kernel
theorem dL_law_294 : decode cL_law 294 = .ok (.iconst 2, 1) := by decide +kernel
theorem dL_law_295 : decode cL_law 295 = .ok (.iadd, 1) := by decide +kernel
theorem dL_law_296 : decode cL_law 296 = .ok (.iaload, 1) := by decide +kernel
theorem dL_law_297 : decode cL_law 297 = .ok (.aload_n 0, 1) := by decide +kernel
theorem dL_law_298 : decode cL_law 298 = .ok (.iload_n 3, 1) := by decide +kernel
theorem dL_law_299 : decode cL_law 299 = .ok (.iconst 3, 1) := by decide +kernel
theorem dL_law_300 : decode cL_law 300 = .ok (.iadd, 1) := by decide +kernel
theorem dL_law_301 : decode cL_law 301 = .ok (.iaload, 1) := by decide +kernel
theorem dL_law_302 : decode cL_law 302 = .ok (.invokevirtual 32, 3) := by decide +kernel
theorem dL_law_305 : decode cL_law 305 = .ok (.aload_n 2, 1) := by decide +kernel
theorem dL_law_306 : decode cL_law 306 = .ok (.aload_n 0, 1) := by decide +kernel
theorem dL_law_307 : decode cL_law 307 = .ok (.iload_n 3, 1) := by decide +kernel
theorem dL_law_308 : decode cL_law 308 = .ok (.iconst 1, 1) := by decide +kernel
theorem dL_law_309 : decode cL_law 309 = .ok (.iadd, 1) := by decide +kernel
theorem dL_law_310 : decode cL_law 310 = .ok (.iaload, 1) := by decide +kernel
theorem dL_law_311 : decode cL_law 311 = .ok (.aload_n 0, 1) := by decide +kernel
theorem dL_law_312 : decode cL_law 312 = .ok (.iload_n 3, 1) := by decide +kernel
theorem dL_law_313 : decode cL_law 313 = .ok (.iconst 2, 1) := by decide +kernel
theorem dL_law_314 : decode cL_law 314 = .ok (.iadd, 1) := by decide +kernel
theorem dL_law_315 : decode cL_law 315 = .ok (.iaload, 1) := by decide +kernel
theorem dL_law_316 : decode cL_law 316 = .ok (.aload_n 0, 1) := by decide +kernel
theorem dL_law_317 : decode cL_law 317 = .ok (.iload_n 3, 1) := by decide +kernel
theorem dL_law_318 : decode cL_law 318 = .ok (.iconst 3, 1) := by decide +kernel
theorem dL_law_319 : decode cL_law 319 = .ok (.iadd, 1) := by decide +kernel
theorem dL_law_320 : decode cL_law 320 = .ok (.iaload, 1) := by decide +kernel
theorem dL_law_321 : decode cL_law 321 = .ok (.invokevirtual 36, 3) := by decide +kernel
theorem dL_law_324 : decode cL_law 324 = .ok (.if_icmp .eq 617, 3) := by decide +kernel
theorem dL_law_327 : decode cL_law 327 = .ok (.iconst 0, 1) := by decide +kernel
theorem dL_law_328 : decode cL_law 328 = .ok (.ireturn, 1) := by decide +kernel
theorem dL_law_329 : decode cL_law 329 = .ok (.aload_n 1, 1) := by decide +kernel
theorem dL_law_330 : decode cL_law 330 = .ok (.aload_n 0, 1) := by decide +kernel
theorem dL_law_331 : decode cL_law 331 = .ok (.iload_n 3, 1) := by decide +kernel
theorem dL_law_332 : decode cL_law 332 = .ok (.iconst 1, 1) := by decide +kernel
theorem dL_law_333 : decode cL_law 333 = .ok (.iadd, 1) := by decide +kernel
theorem dL_law_334 : decode cL_law 334 = .ok (.iaload, 1) := by decide +kernel
theorem dL_law_335 : decode cL_law 335 = .ok (.aload_n 0, 1) := by decide +kernel
theorem dL_law_336 : decode cL_law 336 = .ok (.iload_n 3, 1) := by decide +kernel
theorem dL_law_337 : decode cL_law 337 = .ok (.iconst 2, 1) := by decide +kernel
theorem dL_law_338 : decode cL_law 338 = .ok (.iadd, 1) := by decide +kernel
theorem dL_law_339 : decode cL_law 339 = .ok (.iaload, 1) := by decide +kernel
theorem dL_law_340 : decode cL_law 340 = .ok (.invokevirtual 37, 3) := by decide +kernel
theorem dL_law_343 : decode cL_law 343 = .ok (.aload_n 2, 1) := by decide +kernel
theorem dL_law_344 : decode cL_law 344 = .ok (.aload_n 0, 1) := by decide +kernel
theorem dL_law_345 : decode cL_law 345 = .ok (.iload_n 3, 1) := by decide +kernel
theorem dL_law_346 : decode cL_law 346 = .ok (.iconst 1, 1) := by decide +kernel
theorem dL_law_347 : decode cL_law 347 = .ok (.iadd, 1) := by decide +kernel
theorem dL_law_348 : decode cL_law 348 = .ok (.iaload, 1) := by decide +kernel
theorem dL_law_349 : decode cL_law 349 = .ok (.aload_n 0, 1) := by decide +kernel
theorem dL_law_350 : decode cL_law 350 = .ok (.iload_n 3, 1) := by decide +kernel
theorem dL_law_351 : decode cL_law 351 = .ok (.iconst 2, 1) := by decide +kernel
theorem dL_law_352 : decode cL_law 352 = .ok (.iadd, 1) := by decide +kernel
theorem dL_law_353 : decode cL_law 353 = .ok (.iaload, 1) := by decide +kernel
theorem dL_law_354 : decode cL_law 354 = .ok (.invokevirtual 40, 3) := by decide +kernel
theorem dL_law_357 : decode cL_law 357 = .ok (.if_icmp .eq 584, 3) := by decide +kernel
theorem dL_law_360 : decode cL_law 360 = .ok (.iconst 0, 1) := by decide +kernel
theorem dL_law_361 : decode cL_law 361 = .ok (.ireturn, 1) := by decide +kernel
theorem dL_law_362 : decode cL_law 362 = .ok (.aload_n 1, 1) := by decide +kernel
theorem dL_law_363 : decode cL_law 363 = .ok (.aload_n 0, 1) := by decide +kernel
theorem dL_law_364 : decode cL_law 364 = .ok (.iload_n 3, 1) := by decide +kernel
theorem dL_law_365 : decode cL_law 365 = .ok (.iconst 1, 1) := by decide +kernel
theorem dL_law_366 : decode cL_law 366 = .ok (.iadd, 1) := by decide +kernel
theorem dL_law_367 : decode cL_law 367 = .ok (.iaload, 1) := by decide +kernel
theorem dL_law_368 : decode cL_law 368 = .ok (.aload_n 0, 1) := by decide +kernel
theorem dL_law_369 : decode cL_law 369 = .ok (.iload_n 3, 1) := by decide +kernel
theorem dL_law_370 : decode cL_law 370 = .ok (.iconst 2, 1) := by decide +kernel
theorem dL_law_371 : decode cL_law 371 = .ok (.iadd, 1) := by decide +kernel
theorem dL_law_372 : decode cL_law 372 = .ok (.iaload, 1) := by decide +kernel
theorem dL_law_373 : decode cL_law 373 = .ok (.invokevirtual 41, 3) := by decide +kernel
theorem dL_law_376 : decode cL_law 376 = .ok (.aload_n 2, 1) := by decide +kernel
theorem dL_law_377 : decode cL_law 377 = .ok (.aload_n 0, 1) := by decide +kernel
theorem dL_law_378 : decode cL_law 378 = .ok (.iload_n 3, 1) := by decide +kernel
theorem dL_law_379 : decode cL_law 379 = .ok (.iconst 1, 1) := by decide +kernel
theorem dL_law_380 : decode cL_law 380 = .ok (.iadd, 1) := by decide +kernel
theorem dL_law_381 : decode cL_law 381 = .ok (.iaload, 1) := by decide +kernel
theorem dL_law_382 : decode cL_law 382 = .ok (.aload_n 0, 1) := by decide +kernel
theorem dL_law_383 : decode cL_law 383 = .ok (.iload_n 3, 1) := by decide +kernel
theorem dL_law_384 : decode cL_law 384 = .ok (.iconst 2, 1) := by decide +kernel
theorem dL_law_385 : decode cL_law 385 = .ok (.iadd, 1) := by decide +kernel
theorem dL_law_386 : decode cL_law 386 = .ok (.iaload, 1) := by decide +kernel
theorem dL_law_387 : decode cL_law 387 = .ok (.invokevirtual 44, 3) := by decide +kernel
theorem dL_law_390 : decode cL_law 390 = .ok (.if_icmp .eq 551, 3) := by decide +kernel
theorem dL_law_393 : decode cL_law 393 = .ok (.iconst 0, 1) := by decide +kernel
theorem dL_law_394 : decode cL_law 394 = .ok (.ireturn, 1) := by decide +kernel
theorem dL_law_395 : decode cL_law 395 = .ok (.aload_n 1, 1) := by decide +kernel
theorem dL_law_396 : decode cL_law 396 = .ok (.aload_n 0, 1) := by decide +kernel
theorem dL_law_397 : decode cL_law 397 = .ok (.iload_n 3, 1) := by decide +kernel
theorem dL_law_398 : decode cL_law 398 = .ok (.iconst 1, 1) := by decide +kernel
theorem dL_law_399 : decode cL_law 399 = .ok (.iadd, 1) := by decide +kernel
theorem dL_law_400 : decode cL_law 400 = .ok (.iaload, 1) := by decide +kernel
theorem dL_law_401 : decode cL_law 401 = .ok (.aload_n 0, 1) := by decide +kernel
theorem dL_law_402 : decode cL_law 402 = .ok (.iload_n 3, 1) := by decide +kernel
theorem dL_law_403 : decode cL_law 403 = .ok (.iconst 2, 1) := by decide +kernel
theorem dL_law_404 : decode cL_law 404 = .ok (.iadd, 1) := by decide +kernel
theorem dL_law_405 : decode cL_law 405 = .ok (.iaload, 1) := by decide +kernel
theorem dL_law_406 : decode cL_law 406 = .ok (.invokevirtual 45, 3) := by decide +kernel
theorem dL_law_409 : decode cL_law 409 = .ok (.aload_n 2, 1) := by decide +kernel
theorem dL_law_410 : decode cL_law 410 = .ok (.aload_n 0, 1) := by decide +kernel
theorem dL_law_411 : decode cL_law 411 = .ok (.iload_n 3, 1) := by decide +kernel
theorem dL_law_412 : decode cL_law 412 = .ok (.iconst 1, 1) := by decide +kernel
theorem dL_law_413 : decode cL_law 413 = .ok (.iadd, 1) := by decide +kernel
theorem dL_law_414 : decode cL_law 414 = .ok (.iaload, 1) := by decide +kernel
theorem dL_law_415 : decode cL_law 415 = .ok (.aload_n 0, 1) := by decide +kernel
theorem dL_law_416 : decode cL_law 416 = .ok (.iload_n 3, 1) := by decide +kernel
theorem dL_law_417 : decode cL_law 417 = .ok (.iconst 2, 1) := by decide +kernel
theorem dL_law_418 : decode cL_law 418 = .ok (.iadd, 1) := by decide +kernel
theorem dL_law_419 : decode cL_law 419 = .ok (.iaload, 1) := by decide +kernel
theorem dL_law_420 : decode cL_law 420 = .ok (.invokevirtual 48, 3) := by decide +kernel
theorem dL_law_423 : decode cL_law 423 = .ok (.if_icmp .eq 518, 3) := by decide +kernel
theorem dL_law_426 : decode cL_law 426 = .ok (.iconst 0, 1) := by decide +kernel
theorem dL_law_427 : decode cL_law 427 = .ok (.ireturn, 1) := by decide +kernel
theorem dL_law_428 : decode cL_law 428 = .ok (.aload_n 1, 1) := by decide +kernel
theorem dL_law_429 : decode cL_law 429 = .ok (.aload_n 0, 1) := by decide +kernel
theorem dL_law_430 : decode cL_law 430 = .ok (.iload_n 3, 1) := by decide +kernel
theorem dL_law_431 : decode cL_law 431 = .ok (.iconst 1, 1) := by decide +kernel
theorem dL_law_432 : decode cL_law 432 = .ok (.iadd, 1) := by decide +kernel
theorem dL_law_433 : decode cL_law 433 = .ok (.iaload, 1) := by decide +kernel
theorem dL_law_434 : decode cL_law 434 = .ok (.aload_n 0, 1) := by decide +kernel
theorem dL_law_435 : decode cL_law 435 = .ok (.iload_n 3, 1) := by decide +kernel
theorem dL_law_436 : decode cL_law 436 = .ok (.iconst 2, 1) := by decide +kernel
theorem dL_law_437 : decode cL_law 437 = .ok (.iadd, 1) := by decide +kernel
theorem dL_law_438 : decode cL_law 438 = .ok (.iaload, 1) := by decide +kernel
theorem dL_law_439 : decode cL_law 439 = .ok (.aload_n 0, 1) := by decide +kernel
theorem dL_law_440 : decode cL_law 440 = .ok (.iload_n 3, 1) := by decide +kernel
theorem dL_law_441 : decode cL_law 441 = .ok (.iconst 3, 1) := by decide +kernel
theorem dL_law_442 : decode cL_law 442 = .ok (.iadd, 1) := by decide +kernel
theorem dL_law_443 : decode cL_law 443 = .ok (.iaload, 1) := by decide +kernel
theorem dL_law_444 : decode cL_law 444 = .ok (.invokevirtual 49, 3) := by decide +kernel
theorem dL_law_447 : decode cL_law 447 = .ok (.aload_n 2, 1) := by decide +kernel
theorem dL_law_448 : decode cL_law 448 = .ok (.aload_n 0, 1) := by decide +kernel
theorem dL_law_449 : decode cL_law 449 = .ok (.iload_n 3, 1) := by decide +kernel
theorem dL_law_450 : decode cL_law 450 = .ok (.iconst 1, 1) := by decide +kernel
theorem dL_law_451 : decode cL_law 451 = .ok (.iadd, 1) := by decide +kernel
theorem dL_law_452 : decode cL_law 452 = .ok (.iaload, 1) := by decide +kernel
theorem dL_law_453 : decode cL_law 453 = .ok (.aload_n 0, 1) := by decide +kernel
theorem dL_law_454 : decode cL_law 454 = .ok (.iload_n 3, 1) := by decide +kernel
theorem dL_law_455 : decode cL_law 455 = .ok (.iconst 2, 1) := by decide +kernel
theorem dL_law_456 : decode cL_law 456 = .ok (.iadd, 1) := by decide +kernel
theorem dL_law_457 : decode cL_law 457 = .ok (.iaload, 1) := by decide +kernel
theorem dL_law_458 : decode cL_law 458 = .ok (.aload_n 0, 1) := by decide +kernel
theorem dL_law_459 : decode cL_law 459 = .ok (.iload_n 3, 1) := by decide +kernel
theorem dL_law_460 : decode cL_law 460 = .ok (.iconst 3, 1) := by decide +kernel
theorem dL_law_461 : decode cL_law 461 = .ok (.iadd, 1) := by decide +kernel
theorem dL_law_462 : decode cL_law 462 = .ok (.iaload, 1) := by decide +kernel
theorem dL_law_463 : decode cL_law 463 = .ok (.invokevirtual 52, 3) := by decide +kernel
theorem dL_law_466 : decode cL_law 466 = .ok (.if_icmp .eq 475, 3) := by decide +kernel
theorem dL_law_469 : decode cL_law 469 = .ok (.iconst 0, 1) := by decide +kernel
theorem dL_law_470 : decode cL_law 470 = .ok (.ireturn, 1) := by decide +kernel
theorem dL_law_471 : decode cL_law 471 = .ok (.aload_n 1, 1) := by decide +kernel
theorem dL_law_472 : decode cL_law 472 = .ok (.aload_n 0, 1) := by decide +kernel
theorem dL_law_473 : decode cL_law 473 = .ok (.iload_n 3, 1) := by decide +kernel
theorem dL_law_474 : decode cL_law 474 = .ok (.iconst 1, 1) := by decide +kernel
theorem dL_law_475 : decode cL_law 475 = .ok (.iadd, 1) := by decide +kernel
theorem dL_law_476 : decode cL_law 476 = .ok (.iaload, 1) := by decide +kernel
theorem dL_law_477 : decode cL_law 477 = .ok (.aload_n 0, 1) := by decide +kernel
theorem dL_law_478 : decode cL_law 478 = .ok (.iload_n 3, 1) := by decide +kernel
theorem dL_law_479 : decode cL_law 479 = .ok (.iconst 2, 1) := by decide +kernel
theorem dL_law_480 : decode cL_law 480 = .ok (.iadd, 1) := by decide +kernel
theorem dL_law_481 : decode cL_law 481 = .ok (.iaload, 1) := by decide +kernel
theorem dL_law_482 : decode cL_law 482 = .ok (.aload_n 0, 1) := by decide +kernel
theorem dL_law_483 : decode cL_law 483 = .ok (.iload_n 3, 1) := by decide +kernel
theorem dL_law_484 : decode cL_law 484 = .ok (.iconst 3, 1) := by decide +kernel
theorem dL_law_485 : decode cL_law 485 = .ok (.iadd, 1) := by decide +kernel
theorem dL_law_486 : decode cL_law 486 = .ok (.iaload, 1) := by decide +kernel
theorem dL_law_487 : decode cL_law 487 = .ok (.aload_n 0, 1) := by decide +kernel
theorem dL_law_488 : decode cL_law 488 = .ok (.iload_n 3, 1) := by decide +kernel
theorem dL_law_489 : decode cL_law 489 = .ok (.iconst 4, 1) := by decide +kernel
theorem dL_law_490 : decode cL_law 490 = .ok (.iadd, 1) := by decide +kernel
theorem dL_law_491 : decode cL_law 491 = .ok (.iaload, 1) := by decide +kernel
theorem dL_law_492 : decode cL_law 492 = .ok (.invokevirtual 53, 3) := by decide +kernel
theorem dL_law_495 : decode cL_law 495 = .ok (.aload_n 2, 1) := by decide +kernel
theorem dL_law_496 : decode cL_law 496 = .ok (.aload_n 0, 1) := by decide +kernel
theorem dL_law_497 : decode cL_law 497 = .ok (.iload_n 3, 1) := by decide +kernel
theorem dL_law_498 : decode cL_law 498 = .ok (.iconst 1, 1) := by decide +kernel
theorem dL_law_499 : decode cL_law 499 = .ok (.iadd, 1) := by decide +kernel
theorem dL_law_500 : decode cL_law 500 = .ok (.iaload, 1) := by decide +kernel
theorem dL_law_501 : decode cL_law 501 = .ok (.aload_n 0, 1) := by decide +kernel
theorem dL_law_502 : decode cL_law 502 = .ok (.iload_n 3, 1) := by decide +kernel
theorem dL_law_503 : decode cL_law 503 = .ok (.iconst 2, 1) := by decide +kernel
theorem dL_law_504 : decode cL_law 504 = .ok (.iadd, 1) := by decide +kernel
theorem dL_law_505 : decode cL_law 505 = .ok (.iaload, 1) := by decide +kernel
theorem dL_law_506 : decode cL_law 506 = .ok (.aload_n 0, 1) := by decide +kernel
theorem dL_law_507 : decode cL_law 507 = .ok (.iload_n 3, 1) := by decide +kernel
theorem dL_law_508 : decode cL_law 508 = .ok (.iconst 3, 1) := by decide +kernel
theorem dL_law_509 : decode cL_law 509 = .ok (.iadd, 1) := by decide +kernel
theorem dL_law_510 : decode cL_law 510 = .ok (.iaload, 1) := by decide +kernel
theorem dL_law_511 : decode cL_law 511 = .ok (.aload_n 0, 1) := by decide +kernel
theorem dL_law_512 : decode cL_law 512 = .ok (.iload_n 3, 1) := by decide +kernel
theorem dL_law_513 : decode cL_law 513 = .ok (.iconst 4, 1) := by decide +kernel
theorem dL_law_514 : decode cL_law 514 = .ok (.iadd, 1) := by decide +kernel
theorem dL_law_515 : decode cL_law 515 = .ok (.iaload, 1) := by decide +kernel
theorem dL_law_516 : decode cL_law 516 = .ok (.invokevirtual 57, 3) := by decide +kernel
theorem dL_law_519 : decode cL_law 519 = .ok (.if_icmp .eq 422, 3) := by decide +kernel
theorem dL_law_522 : decode cL_law 522 = .ok (.iconst 0, 1) := by decide +kernel
theorem dL_law_523 : decode cL_law 523 = .ok (.ireturn, 1) := by decide +kernel
theorem dL_law_524 : decode cL_law 524 = .ok (.aload_n 1, 1) := by decide +kernel
theorem dL_law_525 : decode cL_law 525 = .ok (.aload_n 0, 1) := by decide +kernel
theorem dL_law_526 : decode cL_law 526 = .ok (.iload_n 3, 1) := by decide +kernel
theorem dL_law_527 : decode cL_law 527 = .ok (.iconst 1, 1) := by decide +kernel
theorem dL_law_528 : decode cL_law 528 = .ok (.iadd, 1) := by decide +kernel
theorem dL_law_529 : decode cL_law 529 = .ok (.iaload, 1) := by decide +kernel
theorem dL_law_530 : decode cL_law 530 = .ok (.invokevirtual 58, 3) := by decide +kernel
theorem dL_law_533 : decode cL_law 533 = .ok (.aload_n 2, 1) := by decide +kernel
theorem dL_law_534 : decode cL_law 534 = .ok (.aload_n 0, 1) := by decide +kernel
theorem dL_law_535 : decode cL_law 535 = .ok (.iload_n 3, 1) := by decide +kernel
theorem dL_law_536 : decode cL_law 536 = .ok (.iconst 1, 1) := by decide +kernel
theorem dL_law_537 : decode cL_law 537 = .ok (.iadd, 1) := by decide +kernel
theorem dL_law_538 : decode cL_law 538 = .ok (.iaload, 1) := by decide +kernel
theorem dL_law_539 : decode cL_law 539 = .ok (.invokevirtual 61, 3) := by decide +kernel
theorem dL_law_542 : decode cL_law 542 = .ok (.if_icmp .eq 399, 3) := by decide +kernel
theorem dL_law_545 : decode cL_law 545 = .ok (.iconst 0, 1) := by decide +kernel
theorem dL_law_546 : decode cL_law 546 = .ok (.ireturn, 1) := by decide +kernel
theorem dL_law_547 : decode cL_law 547 = .ok (.aload_n 1, 1) := by decide +kernel
theorem dL_law_548 : decode cL_law 548 = .ok (.aload_n 0, 1) := by decide +kernel
theorem dL_law_549 : decode cL_law 549 = .ok (.iload_n 3, 1) := by decide +kernel
theorem dL_law_550 : decode cL_law 550 = .ok (.iconst 1, 1) := by decide +kernel
theorem dL_law_551 : decode cL_law 551 = .ok (.iadd, 1) := by decide +kernel
theorem dL_law_552 : decode cL_law 552 = .ok (.iaload, 1) := by decide +kernel
theorem dL_law_553 : decode cL_law 553 = .ok (.aload_n 0, 1) := by decide +kernel
theorem dL_law_554 : decode cL_law 554 = .ok (.iload_n 3, 1) := by decide +kernel
theorem dL_law_555 : decode cL_law 555 = .ok (.iconst 2, 1) := by decide +kernel
theorem dL_law_556 : decode cL_law 556 = .ok (.iadd, 1) := by decide +kernel
theorem dL_law_557 : decode cL_law 557 = .ok (.iaload, 1) := by decide +kernel
theorem dL_law_558 : decode cL_law 558 = .ok (.invokevirtual 62, 3) := by decide +kernel
theorem dL_law_561 : decode cL_law 561 = .ok (.aload_n 2, 1) := by decide +kernel
theorem dL_law_562 : decode cL_law 562 = .ok (.aload_n 0, 1) := by decide +kernel
theorem dL_law_563 : decode cL_law 563 = .ok (.iload_n 3, 1) := by decide +kernel
theorem dL_law_564 : decode cL_law 564 = .ok (.iconst 1, 1) := by decide +kernel
theorem dL_law_565 : decode cL_law 565 = .ok (.iadd, 1) := by decide +kernel
theorem dL_law_566 : decode cL_law 566 = .ok (.iaload, 1) := by decide +kernel
theorem dL_law_567 : decode cL_law 567 = .ok (.aload_n 0, 1) := by decide +kernel
theorem dL_law_568 : decode cL_law 568 = .ok (.iload_n 3, 1) := by decide +kernel
theorem dL_law_569 : decode cL_law 569 = .ok (.iconst 2, 1) := by decide +kernel
theorem dL_law_570 : decode cL_law 570 = .ok (.iadd, 1) := by decide +kernel
theorem dL_law_571 : decode cL_law 571 = .ok (.iaload, 1) := by decide +kernel
theorem dL_law_572 : decode cL_law 572 = .ok (.invokevirtual 65, 3) := by decide +kernel
theorem dL_law_575 : decode cL_law 575 = .ok (.if_icmp .eq 366, 3) := by decide +kernel
theorem dL_law_578 : decode cL_law 578 = .ok (.iconst 0, 1) := by decide +kernel
theorem dL_law_579 : decode cL_law 579 = .ok (.ireturn, 1) := by decide +kernel
theorem dL_law_580 : decode cL_law 580 = .ok (.aload_n 1, 1) := by decide +kernel
theorem dL_law_581 : decode cL_law 581 = .ok (.aload_n 0, 1) := by decide +kernel
theorem dL_law_582 : decode cL_law 582 = .ok (.iload_n 3, 1) := by decide +kernel
theorem dL_law_583 : decode cL_law 583 = .ok (.iconst 1, 1) := by decide +kernel
theorem dL_law_584 : decode cL_law 584 = .ok (.iadd, 1) := by decide +kernel
theorem dL_law_585 : decode cL_law 585 = .ok (.iaload, 1) := by decide +kernel
theorem dL_law_586 : decode cL_law 586 = .ok (.aload_n 0, 1) := by decide +kernel
theorem dL_law_587 : decode cL_law 587 = .ok (.iload_n 3, 1) := by decide +kernel
theorem dL_law_588 : decode cL_law 588 = .ok (.iconst 2, 1) := by decide +kernel
theorem dL_law_589 : decode cL_law 589 = .ok (.iadd, 1) := by decide +kernel
theorem dL_law_590 : decode cL_law 590 = .ok (.iaload, 1) := by decide +kernel
theorem dL_law_591 : decode cL_law 591 = .ok (.invokevirtual 66, 3) := by decide +kernel
theorem dL_law_594 : decode cL_law 594 = .ok (.aload_n 2, 1) := by decide +kernel
theorem dL_law_595 : decode cL_law 595 = .ok (.aload_n 0, 1) := by decide +kernel
theorem dL_law_596 : decode cL_law 596 = .ok (.iload_n 3, 1) := by decide +kernel
theorem dL_law_597 : decode cL_law 597 = .ok (.iconst 1, 1) := by decide +kernel
theorem dL_law_598 : decode cL_law 598 = .ok (.iadd, 1) := by decide +kernel
theorem dL_law_599 : decode cL_law 599 = .ok (.iaload, 1) := by decide +kernel
theorem dL_law_600 : decode cL_law 600 = .ok (.aload_n 0, 1) := by decide +kernel
theorem dL_law_601 : decode cL_law 601 = .ok (.iload_n 3, 1) := by decide +kernel
theorem dL_law_602 : decode cL_law 602 = .ok (.iconst 2, 1) := by decide +kernel
theorem dL_law_603 : decode cL_law 603 = .ok (.iadd, 1) := by decide +kernel
theorem dL_law_604 : decode cL_law 604 = .ok (.iaload, 1) := by decide +kernel
theorem dL_law_605 : decode cL_law 605 = .ok (.invokevirtual 69, 3) := by decide +kernel
theorem dL_law_608 : decode cL_law 608 = .ok (.if_icmp .eq 333, 3) := by decide +kernel
theorem dL_law_611 : decode cL_law 611 = .ok (.iconst 0, 1) := by decide +kernel
theorem dL_law_612 : decode cL_law 612 = .ok (.ireturn, 1) := by decide +kernel
theorem dL_law_613 : decode cL_law 613 = .ok (.aload_n 1, 1) := by decide +kernel
theorem dL_law_614 : decode cL_law 614 = .ok (.aload_n 0, 1) := by decide +kernel
theorem dL_law_615 : decode cL_law 615 = .ok (.iload_n 3, 1) := by decide +kernel
theorem dL_law_616 : decode cL_law 616 = .ok (.iconst 1, 1) := by decide +kernel
theorem dL_law_617 : decode cL_law 617 = .ok (.iadd, 1) := by decide +kernel
theorem dL_law_618 : decode cL_law 618 = .ok (.iaload, 1) := by decide +kernel
theorem dL_law_619 : decode cL_law 619 = .ok (.aload_n 0, 1) := by decide +kernel
theorem dL_law_620 : decode cL_law 620 = .ok (.iload_n 3, 1) := by decide +kernel
theorem dL_law_621 : decode cL_law 621 = .ok (.iconst 2, 1) := by decide +kernel
theorem dL_law_622 : decode cL_law 622 = .ok (.iadd, 1) := by decide +kernel
theorem dL_law_623 : decode cL_law 623 = .ok (.iaload, 1) := by decide +kernel
theorem dL_law_624 : decode cL_law 624 = .ok (.invokevirtual 70, 3) := by decide +kernel
theorem dL_law_627 : decode cL_law 627 = .ok (.aload_n 2, 1) := by decide +kernel
theorem dL_law_628 : decode cL_law 628 = .ok (.aload_n 0, 1) := by decide +kernel
theorem dL_law_629 : decode cL_law 629 = .ok (.iload_n 3, 1) := by decide +kernel
theorem dL_law_630 : decode cL_law 630 = .ok (.iconst 1, 1) := by decide +kernel
theorem dL_law_631 : decode cL_law 631 = .ok (.iadd, 1) := by decide +kernel
theorem dL_law_632 : decode cL_law 632 = .ok (.iaload, 1) := by decide +kernel
theorem dL_law_633 : decode cL_law 633 = .ok (.aload_n 0, 1) := by decide +kernel
theorem dL_law_634 : decode cL_law 634 = .ok (.iload_n 3, 1) := by decide +kernel
theorem dL_law_635 : decode cL_law 635 = .ok (.iconst 2, 1) := by decide +kernel
theorem dL_law_636 : decode cL_law 636 = .ok (.iadd, 1) := by decide +kernel
theorem dL_law_637 : decode cL_law 637 = .ok (.iaload, 1) := by decide +kernel
theorem dL_law_638 : decode cL_law 638 = .ok (.invokevirtual 73, 3) := by decide +kernel
theorem dL_law_641 : decode cL_law 641 = .ok (.if_icmp .eq 300, 3) := by decide +kernel
theorem dL_law_644 : decode cL_law 644 = .ok (.iconst 0, 1) := by decide +kernel
theorem dL_law_645 : decode cL_law 645 = .ok (.ireturn, 1) := by decide +kernel
theorem dL_law_646 : decode cL_law 646 = .ok (.aload_n 1, 1) := by decide +kernel
theorem dL_law_647 : decode cL_law 647 = .ok (.aload_n 0, 1) := by decide +kernel
theorem dL_law_648 : decode cL_law 648 = .ok (.iload_n 3, 1) := by decide +kernel
theorem dL_law_649 : decode cL_law 649 = .ok (.iconst 1, 1) := by decide +kernel
theorem dL_law_650 : decode cL_law 650 = .ok (.iadd, 1) := by decide +kernel
theorem dL_law_651 : decode cL_law 651 = .ok (.iaload, 1) := by decide +kernel
theorem dL_law_652 : decode cL_law 652 = .ok (.invokevirtual 74, 3) := by decide +kernel
theorem dL_law_655 : decode cL_law 655 = .ok (.aload_n 2, 1) := by decide +kernel
theorem dL_law_656 : decode cL_law 656 = .ok (.aload_n 0, 1) := by decide +kernel
theorem dL_law_657 : decode cL_law 657 = .ok (.iload_n 3, 1) := by decide +kernel
theorem dL_law_658 : decode cL_law 658 = .ok (.iconst 1, 1) := by decide +kernel
theorem dL_law_659 : decode cL_law 659 = .ok (.iadd, 1) := by decide +kernel
theorem dL_law_660 : decode cL_law 660 = .ok (.iaload, 1) := by decide +kernel
theorem dL_law_661 : decode cL_law 661 = .ok (.invokevirtual 77, 3) := by decide +kernel
theorem dL_law_664 : decode cL_law 664 = .ok (.if_icmp .eq 277, 3) := by decide +kernel
theorem dL_law_667 : decode cL_law 667 = .ok (.iconst 0, 1) := by decide +kernel
theorem dL_law_668 : decode cL_law 668 = .ok (.ireturn, 1) := by decide +kernel
theorem dL_law_669 : decode cL_law 669 = .ok (.aload_n 1, 1) := by decide +kernel
theorem dL_law_670 : decode cL_law 670 = .ok (.aload_n 0, 1) := by decide +kernel
theorem dL_law_671 : decode cL_law 671 = .ok (.iload_n 3, 1) := by decide +kernel
theorem dL_law_672 : decode cL_law 672 = .ok (.iconst 1, 1) := by decide +kernel
theorem dL_law_673 : decode cL_law 673 = .ok (.iadd, 1) := by decide +kernel
theorem dL_law_674 : decode cL_law 674 = .ok (.iaload, 1) := by decide +kernel
theorem dL_law_675 : decode cL_law 675 = .ok (.aload_n 0, 1) := by decide +kernel
theorem dL_law_676 : decode cL_law 676 = .ok (.iload_n 3, 1) := by decide +kernel
theorem dL_law_677 : decode cL_law 677 = .ok (.iconst 2, 1) := by decide +kernel
theorem dL_law_678 : decode cL_law 678 = .ok (.iadd, 1) := by decide +kernel
theorem dL_law_679 : decode cL_law 679 = .ok (.iaload, 1) := by decide +kernel
theorem dL_law_680 : decode cL_law 680 = .ok (.invokevirtual 78, 3) := by decide +kernel
theorem dL_law_683 : decode cL_law 683 = .ok (.aload_n 2, 1) := by decide +kernel
theorem dL_law_684 : decode cL_law 684 = .ok (.aload_n 0, 1) := by decide +kernel
theorem dL_law_685 : decode cL_law 685 = .ok (.iload_n 3, 1) := by decide +kernel
theorem dL_law_686 : decode cL_law 686 = .ok (.iconst 1, 1) := by decide +kernel
theorem dL_law_687 : decode cL_law 687 = .ok (.iadd, 1) := by decide +kernel
theorem dL_law_688 : decode cL_law 688 = .ok (.iaload, 1) := by decide +kernel
theorem dL_law_689 : decode cL_law 689 = .ok (.aload_n 0, 1) := by decide +kernel
theorem dL_law_690 : decode cL_law 690 = .ok (.iload_n 3, 1) := by decide +kernel
theorem dL_law_691 : decode cL_law 691 = .ok (.iconst 2, 1) := by decide +kernel
theorem dL_law_692 : decode cL_law 692 = .ok (.iadd, 1) := by decide +kernel
theorem dL_law_693 : decode cL_law 693 = .ok (.iaload, 1) := by decide +kernel
theorem dL_law_694 : decode cL_law 694 = .ok (.invokevirtual 82, 3) := by decide +kernel
theorem dL_law_697 : decode cL_law 697 = .ok (.lcmp, 1) := by decide +kernel
theorem dL_law_698 : decode cL_law 698 = .ok (.ifCond .eq 243, 3) := by decide +kernel
theorem dL_law_701 : decode cL_law 701 = .ok (.iconst 0, 1) := by decide +kernel
theorem dL_law_702 : decode cL_law 702 = .ok (.ireturn, 1) := by decide +kernel
theorem dL_law_703 : decode cL_law 703 = .ok (.aload_n 1, 1) := by decide +kernel
theorem dL_law_704 : decode cL_law 704 = .ok (.aload_n 0, 1) := by decide +kernel
theorem dL_law_705 : decode cL_law 705 = .ok (.iload_n 3, 1) := by decide +kernel
theorem dL_law_706 : decode cL_law 706 = .ok (.iconst 1, 1) := by decide +kernel
theorem dL_law_707 : decode cL_law 707 = .ok (.iadd, 1) := by decide +kernel
theorem dL_law_708 : decode cL_law 708 = .ok (.iaload, 1) := by decide +kernel
theorem dL_law_709 : decode cL_law 709 = .ok (.aload_n 0, 1) := by decide +kernel
theorem dL_law_710 : decode cL_law 710 = .ok (.iload_n 3, 1) := by decide +kernel
theorem dL_law_711 : decode cL_law 711 = .ok (.iconst 2, 1) := by decide +kernel
theorem dL_law_712 : decode cL_law 712 = .ok (.iadd, 1) := by decide +kernel
theorem dL_law_713 : decode cL_law 713 = .ok (.iaload, 1) := by decide +kernel
theorem dL_law_714 : decode cL_law 714 = .ok (.invokevirtual 83, 3) := by decide +kernel
theorem dL_law_717 : decode cL_law 717 = .ok (.aload_n 2, 1) := by decide +kernel
theorem dL_law_718 : decode cL_law 718 = .ok (.aload_n 0, 1) := by decide +kernel
theorem dL_law_719 : decode cL_law 719 = .ok (.iload_n 3, 1) := by decide +kernel
theorem dL_law_720 : decode cL_law 720 = .ok (.iconst 1, 1) := by decide +kernel
theorem dL_law_721 : decode cL_law 721 = .ok (.iadd, 1) := by decide +kernel
theorem dL_law_722 : decode cL_law 722 = .ok (.iaload, 1) := by decide +kernel
theorem dL_law_723 : decode cL_law 723 = .ok (.aload_n 0, 1) := by decide +kernel
theorem dL_law_724 : decode cL_law 724 = .ok (.iload_n 3, 1) := by decide +kernel
theorem dL_law_725 : decode cL_law 725 = .ok (.iconst 2, 1) := by decide +kernel
theorem dL_law_726 : decode cL_law 726 = .ok (.iadd, 1) := by decide +kernel
theorem dL_law_727 : decode cL_law 727 = .ok (.iaload, 1) := by decide +kernel
theorem dL_law_728 : decode cL_law 728 = .ok (.invokevirtual 86, 3) := by decide +kernel
theorem dL_law_731 : decode cL_law 731 = .ok (.if_icmp .eq 210, 3) := by decide +kernel
theorem dL_law_734 : decode cL_law 734 = .ok (.iconst 0, 1) := by decide +kernel
theorem dL_law_735 : decode cL_law 735 = .ok (.ireturn, 1) := by decide +kernel
theorem dL_law_736 : decode cL_law 736 = .ok (.aload_n 1, 1) := by decide +kernel
theorem dL_law_737 : decode cL_law 737 = .ok (.aload_n 0, 1) := by decide +kernel
theorem dL_law_738 : decode cL_law 738 = .ok (.iload_n 3, 1) := by decide +kernel
theorem dL_law_739 : decode cL_law 739 = .ok (.iconst 1, 1) := by decide +kernel
theorem dL_law_740 : decode cL_law 740 = .ok (.iadd, 1) := by decide +kernel
theorem dL_law_741 : decode cL_law 741 = .ok (.iaload, 1) := by decide +kernel
theorem dL_law_742 : decode cL_law 742 = .ok (.aload_n 0, 1) := by decide +kernel
theorem dL_law_743 : decode cL_law 743 = .ok (.iload_n 3, 1) := by decide +kernel
theorem dL_law_744 : decode cL_law 744 = .ok (.iconst 2, 1) := by decide +kernel
theorem dL_law_745 : decode cL_law 745 = .ok (.iadd, 1) := by decide +kernel
theorem dL_law_746 : decode cL_law 746 = .ok (.iaload, 1) := by decide +kernel
theorem dL_law_747 : decode cL_law 747 = .ok (.invokevirtual 87, 3) := by decide +kernel
theorem dL_law_750 : decode cL_law 750 = .ok (.aload_n 2, 1) := by decide +kernel
theorem dL_law_751 : decode cL_law 751 = .ok (.aload_n 0, 1) := by decide +kernel
theorem dL_law_752 : decode cL_law 752 = .ok (.iload_n 3, 1) := by decide +kernel
theorem dL_law_753 : decode cL_law 753 = .ok (.iconst 1, 1) := by decide +kernel
theorem dL_law_754 : decode cL_law 754 = .ok (.iadd, 1) := by decide +kernel
theorem dL_law_755 : decode cL_law 755 = .ok (.iaload, 1) := by decide +kernel
theorem dL_law_756 : decode cL_law 756 = .ok (.aload_n 0, 1) := by decide +kernel
theorem dL_law_757 : decode cL_law 757 = .ok (.iload_n 3, 1) := by decide +kernel
theorem dL_law_758 : decode cL_law 758 = .ok (.iconst 2, 1) := by decide +kernel
theorem dL_law_759 : decode cL_law 759 = .ok (.iadd, 1) := by decide +kernel
theorem dL_law_760 : decode cL_law 760 = .ok (.iaload, 1) := by decide +kernel
theorem dL_law_761 : decode cL_law 761 = .ok (.invokevirtual 90, 3) := by decide +kernel
theorem dL_law_764 : decode cL_law 764 = .ok (.if_icmp .eq 177, 3) := by decide +kernel
theorem dL_law_767 : decode cL_law 767 = .ok (.iconst 0, 1) := by decide +kernel
theorem dL_law_768 : decode cL_law 768 = .ok (.ireturn, 1) := by decide +kernel
theorem dL_law_769 : decode cL_law 769 = .ok (.aload_n 1, 1) := by decide +kernel
theorem dL_law_770 : decode cL_law 770 = .ok (.invokevirtual 91, 3) := by decide +kernel
theorem dL_law_773 : decode cL_law 773 = .ok (.aload_n 2, 1) := by decide +kernel
theorem dL_law_774 : decode cL_law 774 = .ok (.invokevirtual 95, 3) := by decide +kernel
theorem dL_law_777 : decode cL_law 777 = .ok (.lcmp, 1) := by decide +kernel
theorem dL_law_778 : decode cL_law 778 = .ok (.ifCond .eq 163, 3) := by decide +kernel
theorem dL_law_781 : decode cL_law 781 = .ok (.iconst 0, 1) := by decide +kernel
theorem dL_law_782 : decode cL_law 782 = .ok (.ireturn, 1) := by decide +kernel
theorem dL_law_783 : decode cL_law 783 = .ok (.aload_n 1, 1) := by decide +kernel
theorem dL_law_784 : decode cL_law 784 = .ok (.aload_n 0, 1) := by decide +kernel
theorem dL_law_785 : decode cL_law 785 = .ok (.iload_n 3, 1) := by decide +kernel
theorem dL_law_786 : decode cL_law 786 = .ok (.iconst 1, 1) := by decide +kernel
theorem dL_law_787 : decode cL_law 787 = .ok (.iadd, 1) := by decide +kernel
theorem dL_law_788 : decode cL_law 788 = .ok (.iaload, 1) := by decide +kernel
theorem dL_law_789 : decode cL_law 789 = .ok (.invokevirtual 96, 3) := by decide +kernel
theorem dL_law_792 : decode cL_law 792 = .ok (.aload_n 2, 1) := by decide +kernel
theorem dL_law_793 : decode cL_law 793 = .ok (.aload_n 0, 1) := by decide +kernel
theorem dL_law_794 : decode cL_law 794 = .ok (.iload_n 3, 1) := by decide +kernel
theorem dL_law_795 : decode cL_law 795 = .ok (.iconst 1, 1) := by decide +kernel
theorem dL_law_796 : decode cL_law 796 = .ok (.iadd, 1) := by decide +kernel
theorem dL_law_797 : decode cL_law 797 = .ok (.iaload, 1) := by decide +kernel
theorem dL_law_798 : decode cL_law 798 = .ok (.invokevirtual 100, 3) := by decide +kernel
theorem dL_law_801 : decode cL_law 801 = .ok (.lcmp, 1) := by decide +kernel
theorem dL_law_802 : decode cL_law 802 = .ok (.ifCond .eq 139, 3) := by decide +kernel
theorem dL_law_805 : decode cL_law 805 = .ok (.iconst 0, 1) := by decide +kernel
theorem dL_law_806 : decode cL_law 806 = .ok (.ireturn, 1) := by decide +kernel
theorem dL_law_807 : decode cL_law 807 = .ok (.aload_n 1, 1) := by decide +kernel
theorem dL_law_808 : decode cL_law 808 = .ok (.aload_n 0, 1) := by decide +kernel
theorem dL_law_809 : decode cL_law 809 = .ok (.iload_n 3, 1) := by decide +kernel
theorem dL_law_810 : decode cL_law 810 = .ok (.iconst 1, 1) := by decide +kernel
theorem dL_law_811 : decode cL_law 811 = .ok (.iadd, 1) := by decide +kernel
theorem dL_law_812 : decode cL_law 812 = .ok (.iaload, 1) := by decide +kernel
theorem dL_law_813 : decode cL_law 813 = .ok (.invokevirtual 101, 3) := by decide +kernel
theorem dL_law_816 : decode cL_law 816 = .ok (.aload_n 2, 1) := by decide +kernel
theorem dL_law_817 : decode cL_law 817 = .ok (.aload_n 0, 1) := by decide +kernel
theorem dL_law_818 : decode cL_law 818 = .ok (.iload_n 3, 1) := by decide +kernel
theorem dL_law_819 : decode cL_law 819 = .ok (.iconst 1, 1) := by decide +kernel
theorem dL_law_820 : decode cL_law 820 = .ok (.iadd, 1) := by decide +kernel
theorem dL_law_821 : decode cL_law 821 = .ok (.iaload, 1) := by decide +kernel
theorem dL_law_822 : decode cL_law 822 = .ok (.invokevirtual 104, 3) := by decide +kernel
theorem dL_law_825 : decode cL_law 825 = .ok (.lcmp, 1) := by decide +kernel
theorem dL_law_826 : decode cL_law 826 = .ok (.ifCond .eq 115, 3) := by decide +kernel
theorem dL_law_829 : decode cL_law 829 = .ok (.iconst 0, 1) := by decide +kernel
theorem dL_law_830 : decode cL_law 830 = .ok (.ireturn, 1) := by decide +kernel
theorem dL_law_831 : decode cL_law 831 = .ok (.aload_n 1, 1) := by decide +kernel
theorem dL_law_832 : decode cL_law 832 = .ok (.aload_n 0, 1) := by decide +kernel
theorem dL_law_833 : decode cL_law 833 = .ok (.iload_n 3, 1) := by decide +kernel
theorem dL_law_834 : decode cL_law 834 = .ok (.iconst 1, 1) := by decide +kernel
theorem dL_law_835 : decode cL_law 835 = .ok (.iadd, 1) := by decide +kernel
theorem dL_law_836 : decode cL_law 836 = .ok (.iaload, 1) := by decide +kernel
theorem dL_law_837 : decode cL_law 837 = .ok (.aload_n 0, 1) := by decide +kernel
theorem dL_law_838 : decode cL_law 838 = .ok (.iload_n 3, 1) := by decide +kernel
theorem dL_law_839 : decode cL_law 839 = .ok (.iconst 2, 1) := by decide +kernel
theorem dL_law_840 : decode cL_law 840 = .ok (.iadd, 1) := by decide +kernel
theorem dL_law_841 : decode cL_law 841 = .ok (.iaload, 1) := by decide +kernel
theorem dL_law_842 : decode cL_law 842 = .ok (.aload_n 0, 1) := by decide +kernel
theorem dL_law_843 : decode cL_law 843 = .ok (.iload_n 3, 1) := by decide +kernel
theorem dL_law_844 : decode cL_law 844 = .ok (.iconst 3, 1) := by decide +kernel
theorem dL_law_845 : decode cL_law 845 = .ok (.iadd, 1) := by decide +kernel
theorem dL_law_846 : decode cL_law 846 = .ok (.iaload, 1) := by decide +kernel
theorem dL_law_847 : decode cL_law 847 = .ok (.invokevirtual 105, 3) := by decide +kernel
theorem dL_law_850 : decode cL_law 850 = .ok (.aload_n 2, 1) := by decide +kernel
theorem dL_law_851 : decode cL_law 851 = .ok (.aload_n 0, 1) := by decide +kernel
theorem dL_law_852 : decode cL_law 852 = .ok (.iload_n 3, 1) := by decide +kernel
theorem dL_law_853 : decode cL_law 853 = .ok (.iconst 1, 1) := by decide +kernel
theorem dL_law_854 : decode cL_law 854 = .ok (.iadd, 1) := by decide +kernel
theorem dL_law_855 : decode cL_law 855 = .ok (.iaload, 1) := by decide +kernel
theorem dL_law_856 : decode cL_law 856 = .ok (.aload_n 0, 1) := by decide +kernel
theorem dL_law_857 : decode cL_law 857 = .ok (.iload_n 3, 1) := by decide +kernel
theorem dL_law_858 : decode cL_law 858 = .ok (.iconst 2, 1) := by decide +kernel
theorem dL_law_859 : decode cL_law 859 = .ok (.iadd, 1) := by decide +kernel
theorem dL_law_860 : decode cL_law 860 = .ok (.iaload, 1) := by decide +kernel
theorem dL_law_861 : decode cL_law 861 = .ok (.aload_n 0, 1) := by decide +kernel
theorem dL_law_862 : decode cL_law 862 = .ok (.iload_n 3, 1) := by decide +kernel
theorem dL_law_863 : decode cL_law 863 = .ok (.iconst 3, 1) := by decide +kernel
theorem dL_law_864 : decode cL_law 864 = .ok (.iadd, 1) := by decide +kernel
theorem dL_law_865 : decode cL_law 865 = .ok (.iaload, 1) := by decide +kernel
theorem dL_law_866 : decode cL_law 866 = .ok (.invokevirtual 109, 3) := by decide +kernel
theorem dL_law_869 : decode cL_law 869 = .ok (.lcmp, 1) := by decide +kernel
theorem dL_law_870 : decode cL_law 870 = .ok (.ifCond .eq 71, 3) := by decide +kernel
theorem dL_law_873 : decode cL_law 873 = .ok (.iconst 0, 1) := by decide +kernel
theorem dL_law_874 : decode cL_law 874 = .ok (.ireturn, 1) := by decide +kernel
theorem dL_law_875 : decode cL_law 875 = .ok (.aload_n 1, 1) := by decide +kernel
theorem dL_law_876 : decode cL_law 876 = .ok (.aload_n 0, 1) := by decide +kernel
theorem dL_law_877 : decode cL_law 877 = .ok (.iload_n 3, 1) := by decide +kernel
theorem dL_law_878 : decode cL_law 878 = .ok (.iconst 1, 1) := by decide +kernel
theorem dL_law_879 : decode cL_law 879 = .ok (.iadd, 1) := by decide +kernel
theorem dL_law_880 : decode cL_law 880 = .ok (.iaload, 1) := by decide +kernel
theorem dL_law_881 : decode cL_law 881 = .ok (.aload_n 0, 1) := by decide +kernel
theorem dL_law_882 : decode cL_law 882 = .ok (.iload_n 3, 1) := by decide +kernel
theorem dL_law_883 : decode cL_law 883 = .ok (.iconst 2, 1) := by decide +kernel
theorem dL_law_884 : decode cL_law 884 = .ok (.iadd, 1) := by decide +kernel
theorem dL_law_885 : decode cL_law 885 = .ok (.iaload, 1) := by decide +kernel
theorem dL_law_886 : decode cL_law 886 = .ok (.aload_n 0, 1) := by decide +kernel
theorem dL_law_887 : decode cL_law 887 = .ok (.iload_n 3, 1) := by decide +kernel
theorem dL_law_888 : decode cL_law 888 = .ok (.iconst 3, 1) := by decide +kernel
theorem dL_law_889 : decode cL_law 889 = .ok (.iadd, 1) := by decide +kernel
theorem dL_law_890 : decode cL_law 890 = .ok (.iaload, 1) := by decide +kernel
theorem dL_law_891 : decode cL_law 891 = .ok (.invokevirtual 110, 3) := by decide +kernel
theorem dL_law_894 : decode cL_law 894 = .ok (.aload_n 2, 1) := by decide +kernel
theorem dL_law_895 : decode cL_law 895 = .ok (.aload_n 0, 1) := by decide +kernel
theorem dL_law_896 : decode cL_law 896 = .ok (.iload_n 3, 1) := by decide +kernel
theorem dL_law_897 : decode cL_law 897 = .ok (.iconst 1, 1) := by decide +kernel
theorem dL_law_898 : decode cL_law 898 = .ok (.iadd, 1) := by decide +kernel
theorem dL_law_899 : decode cL_law 899 = .ok (.iaload, 1) := by decide +kernel
theorem dL_law_900 : decode cL_law 900 = .ok (.aload_n 0, 1) := by decide +kernel
theorem dL_law_901 : decode cL_law 901 = .ok (.iload_n 3, 1) := by decide +kernel
theorem dL_law_902 : decode cL_law 902 = .ok (.iconst 2, 1) := by decide +kernel
theorem dL_law_903 : decode cL_law 903 = .ok (.iadd, 1) := by decide +kernel
theorem dL_law_904 : decode cL_law 904 = .ok (.iaload, 1) := by decide +kernel
theorem dL_law_905 : decode cL_law 905 = .ok (.aload_n 0, 1) := by decide +kernel
theorem dL_law_906 : decode cL_law 906 = .ok (.iload_n 3, 1) := by decide +kernel
theorem dL_law_907 : decode cL_law 907 = .ok (.iconst 3, 1) := by decide +kernel
theorem dL_law_908 : decode cL_law 908 = .ok (.iadd, 1) := by decide +kernel
theorem dL_law_909 : decode cL_law 909 = .ok (.iaload, 1) := by decide +kernel
theorem dL_law_910 : decode cL_law 910 = .ok (.invokevirtual 113, 3) := by decide +kernel
theorem dL_law_913 : decode cL_law 913 = .ok (.if_icmp .eq 28, 3) := by decide +kernel
theorem dL_law_916 : decode cL_law 916 = .ok (.iconst 0, 1) := by decide +kernel
theorem dL_law_917 : decode cL_law 917 = .ok (.ireturn, 1) := by decide +kernel
theorem dL_law_918 : decode cL_law 918 = .ok (.aload_n 1, 1) := by decide +kernel
theorem dL_law_919 : decode cL_law 919 = .ok (.aload_n 0, 1) := by decide +kernel
theorem dL_law_920 : decode cL_law 920 = .ok (.iload_n 3, 1) := by decide +kernel
theorem dL_law_921 : decode cL_law 921 = .ok (.iconst 1, 1) := by decide +kernel
theorem dL_law_922 : decode cL_law 922 = .ok (.iadd, 1) := by decide +kernel
theorem dL_law_923 : decode cL_law 923 = .ok (.iaload, 1) := by decide +kernel
theorem dL_law_924 : decode cL_law 924 = .ok (.invokevirtual 114, 3) := by decide +kernel
theorem dL_law_927 : decode cL_law 927 = .ok (.aload_n 2, 1) := by decide +kernel
theorem dL_law_928 : decode cL_law 928 = .ok (.aload_n 0, 1) := by decide +kernel
theorem dL_law_929 : decode cL_law 929 = .ok (.iload_n 3, 1) := by decide +kernel
theorem dL_law_930 : decode cL_law 930 = .ok (.iconst 1, 1) := by decide +kernel
theorem dL_law_931 : decode cL_law 931 = .ok (.iadd, 1) := by decide +kernel
theorem dL_law_932 : decode cL_law 932 = .ok (.iaload, 1) := by decide +kernel
theorem dL_law_933 : decode cL_law 933 = .ok (.invokevirtual 117, 3) := by decide +kernel
theorem dL_law_936 : decode cL_law 936 = .ok (.if_icmp .eq 5, 3) := by decide +kernel
theorem dL_law_939 : decode cL_law 939 = .ok (.iconst 0, 1) := by decide +kernel
theorem dL_law_940 : decode cL_law 940 = .ok (.ireturn, 1) := by decide +kernel
theorem dL_law_941 : decode cL_law 941 = .ok (.iinc 3 6, 3) := by decide +kernel
theorem dL_law_944 : decode cL_law 944 = .ok (.goto (-926), 3) := by decide +kernel
theorem dL_law_947 : decode cL_law 947 = .ok (.iconst 1, 1) := by decide +kernel
theorem dL_law_948 : decode cL_law 948 = .ok (.ireturn, 1) := by decide +kernel
end
section
/-! worlds of this claim, and small rows about them -/
abbrev tz (cI cII : ClassId) : List (ClassId × FieldType) := [(cI, .int), (cII, .array .int)]
def z_in (ws : va_W) : Nat → Prop := fun q => ∃ (k : Nat) (e : va_E), ws[k]? = some (q, e)
def zPs (av : List Value) : Array Value → State → Prop := va_Pc av (fun _ => True)
def zPc (av : List Value) (D : va_G) (cI cII : ClassId) (ws : va_W) : Array Value → State → Prop := va_Pc av (fun U => va_P D vwCl ws U.heap ∧ va_K D vwCl (tz cI cII) U)
def zPm (av : List Value) (D : va_G) (cI cII : ClassId) (ws : va_W) : Array Value → State → Prop := va_Pc av (fun U => va_P D vwCl ws U.heap ∧ va_K D vwCl (tz cI cII) U ∧ va_D (fun _ => True) ws)
theorem zPs_blind {av : List Value} : FrameBlind (zPs av) := fun a U g mk q => q
theorem zPc_blind {av : List Value} {D : va_G} {cI cII : ClassId} {ws : va_W} : FrameBlind (zPc av D cI cII ws) := fun a U g mk q => by
  obtain ⟨q0, qP, qK⟩ := q
  exact ⟨q0, qP, va_K.moved (u := U) (U := U.calling g mk a) (Vm.Alike.refl U.vm) qK⟩
theorem zPm_blind {av : List Value} {D : va_G} {cI cII : ClassId} {ws : va_W} : FrameBlind (zPm av D cI cII ws) := fun a U g mk q => by
  obtain ⟨q0, qP, qK, qD⟩ := q
  exact ⟨q0, qP, va_K.moved (u := U) (U := U.calling g mk a) (Vm.Alike.refl U.vm) qK, qD⟩
theorem z_preS {s : State} {H : Heap} {As : List Value} : PreS s H (zPs As) As := ⟨zPs_blind, fun U hU hW => ⟨rfl, trivial⟩⟩
theorem z_preV {s : State} {H : Heap} {D : va_G} {cI cII : ClassId} {ws : va_W} {b ci : Nat} {fs : List Value} {C : String} {T : u_T} {N : Nat} {As : List Value} (hK : va_K D vwCl (tz cI cII) s) (hP : va_P D vwCl ws H) (hc : vwCl[ci]? = some (C, T, N)) (he : ws[0]? = some (b, .inr (ci, fs))) : PreV s H C b (zPc (.ref b :: As) D cI cII ws) As :=
  ⟨zPc_blind, va_recv hK hP hc he, fun U hU hW => ⟨rfl, by rw [hU]; exact hP, va_K.moved hW.alike hK⟩⟩
theorem z_preVm {s : State} {H : Heap} {D : va_G} {cI cII : ClassId} {ws : va_W} {b ci : Nat} {fs : List Value} {C : String} {T : u_T} {N : Nat} {As : List Value} {A : Nat → Prop} (hK : va_K D vwCl (tz cI cII) s) (hP : va_P D vwCl ws H) (hD : va_D A ws) (hc : vwCl[ci]? = some (C, T, N)) (he : ws[0]? = some (b, .inr (ci, fs))) : PreV s H C b (zPm (.ref b :: As) D cI cII ws) As :=
  ⟨zPm_blind, va_recv hK hP hc he, fun U hU hW => ⟨rfl, by rw [hU]; exact hP, va_K.moved hW.alike hK, hD.weaken (fun _ _ _ _ => trivial)⟩⟩
theorem z_Dself {A : Nat → Prop} {ws : va_W} (h : va_D A ws) : va_D (z_in ws) ws := ⟨h.1, fun k q hk => ⟨k, q.2, hk⟩⟩
theorem z_app_l {D : va_G} {cl : List vw_C} {a b : va_W} {H : Heap} (h : va_P D cl (a ++ b) H) : va_P D cl a H := fun k q hk => h k q (by rw [List.getElem?_append_left (List.getElem?_eq_some_iff.mp hk).1]; exact hk)
theorem z_app_r {D : va_G} {cl : List vw_C} {a b : va_W} {H : Heap} (h : va_P D cl (a ++ b) H) : va_P D cl b H := fun k q hk => h (a.length + k) q (by rw [List.getElem?_append_right (by omega), Nat.add_sub_cancel_left]; exact hk)
theorem z_mid {D : va_G} {cl : List vw_C} {a b c : va_W} {H : Heap} (h : va_P D cl (a ++ (b ++ c)) H) : va_P D cl b H := z_app_l (z_app_r h)
theorem z_Dapp_l {A : Nat → Prop} {a b : va_W} (h : va_D A (a ++ b)) : va_D A a := by
  refine ⟨fun i j p q hi hj e => ?_, fun k q hk => ?_⟩
  · exact h.1 i j p q (by rw [List.getElem?_append_left (List.getElem?_eq_some_iff.mp hi).1]; exact hi) (by rw [List.getElem?_append_left (List.getElem?_eq_some_iff.mp hj).1]; exact hj) e
  · exact h.2 k q (by rw [List.getElem?_append_left (List.getElem?_eq_some_iff.mp hk).1]; exact hk)
theorem z_Dapp_r {A : Nat → Prop} {a b : va_W} (h : va_D A (a ++ b)) : va_D A b := by
  have e0 : ∀ k : Nat, (a ++ b)[a.length + k]? = b[k]? := fun k => by rw [List.getElem?_append_right (by omega), Nat.add_sub_cancel_left]
  refine ⟨fun i j p q hi hj e => ?_, fun k q hk => ?_⟩
  · have := h.1 (a.length + i) (a.length + j) p q (by rw [e0]; exact hi) (by rw [e0]; exact hj) e
    omega
  · exact h.2 (a.length + k) q (by rw [e0]; exact hk)
theorem z_Dmid {A : Nat → Prop} {a b c : va_W} (h : va_D A (a ++ (b ++ c))) : va_D A b := z_Dapp_l (z_Dapp_r h)
theorem z_apart {A : Nat → Prop} {a b : va_W} (hD : va_D A (a ++ b)) {k : Nat} {q : Nat × va_E} (hk : a[k]? = some q) : ¬ z_in b q.1 := by
  rintro ⟨j, e, hj⟩
  have hl := (List.getElem?_eq_some_iff.mp hk).1
  have := hD.1 k (a.length + j) q (q.1, e) (by rw [List.getElem?_append_left hl]; exact hk) (by rw [List.getElem?_append_right (by omega), Nat.add_sub_cancel_left]; exact hj) rfl
  omega
theorem z_apart' {A : Nat → Prop} {a b : va_W} (hD : va_D A (a ++ b)) {k : Nat} {q : Nat × va_E} (hk : b[k]? = some q) : ¬ z_in a q.1 := by
  rintro ⟨j, e, hj⟩
  have hl := (List.getElem?_eq_some_iff.mp hj).1
  have := hD.1 j (a.length + k) (q.1, e) q (by rw [List.getElem?_append_left hl]; exact hj) (by rw [List.getElem?_append_right (by omega), Nat.add_sub_cancel_left]; exact hk) rfl
  omega
theorem z_kept {D : va_G} {cl : List vw_C} {ws : va_W} {H H1 : Heap} {A : Nat → Prop} (hP : va_P D cl ws H) (hk : ∀ q : Nat, q < H.size → ¬ A q → H1[q]? = H[q]?) (hA : ∀ (k : Nat) (q : Nat × va_E), ws[k]? = some q → ¬ A q.1) : va_P D cl ws H1 := hP.kept (fun k q hk' => hk q.1 (hP k q hk').lt (hA k q hk'))
theorem z_sub {A : Nat → Prop} {b : va_W} (hD : va_D A b) : ∀ q, z_in b q → A q := by
  rintro q ⟨k, e, hk⟩
  exact hD.2 k _ hk
theorem z_join {D : va_G} {cl : List vw_C} {A : Nat → Prop} {a b b' c : va_W} {H H1 : Heap} (hP : va_P D cl (a ++ (b ++ c)) H) (hD : va_D A (a ++ (b ++ c))) (hk : ∀ q : Nat, q < H.size → ¬ z_in b q → H1[q]? = H[q]?) (hP1 : va_P D cl b' H1) : va_P D cl (a ++ (b' ++ c)) H1 := by
  have h1 : va_P D cl a H1 := z_kept (z_app_l hP) hk (fun k q hq => by
    have := z_apart hD hq
    rintro ⟨j, e, hj⟩
    exact this ⟨j, e, by rw [List.getElem?_append_left (List.getElem?_eq_some_iff.mp hj).1]; exact hj⟩)
  have h2 : va_P D cl c H1 := z_kept (z_app_r (z_app_r hP)) hk (fun k q hq => z_apart' (z_Dapp_r hD) hq)
  exact h1.app (hP1.app h2)
theorem z_Dmap {A : Nat → Prop} {ws ws' : va_W} (h : va_D A ws) (he : ws'.map Prod.fst = ws.map Prod.fst) : va_D A ws' := by
  have e0 : ∀ k : Nat, (ws'[k]?).map Prod.fst = (ws[k]?).map Prod.fst := fun k => by rw [← List.getElem?_map, ← List.getElem?_map, he]
  have g : ∀ (k : Nat) (q : Nat × va_E), ws'[k]? = some q → ∃ q', ws[k]? = some q' ∧ q'.1 = q.1 := fun k q hk => by
    have := e0 k
    rw [hk] at this
    cases hq : ws[k]? with
    | none => rw [hq] at this; cases this
    | some q' => rw [hq] at this; exact ⟨q', rfl, (Option.some.inj this).symm⟩
  refine ⟨fun i j p q hi hj e => ?_, fun k q hk => ?_⟩
  · obtain ⟨p', hp, ep⟩ := g i p hi
    obtain ⟨q', hq, eq⟩ := g j q hj
    exact h.1 i j p' q' hp hq (by rw [ep, eq, e])
  · obtain ⟨q', hq, eq⟩ := g k q hk
    rw [← eq]
    exact h.2 k q' hq
/-! the worlds -/
abbrev RS : Type := Nat → Nat → Int32
abbrev XS : Type := RS × RS × RS × RS × RS × (Nat → Int32) × Int64
abbrev MS : Type := RS × (Nat → Int32) × Int64
def wR (cI : ClassId) (q : Nat → Nat) (a : RS) : va_W := [(q 0, .inr (3, [.ref (q 1), .ref (q 2), .ref (q 3), .ref (q 4), .ref (q 5), .ref (q 6), .ref (q 7), .int (a 9 0)])), (q 1, .inl (cI, 60, .inl (a 0))), (q 2, .inl (cI, 60, .inl (a 1))), (q 3, .inl (cI, 60, .inl (a 2))), (q 4, .inl (cI, 60, .inl (a 3))), (q 5, .inl (cI, 60, .inl (a 4))), (q 6, .inl (cI, 60, .inl (a 5))), (q 7, .inl (cI, 60, .inl (a 6)))]
def wSg (q : Nat → Nat) (b : Nat) : Nat → Option Nat := fun i => if i < 8 then some (q (b + i)) else none
def wS (cI cII : ClassId) (q : Nat → Nat) (a : RS) : va_W := [(q 0, .inr (4, [.ref (q 1), .ref (q 2), .ref (q 3), .ref (q 4), .ref (q 5), .ref (q 6), .int (a 9 0)])), (q 1, .inl (cI, 8, .inl (a 0))), (q 2, .inl (cI, 8, .inl (a 1))), (q 3, .inl (cI, 8, .inl (a 2))), (q 4, .inl (cI, 8, .inl (a 3))), (q 5, .inl (cII, 8, .inr (.inr (.inr (.inr (wSg q 10)))))), (q 6, .inl (cII, 8, .inr (.inr (.inr (.inr (wSg q 20)))))),
  (q 10, .inl (cI, 8, .inl (a 10))), (q 11, .inl (cI, 8, .inl (a 11))), (q 12, .inl (cI, 8, .inl (a 12))), (q 13, .inl (cI, 8, .inl (a 13))), (q 14, .inl (cI, 8, .inl (a 14))), (q 15, .inl (cI, 8, .inl (a 15))), (q 16, .inl (cI, 8, .inl (a 16))), (q 17, .inl (cI, 8, .inl (a 17))),
  (q 20, .inl (cI, 8, .inl (a 20))), (q 21, .inl (cI, 8, .inl (a 21))), (q 22, .inl (cI, 8, .inl (a 22))), (q 23, .inl (cI, 8, .inl (a 23))), (q 24, .inl (cI, 8, .inl (a 24))), (q 25, .inl (cI, 8, .inl (a 25))), (q 26, .inl (cI, 8, .inl (a 26))), (q 27, .inl (cI, 8, .inl (a 27)))]
def wH (cI : ClassId) (q : Nat → Nat) (a : RS) : va_W := [(q 0, .inr (1, [.ref (q 1), .ref (q 2), .ref (q 3)])), (q 1, .inl (cI, 3, .inl (a 0))), (q 2, .inl (cI, 3, .inl (a 1))), (q 3, .inl (cI, 3, .inl (a 2)))]
def wC (cI : ClassId) (q : Nat → Nat) (a : RS) : va_W := [(q 0, .inr (0, [.ref (q 1), .ref (q 2), .ref (q 3), .ref (q 4), .ref (q 5), .ref (q 6), .int (a 9 0)])), (q 1, .inl (cI, 20, .inl (a 0))), (q 2, .inl (cI, 20, .inl (a 1))), (q 3, .inl (cI, 20, .inl (a 2))), (q 4, .inl (cI, 20, .inl (a 3))), (q 5, .inl (cI, 20, .inl (a 4))), (q 6, .inl (cI, 20, .inl (a 5)))]
def wL (cI : ClassId) (q : Nat → Nat) (a : RS) : va_W := [(q 0, .inr (2, [.ref (q 1), .ref (q 2), .ref (q 3), .int (a 9 0)])), (q 1, .inl (cI, 100, .inl (a 0))), (q 2, .inl (cI, 100, .inl (a 1))), (q 3, .inl (cI, 100, .inl (a 2)))]
def wX (cI cII : ClassId) (q : Nat → Nat → Nat) (u : XS) : va_W := (q 0 0, .inr (5, [.ref (q 1 0), .ref (q 2 0), .ref (q 3 0), .ref (q 4 0), .ref (q 5 0), .int (u.2.2.2.2.2.1 0), .int (u.2.2.2.2.2.1 1), .long u.2.2.2.2.2.2])) :: (wR cI (q 1) u.1 ++ (wS cI cII (q 2) u.2.1 ++ (wH cI (q 3) u.2.2.1 ++ (wC cI (q 4) u.2.2.2.1 ++ wL cI (q 5) u.2.2.2.2.1))))
def wM (cI : ClassId) (q : Nat → Nat) (m : MS) : va_W := [(q 0, .inr (6, [.int (m.2.1 0), .int (m.2.1 1), .ref (q 1), .ref (q 2), .ref (q 3), .ref (q 4), .ref (q 5), .ref (q 6), .ref (q 7), .int (m.2.1 2), .ref (q 8), .ref (q 9), .ref (q 10), .ref (q 11), .ref (q 12), .ref (q 13), .ref (q 14), .ref (q 15), .ref (q 16), .int (m.2.1 3), .ref (q 17), .ref (q 18), .ref (q 19), .ref (q 20), .ref (q 21), .ref (q 22), .int (m.2.1 4), .int (m.2.1 5), .ref (q 23), .ref (q 24), .ref (q 25), .long m.2.2, .int (m.2.1 6), .int (m.2.1 7)])), (q 1, .inl (cI, 60, .inl (m.1 0))), (q 2, .inl (cI, 60, .inl (m.1 1))), (q 3, .inl (cI, 60, .inl (m.1 2))), (q 4, .inl (cI, 60, .inl (m.1 3))), (q 5, .inl (cI, 60, .inl (m.1 4))), (q 6, .inl (cI, 60, .inl (m.1 5))), (q 7, .inl (cI, 60, .inl (m.1 6))), (q 8, .inl (cI, 8, .inl (m.1 7))), (q 9, .inl (cI, 8, .inl (m.1 8))), (q 10, .inl (cI, 8, .inl (m.1 9))), (q 11, .inl (cI, 8, .inl (m.1 10))), (q 12, .inl (cI, 64, .inl (m.1 11))), (q 13, .inl (cI, 64, .inl (m.1 12))), (q 14, .inl (cI, 3, .inl (m.1 13))), (q 15, .inl (cI, 3, .inl (m.1 14))), (q 16, .inl (cI, 3, .inl (m.1 15))), (q 17, .inl (cI, 20, .inl (m.1 16))), (q 18, .inl (cI, 20, .inl (m.1 17))), (q 19, .inl (cI, 20, .inl (m.1 18))), (q 20, .inl (cI, 20, .inl (m.1 19))), (q 21, .inl (cI, 20, .inl (m.1 20))), (q 22, .inl (cI, 20, .inl (m.1 21))), (q 23, .inl (cI, 100, .inl (m.1 22))), (q 24, .inl (cI, 100, .inl (m.1 23))), (q 25, .inl (cI, 100, .inl (m.1 24)))]
/-! a component of X's world -/
theorem z_XR {D : va_G} {cI cII : ClassId} {q : Nat → Nat → Nat} {u : XS} {H : Heap} (h : va_P D vwCl (wX cI cII q u) H) : va_P D vwCl (wR cI (q 1) u.1) H := z_mid (a := [_]) (b := wR cI (q 1) u.1) (c := wS cI cII (q 2) u.2.1 ++ (wH cI (q 3) u.2.2.1 ++ (wC cI (q 4) u.2.2.2.1 ++ (wL cI (q 5) u.2.2.2.2.1)))) h
theorem z_XS {D : va_G} {cI cII : ClassId} {q : Nat → Nat → Nat} {u : XS} {H : Heap} (h : va_P D vwCl (wX cI cII q u) H) : va_P D vwCl (wS cI cII (q 2) u.2.1) H := z_mid (a := _ :: wR cI (q 1) u.1) (b := wS cI cII (q 2) u.2.1) (c := wH cI (q 3) u.2.2.1 ++ (wC cI (q 4) u.2.2.2.1 ++ (wL cI (q 5) u.2.2.2.2.1))) h
theorem z_XH {D : va_G} {cI cII : ClassId} {q : Nat → Nat → Nat} {u : XS} {H : Heap} (h : va_P D vwCl (wX cI cII q u) H) : va_P D vwCl (wH cI (q 3) u.2.2.1) H := z_mid (a := _ :: (wR cI (q 1) u.1 ++ wS cI cII (q 2) u.2.1)) (b := wH cI (q 3) u.2.2.1) (c := wC cI (q 4) u.2.2.2.1 ++ (wL cI (q 5) u.2.2.2.2.1)) h
theorem z_XC {D : va_G} {cI cII : ClassId} {q : Nat → Nat → Nat} {u : XS} {H : Heap} (h : va_P D vwCl (wX cI cII q u) H) : va_P D vwCl (wC cI (q 4) u.2.2.2.1) H := z_mid (a := _ :: (wR cI (q 1) u.1 ++ (wS cI cII (q 2) u.2.1 ++ wH cI (q 3) u.2.2.1))) (b := wC cI (q 4) u.2.2.2.1) (c := wL cI (q 5) u.2.2.2.2.1) h
theorem z_XL {D : va_G} {cI cII : ClassId} {q : Nat → Nat → Nat} {u : XS} {H : Heap} (h : va_P D vwCl (wX cI cII q u) H) : va_P D vwCl (wL cI (q 5) u.2.2.2.2.1) H := z_mid (a := _ :: (wR cI (q 1) u.1 ++ (wS cI cII (q 2) u.2.1 ++ (wH cI (q 3) u.2.2.1 ++ wC cI (q 4) u.2.2.2.1)))) (b := wL cI (q 5) u.2.2.2.2.1) (c := []) h
theorem z_DXR {A : Nat → Prop} {cI cII : ClassId} {q : Nat → Nat → Nat} {u : XS} (h : va_D A (wX cI cII q u)) : va_D A (wR cI (q 1) u.1) := z_Dmid (a := [_]) (b := wR cI (q 1) u.1) (c := wS cI cII (q 2) u.2.1 ++ (wH cI (q 3) u.2.2.1 ++ (wC cI (q 4) u.2.2.2.1 ++ (wL cI (q 5) u.2.2.2.2.1)))) h
theorem z_DXS {A : Nat → Prop} {cI cII : ClassId} {q : Nat → Nat → Nat} {u : XS} (h : va_D A (wX cI cII q u)) : va_D A (wS cI cII (q 2) u.2.1) := z_Dmid (a := _ :: wR cI (q 1) u.1) (b := wS cI cII (q 2) u.2.1) (c := wH cI (q 3) u.2.2.1 ++ (wC cI (q 4) u.2.2.2.1 ++ (wL cI (q 5) u.2.2.2.2.1))) h
theorem z_DXH {A : Nat → Prop} {cI cII : ClassId} {q : Nat → Nat → Nat} {u : XS} (h : va_D A (wX cI cII q u)) : va_D A (wH cI (q 3) u.2.2.1) := z_Dmid (a := _ :: (wR cI (q 1) u.1 ++ wS cI cII (q 2) u.2.1)) (b := wH cI (q 3) u.2.2.1) (c := wC cI (q 4) u.2.2.2.1 ++ (wL cI (q 5) u.2.2.2.2.1)) h
theorem z_DXC {A : Nat → Prop} {cI cII : ClassId} {q : Nat → Nat → Nat} {u : XS} (h : va_D A (wX cI cII q u)) : va_D A (wC cI (q 4) u.2.2.2.1) := z_Dmid (a := _ :: (wR cI (q 1) u.1 ++ (wS cI cII (q 2) u.2.1 ++ wH cI (q 3) u.2.2.1))) (b := wC cI (q 4) u.2.2.2.1) (c := wL cI (q 5) u.2.2.2.2.1) h
theorem z_DXL {A : Nat → Prop} {cI cII : ClassId} {q : Nat → Nat → Nat} {u : XS} (h : va_D A (wX cI cII q u)) : va_D A (wL cI (q 5) u.2.2.2.2.1) := z_Dmid (a := _ :: (wR cI (q 1) u.1 ++ (wS cI cII (q 2) u.2.1 ++ (wH cI (q 3) u.2.2.1 ++ wC cI (q 4) u.2.2.2.1)))) (b := wL cI (q 5) u.2.2.2.2.1) (c := []) h
theorem z_jR {D : va_G} {cI cII : ClassId} {q : Nat → Nat → Nat} {u : XS} {a : RS} {A : Nat → Prop} {H H1 : Heap} (hP : va_P D vwCl (wX cI cII q u) H) (hD : va_D A (wX cI cII q u)) (hk : ∀ x : Nat, x < H.size → ¬ z_in (wR cI (q 1) u.1) x → H1[x]? = H[x]?) (hP1 : va_P D vwCl (wR cI (q 1) a) H1) : va_P D vwCl (wX cI cII q (a, u.2)) H1 := z_join (a := [_]) hP hD hk hP1
theorem z_jS {D : va_G} {cI cII : ClassId} {q : Nat → Nat → Nat} {u : XS} {a : RS} {A : Nat → Prop} {H H1 : Heap} (hP : va_P D vwCl (wX cI cII q u) H) (hD : va_D A (wX cI cII q u)) (hk : ∀ x : Nat, x < H.size → ¬ z_in (wS cI cII (q 2) u.2.1) x → H1[x]? = H[x]?) (hP1 : va_P D vwCl (wS cI cII (q 2) a) H1) : va_P D vwCl (wX cI cII q (u.1, a, u.2.2)) H1 := z_join (a := _ :: wR cI (q 1) u.1) hP hD hk hP1
theorem z_jH {D : va_G} {cI cII : ClassId} {q : Nat → Nat → Nat} {u : XS} {a : RS} {A : Nat → Prop} {H H1 : Heap} (hP : va_P D vwCl (wX cI cII q u) H) (hD : va_D A (wX cI cII q u)) (hk : ∀ x : Nat, x < H.size → ¬ z_in (wH cI (q 3) u.2.2.1) x → H1[x]? = H[x]?) (hP1 : va_P D vwCl (wH cI (q 3) a) H1) : va_P D vwCl (wX cI cII q (u.1, u.2.1, a, u.2.2.2)) H1 := z_join (a := _ :: (wR cI (q 1) u.1 ++ wS cI cII (q 2) u.2.1)) hP hD hk hP1
theorem z_jC {D : va_G} {cI cII : ClassId} {q : Nat → Nat → Nat} {u : XS} {a : RS} {A : Nat → Prop} {H H1 : Heap} (hP : va_P D vwCl (wX cI cII q u) H) (hD : va_D A (wX cI cII q u)) (hk : ∀ x : Nat, x < H.size → ¬ z_in (wC cI (q 4) u.2.2.2.1) x → H1[x]? = H[x]?) (hP1 : va_P D vwCl (wC cI (q 4) a) H1) : va_P D vwCl (wX cI cII q (u.1, u.2.1, u.2.2.1, a, u.2.2.2.2)) H1 := z_join (a := _ :: (wR cI (q 1) u.1 ++ (wS cI cII (q 2) u.2.1 ++ wH cI (q 3) u.2.2.1))) hP hD hk hP1
theorem z_jL {D : va_G} {cI cII : ClassId} {q : Nat → Nat → Nat} {u : XS} {a : RS} {A : Nat → Prop} {H H1 : Heap} (hP : va_P D vwCl (wX cI cII q u) H) (hD : va_D A (wX cI cII q u)) (hk : ∀ x : Nat, x < H.size → ¬ z_in (wL cI (q 5) u.2.2.2.2.1) x → H1[x]? = H[x]?) (hP1 : va_P D vwCl (wL cI (q 5) a) H1) : va_P D vwCl (wX cI cII q (u.1, u.2.1, u.2.2.1, u.2.2.2.1, a, u.2.2.2.2.2)) H1 := z_join (a := _ :: (wR cI (q 1) u.1 ++ (wS cI cII (q 2) u.2.1 ++ (wH cI (q 3) u.2.2.1 ++ wC cI (q 4) u.2.2.2.1)))) (c := []) hP hD hk hP1
/-! indexes, rows of the two grids, switches -/
theorem z_lt {i : Int32} {n : Nat} (h : vp_in i n) : i.toNatClampNeg < n := Nat.not_le.mp fun q => h (Or.inr q)
theorem z_row10 {cI cII : ClassId} {q : Nat → Nat} {a : RS} {j : Nat} (hj : j < 8) : (wS cI cII q a)[7 + j]? = some (q (10 + j), .inl (cI, 8, .inl (a (10 + j)))) := by
  rcases (show j = 0 ∨ j = 1 ∨ j = 2 ∨ j = 3 ∨ j = 4 ∨ j = 5 ∨ j = 6 ∨ j = 7 by omega) with h | h | h | h | h | h | h | h <;> subst h <;> rfl
theorem z_row20 {cI cII : ClassId} {q : Nat → Nat} {a : RS} {j : Nat} (hj : j < 8) : (wS cI cII q a)[15 + j]? = some (q (20 + j), .inl (cI, 8, .inl (a (20 + j)))) := by
  rcases (show j = 0 ∨ j = 1 ∨ j = 2 ∨ j = 3 ∨ j = 4 ∨ j = 5 ∨ j = 6 ∨ j = 7 by omega) with h | h | h | h | h | h | h | h <;> subst h <;> rfl
theorem z_set10 {cI cII : ClassId} {q : Nat → Nat} {a : RS} {j : Nat} (hj : j < 8) {g : Nat → Int32} : (wS cI cII q a).set (7 + j) (q (10 + j), .inl (cI, 8, .inl g)) = wS cI cII q (va_up a (10 + j) g) := by
  rcases (show j = 0 ∨ j = 1 ∨ j = 2 ∨ j = 3 ∨ j = 4 ∨ j = 5 ∨ j = 6 ∨ j = 7 by omega) with h | h | h | h | h | h | h | h <;> subst h <;> rfl
theorem z_set20 {cI cII : ClassId} {q : Nat → Nat} {a : RS} {j : Nat} (hj : j < 8) {g : Nat → Int32} : (wS cI cII q a).set (15 + j) (q (20 + j), .inl (cI, 8, .inl g)) = wS cI cII q (va_up a (20 + j) g) := by
  rcases (show j = 0 ∨ j = 1 ∨ j = 2 ∨ j = 3 ∨ j = 4 ∨ j = 5 ∨ j = 6 ∨ j = 7 by omega) with h | h | h | h | h | h | h | h <;> subst h <;> rfl
section ZAL
variable {p : Program} {l : Launch} {e : Env} {R : Room} {s : State} {m : MethodId} {args : Array Value} {below : List Frame} {meth : Method} {c : Code} {H : Heap} {locs : List Loc} {cells slots : Nat} {Q : State → Prop}
variable {cc : ByteArray} {pc : Nat} {ls : Array Slot} {rest : List Value} {D : va_G} {cl : List vw_C} {A : Nat → Prop} {x : Nat} {tys : List (ClassId × FieldType)} {ws : va_W} {H0 : Heap}
theorem z_aldr (hexec : p.tables.exec = Jvm.exec) (hb : c.code = cc) (hK : va_K D cl tys s) (hP : va_P D cl ws H) (q0 t0 : Nat) {cA : ClassId} {n : Nat} {f : Nat → Option Nat} (ha : ws[q0]? = some (x, .inl (cA, n, .inr (.inr (.inr (.inr f)))))) (ht : tys[t0]? = some (cA, .array .int)) {i : Int32} (hin : vp_in i n) (hdg : decode cc pc = .ok (.aaload, 1))
    (kk : W p l e R s m args below meth c H locs cells slots Q (F0 m (pc + 1) ls (va_rf (f i.toNatClampNeg) :: rest))) : W p l e R s m args below meth c H locs cells slots Q (F0 m pc ls (.int i :: .ref x :: rest)) := by
  have hlt : i.toNatClampNeg < n := Nat.not_le.mp fun q => hin (Or.inr q)
  exact W.aald (v := va_rf (f i.toNatClampNeg)) (ty := .array .int) hexec hb (hP q0 _ ha) ((hK.2 t0 _ ht).1 n (fun j => va_rf (f j))) rfl (fun q => by cases q) (by show ¬ (i < 0 ∨ (arrV _ _ _).slots.size ≤ _); rw [arrV_size]; exact hin) (by show (arrV _ _ _).slots[_]? = _; rw [arrV_read _ _ hlt]) rfl rfl hdg kk
theorem z_aald {q : Nat → Nat} {b : Nat} (hexec : p.tables.exec = Jvm.exec) (hb : c.code = cc) (hK : va_K D cl tys s) (hP : va_P D cl ws H) (q0 t0 : Nat) {cA : ClassId} (ha : ws[q0]? = some (x, .inl (cA, 8, .inr (.inr (.inr (.inr (wSg q b))))))) (ht : tys[t0]? = some (cA, .array .int)) {i : Int32} (hin : vp_in i 8) (hdg : decode cc pc = .ok (.aaload, 1))
    (kk : W p l e R s m args below meth c H locs cells slots Q (F0 m (pc + 1) ls (.ref (q (b + i.toNatClampNeg)) :: rest))) : W p l e R s m args below meth c H locs cells slots Q (F0 m pc ls (.int i :: .ref x :: rest)) := by
  refine z_aldr hexec hb hK hP q0 t0 ha ht hin hdg ?_
  have e1 : wSg q b i.toNatClampNeg = some (q (b + i.toNatClampNeg)) := if_pos (z_lt hin)
  rw [e1]
  exact kk
end ZAL
theorem z_sw6 (x : Int32) : (x.toInt < 0 ∨ 6 < x.toInt) ∨ x = 0 ∨ x = 1 ∨ x = 2 ∨ x = 3 ∨ x = 4 ∨ x = 5 ∨ x = 6 := by
  by_cases h : x.toInt < 0 ∨ 6 < x.toInt
  · exact Or.inl h
  · right
    have e : ∀ k : Int32, x.toInt = k.toInt → x = k := fun k h => Int32.toInt_inj.mp h
    rcases (show x.toInt = 0 ∨ x.toInt = 1 ∨ x.toInt = 2 ∨ x.toInt = 3 ∨ x.toInt = 4 ∨ x.toInt = 5 ∨ x.toInt = 6 by omega) with h | h | h | h | h | h | h
    · exact Or.inl (e 0 h)
    · exact Or.inr (Or.inl (e 1 h))
    · exact Or.inr (Or.inr (Or.inl (e 2 h)))
    · exact Or.inr (Or.inr (Or.inr (Or.inl (e 3 h))))
    · exact Or.inr (Or.inr (Or.inr (Or.inr (Or.inl (e 4 h)))))
    · exact Or.inr (Or.inr (Or.inr (Or.inr (Or.inr (Or.inl (e 5 h))))))
    · exact Or.inr (Or.inr (Or.inr (Or.inr (Or.inr (Or.inr (e 6 h))))))
theorem z_sw5 (x : Int32) : (x.toInt < 0 ∨ 5 < x.toInt) ∨ x = 0 ∨ x = 1 ∨ x = 2 ∨ x = 3 ∨ x = 4 ∨ x = 5 := by
  by_cases h : x.toInt < 0 ∨ 5 < x.toInt
  · exact Or.inl h
  · right
    have e : ∀ k : Int32, x.toInt = k.toInt → x = k := fun k h => Int32.toInt_inj.mp h
    rcases (show x.toInt = 0 ∨ x.toInt = 1 ∨ x.toInt = 2 ∨ x.toInt = 3 ∨ x.toInt = 4 ∨ x.toInt = 5 by omega) with h | h | h | h | h | h
    · exact Or.inl (e 0 h)
    · exact Or.inr (Or.inl (e 1 h))
    · exact Or.inr (Or.inr (Or.inl (e 2 h)))
    · exact Or.inr (Or.inr (Or.inr (Or.inl (e 3 h))))
    · exact Or.inr (Or.inr (Or.inr (Or.inr (Or.inl (e 4 h)))))
    · exact Or.inr (Or.inr (Or.inr (Or.inr (Or.inr (e 5 h)))))
theorem z_setM10 {cI : ClassId} {q : Nat → Nat} {w : MS} {g : Nat → Int32} : (wM cI q w).set 11 (q 11, .inl (cI, 8, .inl g)) = wM cI q (va_up w.1 10 g, w.2.1, w.2.2) := rfl
theorem z_setM11 {cI : ClassId} {q : Nat → Nat} {w : MS} {g : Nat → Int32} : (wM cI q w).set 12 (q 12, .inl (cI, 64, .inl g)) = wM cI q (va_up w.1 11 g, w.2.1, w.2.2) := rfl
theorem z_setM12 {cI : ClassId} {q : Nat → Nat} {w : MS} {g : Nat → Int32} : (wM cI q w).set 13 (q 13, .inl (cI, 64, .inl g)) = wM cI q (va_up w.1 12 g, w.2.1, w.2.2) := rfl
end
section
def wpJ6_bitCount_0f7a4 (p1 : Int32) (post : Int32 → Prop) : Prop := post ((((((((p1 - (((p1.toUInt32 >>> ((1 : Int32).toUInt32 &&& Int32.toUInt32 31)).toInt32) &&& (1431655765))) &&& (858993459)) + ((((p1 - (((p1.toUInt32 >>> ((1 : Int32).toUInt32 &&& Int32.toUInt32 31)).toInt32) &&& (1431655765))).toUInt32 >>> ((2 : Int32).toUInt32 &&& Int32.toUInt32 31)).toInt32) &&& (858993459))) + (((((p1 - (((p1.toUInt32 >>> ((1 : Int32).toUInt32 &&& Int32.toUInt32 31)).toInt32) &&& (1431655765))) &&& (858993459)) + ((((p1 - (((p1.toUInt32 >>> ((1 : Int32).toUInt32 &&& Int32.toUInt32 31)).toInt32) &&& (1431655765))).toUInt32 >>> ((2 : Int32).toUInt32 &&& Int32.toUInt32 31)).toInt32) &&& (858993459))).toUInt32 >>> ((4 : Int32).toUInt32 &&& Int32.toUInt32 31)).toInt32)) &&& (252645135)) + (((((((p1 - (((p1.toUInt32 >>> ((1 : Int32).toUInt32 &&& Int32.toUInt32 31)).toInt32) &&& (1431655765))) &&& (858993459)) + ((((p1 - (((p1.toUInt32 >>> ((1 : Int32).toUInt32 &&& Int32.toUInt32 31)).toInt32) &&& (1431655765))).toUInt32 >>> ((2 : Int32).toUInt32 &&& Int32.toUInt32 31)).toInt32) &&& (858993459))) + (((((p1 - (((p1.toUInt32 >>> ((1 : Int32).toUInt32 &&& Int32.toUInt32 31)).toInt32) &&& (1431655765))) &&& (858993459)) + ((((p1 - (((p1.toUInt32 >>> ((1 : Int32).toUInt32 &&& Int32.toUInt32 31)).toInt32) &&& (1431655765))).toUInt32 >>> ((2 : Int32).toUInt32 &&& Int32.toUInt32 31)).toInt32) &&& (858993459))).toUInt32 >>> ((4 : Int32).toUInt32 &&& Int32.toUInt32 31)).toInt32)) &&& (252645135)).toUInt32 >>> ((8 : Int32).toUInt32 &&& Int32.toUInt32 31)).toInt32)) + ((((((((p1 - (((p1.toUInt32 >>> ((1 : Int32).toUInt32 &&& Int32.toUInt32 31)).toInt32) &&& (1431655765))) &&& (858993459)) + ((((p1 - (((p1.toUInt32 >>> ((1 : Int32).toUInt32 &&& Int32.toUInt32 31)).toInt32) &&& (1431655765))).toUInt32 >>> ((2 : Int32).toUInt32 &&& Int32.toUInt32 31)).toInt32) &&& (858993459))) + (((((p1 - (((p1.toUInt32 >>> ((1 : Int32).toUInt32 &&& Int32.toUInt32 31)).toInt32) &&& (1431655765))) &&& (858993459)) + ((((p1 - (((p1.toUInt32 >>> ((1 : Int32).toUInt32 &&& Int32.toUInt32 31)).toInt32) &&& (1431655765))).toUInt32 >>> ((2 : Int32).toUInt32 &&& Int32.toUInt32 31)).toInt32) &&& (858993459))).toUInt32 >>> ((4 : Int32).toUInt32 &&& Int32.toUInt32 31)).toInt32)) &&& (252645135)) + (((((((p1 - (((p1.toUInt32 >>> ((1 : Int32).toUInt32 &&& Int32.toUInt32 31)).toInt32) &&& (1431655765))) &&& (858993459)) + ((((p1 - (((p1.toUInt32 >>> ((1 : Int32).toUInt32 &&& Int32.toUInt32 31)).toInt32) &&& (1431655765))).toUInt32 >>> ((2 : Int32).toUInt32 &&& Int32.toUInt32 31)).toInt32) &&& (858993459))) + (((((p1 - (((p1.toUInt32 >>> ((1 : Int32).toUInt32 &&& Int32.toUInt32 31)).toInt32) &&& (1431655765))) &&& (858993459)) + ((((p1 - (((p1.toUInt32 >>> ((1 : Int32).toUInt32 &&& Int32.toUInt32 31)).toInt32) &&& (1431655765))).toUInt32 >>> ((2 : Int32).toUInt32 &&& Int32.toUInt32 31)).toInt32) &&& (858993459))).toUInt32 >>> ((4 : Int32).toUInt32 &&& Int32.toUInt32 31)).toInt32)) &&& (252645135)).toUInt32 >>> ((8 : Int32).toUInt32 &&& Int32.toUInt32 31)).toInt32)).toUInt32 >>> ((16 : Int32).toUInt32 &&& Int32.toUInt32 31)).toInt32)) &&& 63)

def wpX3_has (a : RS) (p1 : Int32) (post : Int32 → Prop) : Prop := (p1 < 0 → post 0) ∧ (¬ p1 < 0 → ((a 9 0) ≤ p1 → post 0) ∧ (¬ (a 9 0) ≤ p1 → post 1))

def wpX3_add (a : RS) (p1 : Int32) (p2 : Int32) (p3 : Int32) (p4 : Int32) (p5 : Int32) (p6 : Int32) (post : Int32 → RS → Prop) : Prop := vp_in (a 9 0) 60 ∧ (post (a 9 0) (va_up (va_up (va_up (va_up (va_up (va_up (va_up (va_up a 0 (upd (a 0) ((a 9 0).toNatClampNeg) (p1))) 1 (upd (a 1) ((a 9 0).toNatClampNeg) (p2))) 2 (upd (a 2) ((a 9 0).toNatClampNeg) (p3))) 3 (upd (a 3) ((a 9 0).toNatClampNeg) (p4))) 4 (upd (a 4) ((a 9 0).toNatClampNeg) (p5))) 5 (upd (a 5) ((a 9 0).toNatClampNeg) (p6))) 6 (upd (a 6) ((a 9 0).toNatClampNeg) ((-1)))) 9 (upd (a 9) 0 (((a 9 0) + 1)))))

def wpX3_struckOnes_L4 (a : RS) (K4 : Int32 → Int32 → Prop) : Nat → Int32 → Int32 → Prop
  | 0, _, _ => False
  | n4 + 1, x2_4, x1_4 => ((a 9 0) ≤ x2_4 → K4 x2_4 x1_4) ∧ (¬ (a 9 0) ≤ x2_4 → vp_in x2_4 60 ∧ (((a 6 x2_4.toNatClampNeg) = (-1) → wpX3_struckOnes_L4 a K4 n4 (x2_4 + 1) x1_4) ∧ (¬ (a 6 x2_4.toNatClampNeg) = (-1) → wpX3_struckOnes_L4 a K4 n4 (x2_4 + 1) (x1_4 + 1))))
def wpX3_struckOnes (a : RS) (post : Int32 → Prop) : Prop := ∃ n4 : Nat, wpX3_struckOnes_L4 a (fun (x2_4 : Int32) (x1_4 : Int32) => post x1_4) n4 0 0

def wpX3_isKnown (a : RS) (p1 : Int32) (p2 : Int32) (post : Int32 → Prop) : Prop := vp_in p1 60 ∧ ((p2 < (a 5 p1.toNatClampNeg) → post 0) ∧ (¬ p2 < (a 5 p1.toNatClampNeg) → ((a 6 p1.toNatClampNeg) = (-1) → post 1) ∧ (¬ (a 6 p1.toNatClampNeg) = (-1) → ((a 6 p1.toNatClampNeg) ≤ p2 → post 0) ∧ (¬ (a 6 p1.toNatClampNeg) ≤ p2 → post 1))))

def wpX3_weeklyKnown_L12 (a : RS) (p1 : Int32) (p2 : Int32) (p3 : Int32) (p4 : Int32) (K12 : Int32 → Int32 → Int32 → Int32 → Prop) : Nat → Int32 → Int32 → Int32 → Int32 → Prop
  | 0, _, _, _, _ => False
  | n12 + 1, x8_12, x7_12, x6_12, x5_12 => ((a 9 0) ≤ x8_12 → K12 x8_12 x7_12 x6_12 x5_12) ∧ (¬ (a 9 0) ≤ x8_12 → vp_in x8_12 60 ∧ ((¬ (a 1 x8_12.toNatClampNeg) = p1 → wpX3_weeklyKnown_L12 a p1 p2 p3 p4 K12 n12 (x8_12 + 1) x7_12 x6_12 x5_12) ∧ ((a 1 x8_12.toNatClampNeg) = p1 → (p2 < (a 2 x8_12.toNatClampNeg) → wpX3_weeklyKnown_L12 a p1 p2 p3 p4 K12 n12 (x8_12 + 1) x7_12 x6_12 x5_12) ∧ (¬ p2 < (a 2 x8_12.toNatClampNeg) → ((a 2 x8_12.toNatClampNeg) < x5_12 → wpX3_weeklyKnown_L12 a p1 p2 p3 p4 K12 n12 (x8_12 + 1) x7_12 x6_12 x5_12) ∧ (¬ (a 2 x8_12.toNatClampNeg) < x5_12 → (x8_12 = p4 → wpX3_weeklyKnown_L12 a p1 p2 p3 p4 K12 n12 (x8_12 + 1) x7_12 x6_12 x5_12) ∧ (¬ x8_12 = p4 → wpX3_isKnown a x8_12 p3 (fun r7 : Int32 => (¬ r7 = 0 → ((a 2 x8_12.toNatClampNeg) ≤ x5_12 → wpX3_weeklyKnown_L12 a p1 p2 p3 p4 K12 n12 (x8_12 + 1) (x7_12 + (a 3 x8_12.toNatClampNeg)) (x6_12 + ((a 4 x8_12.toNatClampNeg) * (a 3 x8_12.toNatClampNeg))) x5_12) ∧ (¬ (a 2 x8_12.toNatClampNeg) ≤ x5_12 → wpX3_weeklyKnown_L12 a p1 p2 p3 p4 K12 n12 (x8_12 + 1) (0 + (a 3 x8_12.toNatClampNeg)) (0 + ((a 4 x8_12.toNatClampNeg) * (a 3 x8_12.toNatClampNeg))) (a 2 x8_12.toNatClampNeg))) ∧ (r7 = 0 → wpX3_weeklyKnown_L12 a p1 p2 p3 p4 K12 n12 (x8_12 + 1) x7_12 x6_12 x5_12))))))))
def wpX3_weeklyKnown (a : RS) (p1 : Int32) (p2 : Int32) (p3 : Int32) (p4 : Int32) (post : Int32 → Prop) : Prop := ∃ n12 : Nat, wpX3_weeklyKnown_L12 a p1 p2 p3 p4 (fun (x8_12 : Int32) (x7_12 : Int32) (x6_12 : Int32) (x5_12 : Int32) => (¬ x7_12 = 0 → (¬ x7_12 = 0) ∧ (post (x6_12 / x7_12))) ∧ (x7_12 = 0 → post (-1))) n12 0 0 0 (-1)

def wpX3_averageKnown_L9 (a : RS) (p1 : Int32) (p2 : Int32) (p3 : Int32) (post : Int32 → Prop) (K9 : Int32 → Int32 → Prop) : Nat → Int32 → Int32 → Prop
  | 0, _, _ => False
  | n9 + 1, x5_9, x4_9 => (p2 ≤ x5_9 → K9 x5_9 x4_9) ∧ (¬ p2 ≤ x5_9 → wpX3_weeklyKnown a p1 x5_9 p2 p3 (fun r2 : Int32 => (¬ r2 = (-1) → wpX3_averageKnown_L9 a p1 p2 p3 post K9 n9 (x5_9 + 1) (x4_9 + r2)) ∧ (r2 = (-1) → post (-1))))
def wpX3_averageKnown (a : RS) (p1 : Int32) (p2 : Int32) (p3 : Int32) (post : Int32 → Prop) : Prop := ∃ n9 : Nat, wpX3_averageKnown_L9 a p1 p2 p3 post (fun (x5_9 : Int32) (x4_9 : Int32) => post (x4_9 / 6)) n9 (p2 - 6) 0

def wpX3_townsKnown_L5 (a : RS) (p1 : Int32) (p2 : Int32) (K5 : Int32 → Int32 → Prop) : Nat → Int32 → Int32 → Prop
  | 0, _, _ => False
  | n5 + 1, x4_5, x3_5 => ((a 9 0) ≤ x4_5 → K5 x4_5 x3_5) ∧ (¬ (a 9 0) ≤ x4_5 → vp_in x4_5 60 ∧ ((¬ (a 2 x4_5.toNatClampNeg) = p1 → wpX3_townsKnown_L5 a p1 p2 K5 n5 (x4_5 + 1) x3_5) ∧ ((a 2 x4_5.toNatClampNeg) = p1 → wpX3_isKnown a x4_5 p2 (fun r4 : Int32 => (r4 = 0 → wpX3_townsKnown_L5 a p1 p2 K5 n5 (x4_5 + 1) x3_5) ∧ (¬ r4 = 0 → wpX3_townsKnown_L5 a p1 p2 K5 n5 (x4_5 + 1) (x3_5 ||| (1 <<< ((a 0 x4_5.toNatClampNeg) &&& 31))))))))
def wpX3_townsKnown (a : RS) (p1 : Int32) (p2 : Int32) (post : Int32 → Prop) : Prop := ∃ n5 : Nat, wpX3_townsKnown_L5 a p1 p2 (fun (x4_5 : Int32) (x3_5 : Int32) => wpJ6_bitCount_0f7a4 x3_5 (fun r6 : Int32 => post r6)) n5 0 0

def wpX4_has (a : RS) (p1 : Int32) (post : Int32 → Prop) : Prop := (p1 < 0 → post 0) ∧ (¬ p1 < 0 → ((a 9 0) ≤ p1 → post 0) ∧ (¬ (a 9 0) ≤ p1 → post 1))

def wpX4_isOf (a : RS) (p1 : Int32) (p2 : Int32) (post : Int32 → Prop) : Prop := wpX4_has a p1 (fun r1 : Int32 => (r1 = 0 → post 0) ∧ (¬ r1 = 0 → vp_in p1 8 ∧ ((¬ (a 0 p1.toNatClampNeg) = p2 → post 0) ∧ ((a 0 p1.toNatClampNeg) = p2 → post 1))))

def wpX4_add (a : RS) (p1 : Int32) (p2 : Int32) (p3 : Int32) (post : Int32 → RS → Prop) : Prop := vp_in (a 9 0) 8 ∧ (post (a 9 0) (va_up (va_up (va_up (va_up a 0 (upd (a 0) ((a 9 0).toNatClampNeg) (p1))) 1 (upd (a 1) ((a 9 0).toNatClampNeg) (p2))) 2 (upd (a 2) ((a 9 0).toNatClampNeg) (p3))) 9 (upd (a 9) 0 (((a 9 0) + 1)))))

def wpX4_lastPrice (a : RS) (p1 : Int32) (post : Int32 → Prop) : Prop := vp_in p1 8 ∧ ((¬ (a 3 p1.toNatClampNeg) = 0 → vp_in ((a 3 p1.toNatClampNeg) - 1) 8 ∧ (post (a (10 + p1.toNatClampNeg) ((a 3 p1.toNatClampNeg) - 1).toNatClampNeg))) ∧ ((a 3 p1.toNatClampNeg) = 0 → post (-1)))

def wpX4_isSettled (a : RS) (p1 : Int32) (p2 : Int32) (post : Int32 → Prop) : Prop := vp_in p1 8 ∧ ((p2 < (a 1 p1.toNatClampNeg) → post 0) ∧ (¬ p2 < (a 1 p1.toNatClampNeg) → ((a 2 p1.toNatClampNeg) = p2 → post 0) ∧ (¬ (a 2 p1.toNatClampNeg) = p2 → post 1)))

def wpX4_addStep (a : RS) (p1 : Int32) (p2 : Int32) (p3 : Int32) (post : Int32 → RS → Prop) : Prop := vp_in p1 8 ∧ (vp_in (a 3 p1.toNatClampNeg) 8 ∧ (∀ a3 : RS, a3 = va_up a (10 + p1.toNatClampNeg) (upd (a (10 + p1.toNatClampNeg)) (a 3 p1.toNatClampNeg).toNatClampNeg (p2)) → vp_in (a3 3 p1.toNatClampNeg) 8 ∧ (∀ a5 : RS, a5 = va_up a3 (20 + p1.toNatClampNeg) (upd (a3 (20 + p1.toNatClampNeg)) (a3 3 p1.toNatClampNeg).toNatClampNeg (p3)) → post ((upd (a5 3) (p1.toNatClampNeg) (((a5 3 p1.toNatClampNeg) + 1))) p1.toNatClampNeg) (va_up a5 3 (upd (a5 3) (p1.toNatClampNeg) (((a5 3 p1.toNatClampNeg) + 1)))))))

def wpX4_inForce_L5 (a : RS) (p1 : Int32) (p2 : Int32) (K5 : Int32 → Int32 → Prop) : Nat → Int32 → Int32 → Prop
  | 0, _, _ => False
  | n5 + 1, x4_5, x3_5 => ((a 9 0) ≤ x4_5 → K5 x4_5 x3_5) ∧ (¬ (a 9 0) ≤ x4_5 → vp_in x4_5 8 ∧ ((¬ (a 0 x4_5.toNatClampNeg) = p1 → ((0 : Int32) = 0 → wpX4_inForce_L5 a p1 p2 K5 n5 (x4_5 + 1) x3_5) ∧ (¬ (0 : Int32) = 0 → (x3_5 = (-1) → wpX4_inForce_L5 a p1 p2 K5 n5 (x4_5 + 1) x4_5) ∧ (¬ x3_5 = (-1) → vp_in x3_5 8 ∧ (((a 1 x4_5.toNatClampNeg) < (a 1 x3_5.toNatClampNeg) → wpX4_inForce_L5 a p1 p2 K5 n5 (x4_5 + 1) x3_5) ∧ (¬ (a 1 x4_5.toNatClampNeg) < (a 1 x3_5.toNatClampNeg) → wpX4_inForce_L5 a p1 p2 K5 n5 (x4_5 + 1) x4_5))))) ∧ ((a 0 x4_5.toNatClampNeg) = p1 → ((a 3 x4_5.toNatClampNeg) ≤ 0 → ((0 : Int32) = 0 → wpX4_inForce_L5 a p1 p2 K5 n5 (x4_5 + 1) x3_5) ∧ (¬ (0 : Int32) = 0 → (x3_5 = (-1) → wpX4_inForce_L5 a p1 p2 K5 n5 (x4_5 + 1) x4_5) ∧ (¬ x3_5 = (-1) → vp_in x3_5 8 ∧ (((a 1 x4_5.toNatClampNeg) < (a 1 x3_5.toNatClampNeg) → wpX4_inForce_L5 a p1 p2 K5 n5 (x4_5 + 1) x3_5) ∧ (¬ (a 1 x4_5.toNatClampNeg) < (a 1 x3_5.toNatClampNeg) → wpX4_inForce_L5 a p1 p2 K5 n5 (x4_5 + 1) x4_5))))) ∧ (¬ (a 3 x4_5.toNatClampNeg) ≤ 0 → (p2 < (a 1 x4_5.toNatClampNeg) → ((0 : Int32) = 0 → wpX4_inForce_L5 a p1 p2 K5 n5 (x4_5 + 1) x3_5) ∧ (¬ (0 : Int32) = 0 → (x3_5 = (-1) → wpX4_inForce_L5 a p1 p2 K5 n5 (x4_5 + 1) x4_5) ∧ (¬ x3_5 = (-1) → vp_in x3_5 8 ∧ (((a 1 x4_5.toNatClampNeg) < (a 1 x3_5.toNatClampNeg) → wpX4_inForce_L5 a p1 p2 K5 n5 (x4_5 + 1) x3_5) ∧ (¬ (a 1 x4_5.toNatClampNeg) < (a 1 x3_5.toNatClampNeg) → wpX4_inForce_L5 a p1 p2 K5 n5 (x4_5 + 1) x4_5))))) ∧ (¬ p2 < (a 1 x4_5.toNatClampNeg) → ((1 : Int32) = 0 → wpX4_inForce_L5 a p1 p2 K5 n5 (x4_5 + 1) x3_5) ∧ (¬ (1 : Int32) = 0 → (x3_5 = (-1) → wpX4_inForce_L5 a p1 p2 K5 n5 (x4_5 + 1) x4_5) ∧ (¬ x3_5 = (-1) → vp_in x3_5 8 ∧ (((a 1 x4_5.toNatClampNeg) < (a 1 x3_5.toNatClampNeg) → wpX4_inForce_L5 a p1 p2 K5 n5 (x4_5 + 1) x3_5) ∧ (¬ (a 1 x4_5.toNatClampNeg) < (a 1 x3_5.toNatClampNeg) → wpX4_inForce_L5 a p1 p2 K5 n5 (x4_5 + 1) x4_5)))))))))
def wpX4_inForce (a : RS) (p1 : Int32) (p2 : Int32) (post : Int32 → Prop) : Prop := ∃ n5 : Nat, wpX4_inForce_L5 a p1 p2 (fun (x4_5 : Int32) (x3_5 : Int32) => post x3_5) n5 0 (-1)

def wpX4_dutyBy_L31 (a : RS) (p1 : Int32) (p2 : Int32) (K31 : Int32 → Int32 → Prop) : Nat → Int32 → Int32 → Prop
  | 0, _, _ => False
  | n31 + 1, x4_31, x3_31 => ((a 3 p1.toNatClampNeg) ≤ x4_31 → K31 x4_31 x3_31) ∧ (¬ (a 3 p1.toNatClampNeg) ≤ x4_31 → vp_in x4_31 8 ∧ ((p2 < (a (10 + p1.toNatClampNeg) x4_31.toNatClampNeg) → wpX4_dutyBy_L31 a p1 p2 K31 n31 (x4_31 + 1) x3_31) ∧ (¬ p2 < (a (10 + p1.toNatClampNeg) x4_31.toNatClampNeg) → wpX4_dutyBy_L31 a p1 p2 K31 n31 (x4_31 + 1) (a (20 + p1.toNatClampNeg) x4_31.toNatClampNeg))))
def wpX4_dutyBy (a : RS) (p1 : Int32) (p2 : Int32) (post : Int32 → Prop) : Prop := wpX4_has a p1 (fun r1 : Int32 => (r1 = 0 → post 0) ∧ (¬ r1 = 0 → vp_in p1 8 ∧ ((¬ (a 3 p1.toNatClampNeg) = 0 → ∃ n31 : Nat, wpX4_dutyBy_L31 a p1 p2 (fun (x4_31 : Int32) (x3_31 : Int32) => post x3_31) n31 1 (a (20 + p1.toNatClampNeg) (0 : Int32).toNatClampNeg)) ∧ ((a 3 p1.toNatClampNeg) = 0 → post 0))))

def wpX1_hangs (a : RS) (p1 : Int32) (post : Int32 → Prop) : Prop := vp_in p1 3 ∧ (((a 2 p1.toNatClampNeg) ≤ 0 → post 0) ∧ (¬ (a 2 p1.toNatClampNeg) ≤ 0 → post 1))

def wpX1_bearsOne_L2 (a : RS) (p1 : Int32) (post : Int32 → Prop) (K2 : Int32 → Prop) : Nat → Int32 → Prop
  | 0, _ => False
  | n2 + 1, x2_2 => (3 ≤ x2_2 → K2 x2_2) ∧ (¬ 3 ≤ x2_2 → wpX1_hangs a x2_2 (fun r2 : Int32 => (r2 = 0 → wpX1_bearsOne_L2 a p1 post K2 n2 (x2_2 + 1)) ∧ (¬ r2 = 0 → vp_in x2_2 3 ∧ ((¬ (a 0 x2_2.toNatClampNeg) = p1 → wpX1_bearsOne_L2 a p1 post K2 n2 (x2_2 + 1)) ∧ ((a 0 x2_2.toNatClampNeg) = p1 → post 1)))))
def wpX1_bearsOne (a : RS) (p1 : Int32) (post : Int32 → Prop) : Prop := ∃ n2 : Nat, wpX1_bearsOne_L2 a p1 post (fun (x2_2 : Int32) => post 0) n2 0

def wpX1_put (a : RS) (p1 : Int32) (p2 : Int32) (p3 : Int32) (p4 : Int32) (post : RS → Prop) : Prop := vp_in p1 3 ∧ (post (va_up (va_up (va_up a 0 (upd (a 0) (p1.toNatClampNeg) (p2))) 1 (upd (a 1) (p1.toNatClampNeg) (p3))) 2 (upd (a 2) (p1.toNatClampNeg) (p4))))

def wpX1_take (a : RS) (p1 : Int32) (post : RS → Prop) : Prop := vp_in p1 3 ∧ (post (va_up a 2 (upd (a 2) (p1.toNatClampNeg) (0))))

def wpX1_rulingOver (a : RS) (p1 : Int32) (post : Int32 → Prop) : Prop := wpX1_hangs a p1 (fun r1 : Int32 => (r1 = 0 → post p1) ∧ (¬ r1 = 0 → vp_in p1 3 ∧ (post (a 0 p1.toNatClampNeg))))

def wpX1_inProportion (a : RS) (p1 : Int32) (p2 : Int32) (post : Int32 → Prop) : Prop := wpX1_hangs a p1 (fun r1 : Int32 => (r1 = 0 → post p2) ∧ (¬ r1 = 0 → vp_in p1 3 ∧ ((¬ (a 2 p1.toNatClampNeg) = 0) ∧ (post ((p2 * (a 1 p1.toNatClampNeg)) / (a 2 p1.toNatClampNeg))))))

def wpX0_has (a : RS) (p1 : Int32) (post : Int32 → Prop) : Prop := (p1 < 0 → post 0) ∧ (¬ p1 < 0 → ((a 9 0) ≤ p1 → post 0) ∧ (¬ (a 9 0) ≤ p1 → post 1))

def wpX0_add (a : RS) (p1 : Int32) (p2 : Int32) (p3 : Int32) (post : Int32 → RS → Prop) : Prop := vp_in (a 9 0) 20 ∧ (post (a 9 0) (va_up (va_up (va_up (va_up a 0 (upd (a 0) ((a 9 0).toNatClampNeg) (p1))) 1 (upd (a 1) ((a 9 0).toNatClampNeg) (p2))) 5 (upd (a 5) ((a 9 0).toNatClampNeg) (p3))) 9 (upd (a 9) 0 (((a 9 0) + 1)))))

def wpX0_lossOf (p1 : Int32) (p2 : Int32) (post : Int32 → Prop) : Prop := post ((p1 * p2) / 1000)

def wpX0_spoilAll_L2 (p1 : Int32) (K2 : Int32 → RS → Prop) : Nat → Int32 → RS → Prop
  | 0, _, _ => False
  | n2 + 1, x2_2, a_2 => ((a_2 9 0) ≤ x2_2 → K2 x2_2 a_2) ∧ (¬ (a_2 9 0) ≤ x2_2 → vp_in x2_2 20 ∧ (wpX0_lossOf (a_2 1 x2_2.toNatClampNeg) p1 (fun r3 : Int32 => wpX0_spoilAll_L2 p1 K2 n2 (x2_2 + 1) (va_up (va_up a_2 1 (upd (a_2 1) (x2_2.toNatClampNeg) (((a_2 1 x2_2.toNatClampNeg) - r3)))) 4 (upd (a_2 4) (x2_2.toNatClampNeg) (((a_2 4 x2_2.toNatClampNeg) + r3)))))))
def wpX0_spoilAll (a : RS) (p1 : Int32) (post : RS → Prop) : Prop := ∃ n2 : Nat, wpX0_spoilAll_L2 p1 (fun (x2_2 : Int32) (a_2 : RS) => post a_2) n2 0 a

def wpX0_leftAfter_L11 (p2 : Int32) (p3 : Int32) (K11 : Int32 → Int32 → Prop) : Nat → Int32 → Int32 → Prop
  | 0, _, _ => False
  | n11 + 1, x5_11, x4_11 => (p2 ≤ x5_11 → K11 x5_11 x4_11) ∧ (¬ p2 ≤ x5_11 → wpX0_lossOf x4_11 p3 (fun r3 : Int32 => wpX0_leftAfter_L11 p2 p3 K11 n11 (x5_11 + 1) (x4_11 - r3)))
def wpX0_leftAfter (a : RS) (p1 : Int32) (p2 : Int32) (p3 : Int32) (post : Int32 → Prop) : Prop := vp_in p1 20 ∧ (∃ n11 : Nat, wpX0_leftAfter_L11 p2 p3 (fun (x5_11 : Int32) (x4_11 : Int32) => post x4_11) n11 0 (a 1 p1.toNatClampNeg))

def wpX2_add (a : RS) (p1 : Int32) (p2 : Int32) (p3 : Int32) (post : RS → Prop) : Prop := vp_in (a 9 0) 100 ∧ (post (va_up (va_up (va_up (va_up a 0 (upd (a 0) ((a 9 0).toNatClampNeg) (p1))) 1 (upd (a 1) ((a 9 0).toNatClampNeg) (p2))) 2 (upd (a 2) ((a 9 0).toNatClampNeg) (p3))) 9 (upd (a 9) 0 (((a 9 0) + 1)))))

def wpX5_isOutside (p1 : Int32) (p2 : Int32) (p3 : Int32) (post : Int32 → Prop) : Prop := (p1 < p2 → post 1) ∧ (¬ p1 < p2 → (p1 ≤ p3 → post 0) ∧ (¬ p1 ≤ p3 → post 1))

def wpX5_isNoGrain (p1 : Int32) (post : Int32 → Prop) : Prop := wpX5_isOutside p1 0 2 (fun r1 : Int32 => (narrow .boolean (.int r1) = .int r1) ∧ post r1)

def wpX5_dutyAt (u : XS) (p1 : Int32) (p2 : Int32) (p3 : Int32) (p4 : Int32) (post : Int32 → Prop) : Prop := wpX1_rulingOver u.2.2.1 p1 (fun r1 : Int32 => wpX4_isOf u.2.1 p4 r1 (fun r2 : Int32 => (r2 = 0 → wpX4_inForce u.2.1 r1 p2 (fun r4 : Int32 => wpX3_averageKnown u.1 r1 p2 p3 (fun r5 : Int32 => wpX4_dutyBy u.2.1 r4 r5 (fun r6 : Int32 => wpX1_inProportion u.2.2.1 p1 r6 (fun r7 : Int32 => post r7))))) ∧ (¬ r2 = 0 → wpX3_averageKnown u.1 r1 p2 p3 (fun r8 : Int32 => wpX4_dutyBy u.2.1 p4 r8 (fun r9 : Int32 => wpX1_inProportion u.2.2.1 p1 r9 (fun r10 : Int32 => post r10))))))

def wpX5_chestAnew_L5 (u : XS) (p1 : Int32) (p2 : Int32) (K5 : Int32 → Int64 → Prop) : Nat → Int32 → Int64 → Prop
  | 0, _, _ => False
  | n5 + 1, x5_5, x3_5 => ((u.2.2.2.2.1 9 0) ≤ x5_5 → K5 x5_5 x3_5) ∧ (¬ (u.2.2.2.2.1 9 0) ≤ x5_5 → vp_in x5_5 100 ∧ (wpX5_dutyAt u (u.2.2.2.2.1 0 x5_5.toNatClampNeg) (u.2.2.2.2.1 2 x5_5.toNatClampNeg) p1 p2 (fun r3 : Int32 => wpX5_chestAnew_L5 u p1 p2 K5 n5 (x5_5 + 1) (x3_5 + (((u.2.2.2.2.1 1 x5_5.toNatClampNeg).toInt64) * r3.toInt64)))))
def wpX5_chestAnew (u : XS) (p1 : Int32) (p2 : Int32) (post : Int64 → Prop) : Prop := ∃ n5 : Nat, wpX5_chestAnew_L5 u p1 p2 (fun (x5_5 : Int32) (x3_5 : Int64) => post x3_5) n5 0 0

def wpX5_gainAt (u : XS) (p1 : Int32) (p2 : Int32) (p3 : Int32) (post : Int64 → Prop) : Prop := vp_in p1 20 ∧ (wpX5_dutyAt u (u.2.2.2.1 0 p1.toNatClampNeg) p2 (-1) (-1) (fun r2 : Int32 => wpX0_leftAfter u.2.2.2.1 p1 (p2 - (u.2.2.2.2.2.1 0)) (u.2.2.2.2.2.1 1) (fun r3 : Int32 => post (((p3 - r2).toInt64) * r3.toInt64))))

def wpX5_weeks_L27 (p1 : Int32) (K27 : Int32 → XS → Prop) : Nat → Int32 → XS → Prop
  | 0, _, _ => False
  | n27 + 1, x2_27, u_27 => (p1 ≤ x2_27 → K27 x2_27 u_27) ∧ (¬ p1 ≤ x2_27 → wpX0_spoilAll u_27.2.2.2.1 (u_27.2.2.2.2.2.1 1) (fun (a5 : RS) => wpX5_weeks_L27 p1 K27 n27 (x2_27 + 1) (u_27.1, u_27.2.1, u_27.2.2.1, a5, u_27.2.2.2.2.1, (upd u_27.2.2.2.2.2.1 0 (((u_27.2.2.2.2.2.1 0) + 1))), u_27.2.2.2.2.2.2)))
def wpX5_weeks (u : XS) (p1 : Int32) (post : Int32 → XS → Prop) : Prop := wpX5_isOutside p1 1 20 (fun r1 : Int32 => (¬ r1 = 0 → post (-2) u) ∧ (r1 = 0 → (((u.2.2.2.2.2.1 0) + p1) ≤ 200 → ∃ n27 : Nat, wpX5_weeks_L27 p1 (fun (x2_27 : Int32) (u_27 : XS) => post (u_27.2.2.2.2.2.1 0) u_27) n27 0 u) ∧ (¬ ((u.2.2.2.2.2.1 0) + p1) ≤ 200 → post (-2) u)))

def wpX5_sale (u : XS) (p1 : Int32) (p2 : Int32) (p3 : Int32) (p4 : Int32) (p5 : Int32) (post : Int32 → XS → Prop) : Prop := wpX5_isOutside p1 0 9 (fun r1 : Int32 => (¬ r1 = 0 → post (-2) u) ∧ (r1 = 0 → wpX5_isNoGrain p2 (fun r3 : Int32 => (¬ r3 = 0 → post (-2) u) ∧ (r3 = 0 → wpX5_isOutside p3 0 (u.2.2.2.2.2.1 0) (fun r5 : Int32 => (¬ r5 = 0 → post (-2) u) ∧ (r5 = 0 → wpX5_isOutside p4 1 1000 (fun r7 : Int32 => (¬ r7 = 0 → post (-2) u) ∧ (r7 = 0 → wpX5_isOutside p5 1 2000 (fun r9 : Int32 => (r9 = 0 → ((u.1 9 0) < 60 → wpX3_add u.1 p1 p2 p3 p4 p5 (u.2.2.2.2.2.1 0) (fun (r13 : Int32) (a12 : RS) => post r13 (a12, u.2.1, u.2.2.1, u.2.2.2.1, u.2.2.2.2.1, u.2.2.2.2.2.1, u.2.2.2.2.2.2))) ∧ (¬ (u.1 9 0) < 60 → post (-4) u)) ∧ (¬ r9 = 0 → post (-2) u))))))))))

def wpX5_strike (u : XS) (p1 : Int32) (post : Int32 → XS → Prop) : Prop := wpX3_has u.1 p1 (fun r1 : Int32 => (¬ r1 = 0 → vp_in p1 60 ∧ (((u.1 6 p1.toNatClampNeg) = (-1) → post 1 ((va_up u.1 6 (upd (u.1 6) (p1.toNatClampNeg) ((u.2.2.2.2.2.1 0)))), u.2.1, u.2.2.1, u.2.2.2.1, u.2.2.2.2.1, u.2.2.2.2.2.1, u.2.2.2.2.2.2)) ∧ (¬ (u.1 6 p1.toNatClampNeg) = (-1) → post (-3) u))) ∧ (r1 = 0 → post (-2) u))

def wpX5_sold (u : XS) (p1 : Int32) (p2 : Int32) (post : Int32 → Prop) : Prop := wpX3_has u.1 p1 (fun r1 : Int32 => (¬ r1 = 0 → ((p2.toInt < 0 ∨ 6 < p2.toInt) → post (-2)) ∧ (p2 = 0 → vp_in p1 60 ∧ (post (u.1 0 p1.toNatClampNeg))) ∧ (p2 = 1 → vp_in p1 60 ∧ (post (u.1 1 p1.toNatClampNeg))) ∧ (p2 = 2 → vp_in p1 60 ∧ (post (u.1 2 p1.toNatClampNeg))) ∧ (p2 = 3 → vp_in p1 60 ∧ (post (u.1 3 p1.toNatClampNeg))) ∧ (p2 = 4 → vp_in p1 60 ∧ (post (u.1 4 p1.toNatClampNeg))) ∧ (p2 = 5 → vp_in p1 60 ∧ (post (u.1 5 p1.toNatClampNeg))) ∧ (p2 = 6 → vp_in p1 60 ∧ (post (u.1 6 p1.toNatClampNeg)))) ∧ (r1 = 0 → post (-2)))

def wpX5_weekly (u : XS) (p1 : Int32) (p2 : Int32) (p3 : Int32) (post : Int32 → Prop) : Prop := wpX5_isNoGrain p1 (fun r1 : Int32 => (¬ r1 = 0 → post (-2)) ∧ (r1 = 0 → wpX5_isOutside p2 0 200 (fun r3 : Int32 => (¬ r3 = 0 → post (-2)) ∧ (r3 = 0 → wpX5_isOutside p3 0 200 (fun r5 : Int32 => (r5 = 0 → wpX3_weeklyKnown u.1 p1 p2 p3 (-1) (fun r7 : Int32 => post r7)) ∧ (¬ r5 = 0 → post (-2)))))))

def wpX5_average (u : XS) (p1 : Int32) (p2 : Int32) (post : Int32 → Prop) : Prop := wpX5_isNoGrain p1 (fun r1 : Int32 => (¬ r1 = 0 → post (-2)) ∧ (r1 = 0 → wpX5_isOutside p2 0 220 (fun r3 : Int32 => (r3 = 0 → wpX3_averageKnown u.1 p1 p2 (-1) (fun r5 : Int32 => post r5)) ∧ (¬ r3 = 0 → post (-2)))))

def wpX5_towns (u : XS) (p1 : Int32) (p2 : Int32) (post : Int32 → Prop) : Prop := wpX5_isOutside p1 0 200 (fun r1 : Int32 => (¬ r1 = 0 → post (-2)) ∧ (r1 = 0 → wpX5_isOutside p2 0 200 (fun r3 : Int32 => (r3 = 0 → wpX3_townsKnown u.1 p1 p2 (fun r5 : Int32 => post r5)) ∧ (¬ r3 = 0 → post (-2)))))

def wpX5_scale (u : XS) (p1 : Int32) (p2 : Int32) (post : Int32 → XS → Prop) : Prop := wpX5_isNoGrain p1 (fun r1 : Int32 => (¬ r1 = 0 → post (-2) u) ∧ (r1 = 0 → wpX5_isOutside p2 (u.2.2.2.2.2.1 0) 200 (fun r3 : Int32 => (r3 = 0 → ((u.2.1 9 0) < 8 → wpX4_add u.2.1 p1 p2 (u.2.2.2.2.2.1 0) (fun (r7 : Int32) (a6 : RS) => post r7 (u.1, a6, u.2.2.1, u.2.2.2.1, u.2.2.2.2.1, u.2.2.2.2.2.1, u.2.2.2.2.2.2))) ∧ (¬ (u.2.1 9 0) < 8 → post (-4) u)) ∧ (¬ r3 = 0 → post (-2) u))))

def wpX5_step (u : XS) (p1 : Int32) (p2 : Int32) (p3 : Int32) (post : Int32 → XS → Prop) : Prop := wpX4_has u.2.1 p1 (fun r1 : Int32 => (r1 = 0 → post (-2) u) ∧ (¬ r1 = 0 → wpX5_isOutside p2 0 2000 (fun r3 : Int32 => (¬ r3 = 0 → post (-2) u) ∧ (r3 = 0 → wpX5_isOutside p3 0 2000 (fun r5 : Int32 => (¬ r5 = 0 → post (-2) u) ∧ (r5 = 0 → wpX4_lastPrice u.2.1 p1 (fun r7 : Int32 => (r7 < p2 → wpX4_isSettled u.2.1 p1 (u.2.2.2.2.2.1 0) (fun r9 : Int32 => (r9 = 0 → vp_in p1 8 ∧ (((u.2.1 3 p1.toNatClampNeg) < 8 → wpX4_addStep u.2.1 p1 p2 p3 (fun (r14 : Int32) (a13 : RS) => post r14 (u.1, a13, u.2.2.1, u.2.2.2.1, u.2.2.2.2.1, u.2.2.2.2.2.1, u.2.2.2.2.2.2))) ∧ (¬ (u.2.1 3 p1.toNatClampNeg) < 8 → post (-4) u))) ∧ (¬ r9 = 0 → post (-3) u))) ∧ (¬ r7 < p2 → post (-2) u))))))))

def wpX5_hang (u : XS) (p1 : Int32) (p2 : Int32) (p3 : Int32) (p4 : Int32) (post : Int32 → XS → Prop) : Prop := wpX5_isNoGrain p1 (fun r1 : Int32 => (¬ r1 = 0 → post (-2) u) ∧ (r1 = 0 → wpX5_isNoGrain p2 (fun r3 : Int32 => (¬ r3 = 0 → post (-2) u) ∧ (r3 = 0 → (p1 = p2 → post (-2) u) ∧ (¬ p1 = p2 → wpX5_isOutside p3 1 100 (fun r6 : Int32 => (¬ r6 = 0 → post (-2) u) ∧ (r6 = 0 → wpX5_isOutside p4 1 100 (fun r8 : Int32 => (r8 = 0 → wpX1_hangs u.2.2.1 p2 (fun r10 : Int32 => (¬ r10 = 0 → post (-3) u) ∧ (r10 = 0 → wpX1_bearsOne u.2.2.1 p1 (fun r12 : Int32 => (r12 = 0 → wpX1_put u.2.2.1 p1 p2 p3 p4 (fun (a14 : RS) => post 1 (u.1, u.2.1, a14, u.2.2.2.1, u.2.2.2.2.1, u.2.2.2.2.2.1, u.2.2.2.2.2.2))) ∧ (¬ r12 = 0 → post (-3) u))))) ∧ (¬ r8 = 0 → post (-2) u)))))))))

def wpX5_unhang (u : XS) (p1 : Int32) (post : Int32 → XS → Prop) : Prop := wpX5_isNoGrain p1 (fun r1 : Int32 => (r1 = 0 → wpX1_hangs u.2.2.1 p1 (fun r3 : Int32 => (¬ r3 = 0 → wpX1_take u.2.2.1 p1 (fun (a5 : RS) => post 1 (u.1, u.2.1, a5, u.2.2.2.1, u.2.2.2.2.1, u.2.2.2.2.2.1, u.2.2.2.2.2.2))) ∧ (r3 = 0 → post (-3) u))) ∧ (¬ r1 = 0 → post (-2) u))

def wpX5_force (u : XS) (p1 : Int32) (p2 : Int32) (post : Int32 → Prop) : Prop := wpX5_isNoGrain p1 (fun r1 : Int32 => (¬ r1 = 0 → post (-2)) ∧ (r1 = 0 → wpX5_isOutside p2 0 220 (fun r3 : Int32 => (r3 = 0 → wpX4_inForce u.2.1 p1 p2 (fun r5 : Int32 => post r5)) ∧ (¬ r3 = 0 → post (-2)))))

def wpX5_duty (u : XS) (p1 : Int32) (p2 : Int32) (post : Int32 → Prop) : Prop := wpX5_isNoGrain p1 (fun r1 : Int32 => (¬ r1 = 0 → post (-2)) ∧ (r1 = 0 → wpX5_isOutside p2 0 220 (fun r3 : Int32 => (r3 = 0 → wpX5_dutyAt u p1 p2 (-1) (-1) (fun r5 : Int32 => post r5)) ∧ (¬ r3 = 0 → post (-2)))))

def wpX5_cargo (u : XS) (p1 : Int32) (p2 : Int32) (post : Int32 → XS → Prop) : Prop := wpX5_isNoGrain p1 (fun r1 : Int32 => (¬ r1 = 0 → post (-2) u) ∧ (r1 = 0 → wpX5_isOutside p2 1 10000 (fun r3 : Int32 => (r3 = 0 → ((u.2.2.2.1 9 0) < 20 → wpX0_add u.2.2.2.1 p1 p2 (u.2.2.2.2.2.1 0) (fun (r7 : Int32) (a6 : RS) => post r7 (u.1, u.2.1, u.2.2.1, a6, u.2.2.2.2.1, u.2.2.2.2.2.1, u.2.2.2.2.2.2))) ∧ (¬ (u.2.2.2.1 9 0) < 20 → post (-4) u)) ∧ (¬ r3 = 0 → post (-2) u))))

def wpX5_spoil (u : XS) (p1 : Int32) (post : Int32 → XS → Prop) : Prop := wpX5_isOutside p1 0 100 (fun r1 : Int32 => (r1 = 0 → post (u.2.2.2.2.2.1 1) (u.1, u.2.1, u.2.2.1, u.2.2.2.1, u.2.2.2.2.1, (upd u.2.2.2.2.2.1 1 (p1)), u.2.2.2.2.2.2)) ∧ (¬ r1 = 0 → post (-2) u))

def wpX5_letOut (u : XS) (p1 : Int32) (p2 : Int32) (post : Int64 → XS → Prop) : Prop := wpX0_has u.2.2.2.1 p1 (fun r1 : Int32 => (r1 = 0 → post (-2) u) ∧ (¬ r1 = 0 → wpX5_isOutside p2 1 10000 (fun r3 : Int32 => (r3 = 0 → vp_in p1 20 ∧ ((p2 ≤ (u.2.2.2.1 1 p1.toNatClampNeg) → ((u.2.2.2.2.1 9 0) < 100 → wpX5_dutyAt u (u.2.2.2.1 0 p1.toNatClampNeg) (u.2.2.2.2.2.1 0) (-1) (-1) (fun r8 : Int32 => wpX2_add u.2.2.2.2.1 (u.2.2.2.1 0 p1.toNatClampNeg) p2 (u.2.2.2.2.2.1 0) (fun (a9 : RS) => post (p2.toInt64 * r8.toInt64) (u.1, u.2.1, u.2.2.1, (va_up (va_up u.2.2.2.1 1 (upd (u.2.2.2.1 1) (p1.toNatClampNeg) (((u.2.2.2.1 1 p1.toNatClampNeg) - p2)))) 2 (upd (u.2.2.2.1 2) (p1.toNatClampNeg) (((u.2.2.2.1 2 p1.toNatClampNeg) + p2)))), a9, u.2.2.2.2.2.1, (((u.2.2.2.2.2.2) + (p2.toInt64 * r8.toInt64))))))) ∧ (¬ (u.2.2.2.2.1 9 0) < 100 → post (-4) u)) ∧ (¬ p2 ≤ (u.2.2.2.1 1 p1.toNatClampNeg) → post (-3) u))) ∧ (¬ r3 = 0 → post (-2) u))))

def wpX5_ship (u : XS) (p1 : Int32) (p2 : Int32) (post : Int32 → XS → Prop) : Prop := wpX0_has u.2.2.2.1 p1 (fun r1 : Int32 => (r1 = 0 → post (-2) u) ∧ (¬ r1 = 0 → wpX5_isOutside p2 1 10000 (fun r3 : Int32 => (r3 = 0 → vp_in p1 20 ∧ ((p2 ≤ (u.2.2.2.1 1 p1.toNatClampNeg) → post ((upd (u.2.2.2.1 1) (p1.toNatClampNeg) (((u.2.2.2.1 1 p1.toNatClampNeg) - p2))) p1.toNatClampNeg) (u.1, u.2.1, u.2.2.1, (va_up (va_up u.2.2.2.1 1 (upd (u.2.2.2.1 1) (p1.toNatClampNeg) (((u.2.2.2.1 1 p1.toNatClampNeg) - p2)))) 3 (upd (u.2.2.2.1 3) (p1.toNatClampNeg) (((u.2.2.2.1 3 p1.toNatClampNeg) + p2)))), u.2.2.2.2.1, u.2.2.2.2.2.1, u.2.2.2.2.2.2)) ∧ (¬ p2 ≤ (u.2.2.2.1 1 p1.toNatClampNeg) → post (-3) u))) ∧ (¬ r3 = 0 → post (-2) u))))

def wpX5_bond (u : XS) (p1 : Int32) (p2 : Int32) (post : Int32 → Prop) : Prop := wpX0_has u.2.2.2.1 p1 (fun r1 : Int32 => (¬ r1 = 0 → ((p2.toInt < 0 ∨ 5 < p2.toInt) → post (-2)) ∧ (p2 = 0 → vp_in p1 20 ∧ (post (u.2.2.2.1 0 p1.toNatClampNeg))) ∧ (p2 = 1 → vp_in p1 20 ∧ (post (u.2.2.2.1 1 p1.toNatClampNeg))) ∧ (p2 = 2 → vp_in p1 20 ∧ (post (u.2.2.2.1 2 p1.toNatClampNeg))) ∧ (p2 = 3 → vp_in p1 20 ∧ (post (u.2.2.2.1 3 p1.toNatClampNeg))) ∧ (p2 = 4 → vp_in p1 20 ∧ (post (u.2.2.2.1 4 p1.toNatClampNeg))) ∧ (p2 = 5 → vp_in p1 20 ∧ (post (u.2.2.2.1 5 p1.toNatClampNeg)))) ∧ (r1 = 0 → post (-2)))

def wpX5_chest (u : XS) (post : Int64 → Prop) : Prop := post (u.2.2.2.2.2.2)

def wpX5_worth (u : XS) (p1 : Int32) (post : Int64 → Prop) : Prop := wpX3_has u.1 p1 (fun r1 : Int32 => (¬ r1 = 0 → wpX5_chestAnew u p1 (-1) (fun r3 : Int64 => post (r3 - (u.2.2.2.2.2.2)))) ∧ (r1 = 0 → post (-9223372036854775808)))

def wpX5_other (u : XS) (p1 : Int32) (post : Int64 → Prop) : Prop := wpX4_has u.2.1 p1 (fun r1 : Int32 => (¬ r1 = 0 → wpX5_chestAnew u (-1) p1 (fun r3 : Int64 => post r3)) ∧ (r1 = 0 → post (-2)))

def wpX5_gain (u : XS) (p1 : Int32) (p2 : Int32) (p3 : Int32) (post : Int64 → Prop) : Prop := wpX0_has u.2.2.2.1 p1 (fun r1 : Int32 => (r1 = 0 → post (-9223372036854775808)) ∧ (¬ r1 = 0 → wpX5_isOutside p2 (u.2.2.2.2.2.1 0) ((u.2.2.2.2.2.1 0) + 20) (fun r3 : Int32 => (¬ r3 = 0 → post (-9223372036854775808)) ∧ (r3 = 0 → wpX5_isOutside p3 0 2000 (fun r5 : Int32 => (r5 = 0 → wpX5_gainAt u p1 p2 p3 (fun r7 : Int64 => post r7)) ∧ (¬ r5 = 0 → post (-9223372036854775808)))))))

def wpX5_best_L61 (u : XS) (p1 : Int32) (p2 : Int32) (p3 : Int32) (K61 : Int32 → Int64 → Int32 → Prop) : Nat → Int32 → Int64 → Int32 → Prop
  | 0, _, _, _ => False
  | n61 + 1, x7_61, x5_61, x4_61 => (((u.2.2.2.2.2.1 0) + p2) < x7_61 → K61 x7_61 x5_61 x4_61) ∧ (¬ ((u.2.2.2.2.2.1 0) + p2) < x7_61 → wpX5_gainAt u p1 x7_61 p3 (fun r9 : Int64 => ((lg_cmp r9 x5_61) ≤ 0 → wpX5_best_L61 u p1 p2 p3 K61 n61 (x7_61 + 1) x5_61 x4_61) ∧ (¬ (lg_cmp r9 x5_61) ≤ 0 → wpX5_best_L61 u p1 p2 p3 K61 n61 (x7_61 + 1) r9 x7_61)))
def wpX5_best (u : XS) (p1 : Int32) (p2 : Int32) (p3 : Int32) (post : Int32 → Prop) : Prop := wpX0_has u.2.2.2.1 p1 (fun r1 : Int32 => (r1 = 0 → post (-2)) ∧ (¬ r1 = 0 → wpX5_isOutside p2 0 20 (fun r3 : Int32 => (¬ r3 = 0 → post (-2)) ∧ (r3 = 0 → wpX5_isOutside p3 0 2000 (fun r5 : Int32 => (r5 = 0 → wpX5_gainAt u p1 (u.2.2.2.2.2.1 0) p3 (fun r7 : Int64 => ∃ n61 : Nat, wpX5_best_L61 u p1 p2 p3 (fun (x7_61 : Int32) (x5_61 : Int64) (x4_61 : Int32) => post x4_61) n61 ((u.2.2.2.2.2.1 0) + 1) r7 (u.2.2.2.2.2.1 0))) ∧ (¬ r5 = 0 → post (-2)))))))

def wpX5_count (u : XS) (p1 : Int32) (post : Int32 → Prop) : Prop := ((p1.toInt < 0 ∨ 5 < p1.toInt) → post (-2)) ∧ (p1 = 0 → post (u.2.2.2.2.2.1 0)) ∧ (p1 = 1 → post (u.1 9 0)) ∧ (p1 = 2 → wpX3_struckOnes u.1  (fun r2 : Int32 => post r2)) ∧ (p1 = 3 → post (u.2.1 9 0)) ∧ (p1 = 4 → post (u.2.2.2.1 9 0)) ∧ (p1 = 5 → post (u.2.2.2.2.1 9 0))

def wpX6_in (p1 : Int32) (p2 : Int32) (p3 : Int32) (post : Int32 → Prop) : Prop := (p1 < p2 → post 0) ∧ (¬ p1 < p2 → (p3 < p1 → post 0) ∧ (¬ p3 < p1 → post 1))

def wpX6_isGrain (p1 : Int32) (post : Int32 → Prop) : Prop := wpX6_in p1 0 2 (fun r1 : Int32 => (narrow .boolean (.int r1) = .int r1) ∧ post r1)

def wpX6_weeks_L44  (K44 : Int32 → MS → Prop) : Nat → Int32 → MS → Prop
  | 0, _, _ => False
  | n44 + 1, x3_44, w_44 => ((w_44.2.1 3) ≤ x3_44 → K44 x3_44 w_44) ∧ (¬ (w_44.2.1 3) ≤ x3_44 → vp_in x3_44 20 ∧ (wpX6_weeks_L44 K44 n44 (x3_44 + 1) ((va_up (va_up w_44.1 17 (upd (w_44.1 17) (x3_44.toNatClampNeg) (((w_44.1 17 x3_44.toNatClampNeg) - (((w_44.1 17 x3_44.toNatClampNeg) * (w_44.2.1 4)) / 1000))))) 20 (upd (w_44.1 20) (x3_44.toNatClampNeg) (((w_44.1 20 x3_44.toNatClampNeg) + (((w_44.1 17 x3_44.toNatClampNeg) * (w_44.2.1 4)) / 1000))))), w_44.2.1, w_44.2.2)))
def wpX6_weeks_L27 (p1 : Int32) (K27 : Int32 → MS → Prop) : Nat → Int32 → MS → Prop
  | 0, _, _ => False
  | n27 + 1, x2_27, w_27 => (p1 ≤ x2_27 → K27 x2_27 w_27) ∧ (¬ p1 ≤ x2_27 → ∃ n44 : Nat, wpX6_weeks_L44 (fun (x3_44 : Int32) (w_44 : MS) => wpX6_weeks_L27 p1 K27 n27 (x2_27 + 1) w_44) n44 0 (w_27.1, (upd w_27.2.1 0 (((w_27.2.1 0) + 1))), w_27.2.2))
def wpX6_weeks (w : MS) (p1 : Int32) (post : Int32 → MS → Prop) : Prop := wpX6_in p1 1 20 (fun r1 : Int32 => (r1 = 0 → post (-2) w) ∧ (¬ r1 = 0 → (((w.2.1 0) + p1) ≤ 200 → ∃ n27 : Nat, wpX6_weeks_L27 p1 (fun (x2_27 : Int32) (w_27 : MS) => post (w_27.2.1 0) w_27) n27 0 w) ∧ (¬ ((w.2.1 0) + p1) ≤ 200 → post (-2) w)))

def wpX6_sale (w : MS) (p1 : Int32) (p2 : Int32) (p3 : Int32) (p4 : Int32) (p5 : Int32) (post : Int32 → MS → Prop) : Prop := wpX6_in p1 0 9 (fun r1 : Int32 => (r1 = 0 → post (-2) w) ∧ (¬ r1 = 0 → wpX6_isGrain p2 (fun r3 : Int32 => (r3 = 0 → post (-2) w) ∧ (¬ r3 = 0 → wpX6_in p3 0 (w.2.1 0) (fun r5 : Int32 => (r5 = 0 → post (-2) w) ∧ (¬ r5 = 0 → wpX6_in p4 1 1000 (fun r7 : Int32 => (r7 = 0 → post (-2) w) ∧ (¬ r7 = 0 → wpX6_in p5 1 2000 (fun r9 : Int32 => (¬ r9 = 0 → (¬ (w.2.1 1) = 60 → vp_in (w.2.1 1) 60 ∧ (post ((((w.2.1 1) + 1)) - 1) ((va_up (va_up (va_up (va_up (va_up (va_up (va_up w.1 0 (upd (w.1 0) ((w.2.1 1).toNatClampNeg) (p1))) 1 (upd (w.1 1) ((w.2.1 1).toNatClampNeg) (p2))) 2 (upd (w.1 2) ((w.2.1 1).toNatClampNeg) (p3))) 3 (upd (w.1 3) ((w.2.1 1).toNatClampNeg) (p4))) 4 (upd (w.1 4) ((w.2.1 1).toNatClampNeg) (p5))) 5 (upd (w.1 5) ((w.2.1 1).toNatClampNeg) ((w.2.1 0)))) 6 (upd (w.1 6) ((w.2.1 1).toNatClampNeg) ((-1)))), (upd w.2.1 1 (((w.2.1 1) + 1))), w.2.2))) ∧ ((w.2.1 1) = 60 → post (-4) w)) ∧ (r9 = 0 → post (-2) w))))))))))

def wpX6_strike (w : MS) (p1 : Int32) (post : Int32 → MS → Prop) : Prop := wpX6_in p1 0 ((w.2.1 1) - 1) (fun r1 : Int32 => (¬ r1 = 0 → vp_in p1 60 ∧ (((w.1 6 p1.toNatClampNeg) = (-1) → post 1 ((va_up w.1 6 (upd (w.1 6) (p1.toNatClampNeg) ((w.2.1 0)))), w.2.1, w.2.2)) ∧ (¬ (w.1 6 p1.toNatClampNeg) = (-1) → post (-3) w))) ∧ (r1 = 0 → post (-2) w))

def wpX6_sold (w : MS) (p1 : Int32) (p2 : Int32) (post : Int32 → Prop) : Prop := wpX6_in p1 0 ((w.2.1 1) - 1) (fun r1 : Int32 => (¬ r1 = 0 → ((p2.toInt < 0 ∨ 6 < p2.toInt) → post (-2)) ∧ (p2 = 0 → vp_in p1 60 ∧ (post (w.1 0 p1.toNatClampNeg))) ∧ (p2 = 1 → vp_in p1 60 ∧ (post (w.1 1 p1.toNatClampNeg))) ∧ (p2 = 2 → vp_in p1 60 ∧ (post (w.1 2 p1.toNatClampNeg))) ∧ (p2 = 3 → vp_in p1 60 ∧ (post (w.1 3 p1.toNatClampNeg))) ∧ (p2 = 4 → vp_in p1 60 ∧ (post (w.1 4 p1.toNatClampNeg))) ∧ (p2 = 5 → vp_in p1 60 ∧ (post (w.1 5 p1.toNatClampNeg))) ∧ (p2 = 6 → vp_in p1 60 ∧ (post (w.1 6 p1.toNatClampNeg)))) ∧ (r1 = 0 → post (-2)))

def wpX6_isKnown (w : MS) (p1 : Int32) (p2 : Int32) (post : Int32 → Prop) : Prop := (p1 = (w.2.1 6) → post 0) ∧ (¬ p1 = (w.2.1 6) → vp_in p1 60 ∧ ((p2 < (w.1 5 p1.toNatClampNeg) → post 0) ∧ (¬ p2 < (w.1 5 p1.toNatClampNeg) → ((w.1 6 p1.toNatClampNeg) = (-1) → post 1) ∧ (¬ (w.1 6 p1.toNatClampNeg) = (-1) → ((w.1 6 p1.toNatClampNeg) ≤ p2 → post 0) ∧ (¬ (w.1 6 p1.toNatClampNeg) ≤ p2 → post 1)))))

def wpX6_weeklyAt_L17 (w : MS) (p1 : Int32) (p3 : Int32) (x4_3 : Int32) (K17 : Int32 → Int64 → Int64 → Prop) : Nat → Int32 → Int64 → Int64 → Prop
  | 0, _, _, _ => False
  | n17 + 1, x9_17, x7_17, x5_17 => ((w.2.1 1) ≤ x9_17 → K17 x9_17 x7_17 x5_17) ∧ (¬ (w.2.1 1) ≤ x9_17 → vp_in x9_17 60 ∧ ((¬ (w.1 1 x9_17.toNatClampNeg) = p1 → wpX6_weeklyAt_L17 w p1 p3 x4_3 K17 n17 (x9_17 + 1) x7_17 x5_17) ∧ ((w.1 1 x9_17.toNatClampNeg) = p1 → (¬ (w.1 2 x9_17.toNatClampNeg) = x4_3 → wpX6_weeklyAt_L17 w p1 p3 x4_3 K17 n17 (x9_17 + 1) x7_17 x5_17) ∧ ((w.1 2 x9_17.toNatClampNeg) = x4_3 → wpX6_isKnown w x9_17 p3 (fun r6 : Int32 => (r6 = 0 → wpX6_weeklyAt_L17 w p1 p3 x4_3 K17 n17 (x9_17 + 1) x7_17 x5_17) ∧ (¬ r6 = 0 → wpX6_weeklyAt_L17 w p1 p3 x4_3 K17 n17 (x9_17 + 1) (x7_17 + ((w.1 3 x9_17.toNatClampNeg).toInt64)) (x5_17 + (((w.1 4 x9_17.toNatClampNeg).toInt64) * ((w.1 3 x9_17.toNatClampNeg).toInt64)))))))))
def wpX6_weeklyAt_L3 (w : MS) (p1 : Int32) (p3 : Int32) (post : Int32 → Prop) (K3 : Int32 → Prop) : Nat → Int32 → Prop
  | 0, _ => False
  | n3 + 1, x4_3 => (x4_3 < 0 → K3 x4_3) ∧ (¬ x4_3 < 0 → ∃ n17 : Nat, wpX6_weeklyAt_L17 w p1 p3 x4_3 (fun (x9_17 : Int32) (x7_17 : Int64) (x5_17 : Int64) => ((lg_cmp x7_17 0) ≤ 0 → wpX6_weeklyAt_L3 w p1 p3 post K3 n3 (x4_3 + (-1))) ∧ (¬ (lg_cmp x7_17 0) ≤ 0 → (¬ x7_17 = 0) ∧ (post ((x5_17 / x7_17).toInt32)))) n17 0 0 0)
def wpX6_weeklyAt (w : MS) (p1 : Int32) (p2 : Int32) (p3 : Int32) (post : Int32 → Prop) : Prop := ∃ n3 : Nat, wpX6_weeklyAt_L3 w p1 p3 post (fun (x4_3 : Int32) => post (-1)) n3 p2

def wpX6_weekly (w : MS) (p1 : Int32) (p2 : Int32) (p3 : Int32) (post : Int32 → Prop) : Prop := wpX6_isGrain p1 (fun r1 : Int32 => (r1 = 0 → post (-2)) ∧ (¬ r1 = 0 → wpX6_in p2 0 200 (fun r3 : Int32 => (r3 = 0 → post (-2)) ∧ (¬ r3 = 0 → wpX6_in p3 0 200 (fun r5 : Int32 => (r5 = 0 → post (-2)) ∧ (¬ r5 = 0 → wpX6_weeklyAt w p1 p2 p3 (fun r7 : Int32 => post r7)))))))

def wpX6_averageAt_L9 (w : MS) (p1 : Int32) (p2 : Int32) (p3 : Int32) (post : Int32 → Prop) (K9 : Int32 → Int32 → Prop) : Nat → Int32 → Int32 → Prop
  | 0, _, _ => False
  | n9 + 1, x5_9, x4_9 => (p2 ≤ x5_9 → K9 x5_9 x4_9) ∧ (¬ p2 ≤ x5_9 → (0 ≤ x5_9 → wpX6_weeklyAt w p1 x5_9 p3 (fun r3 : Int32 => (¬ r3 = (-1) → wpX6_averageAt_L9 w p1 p2 p3 post K9 n9 (x5_9 + 1) (x4_9 + r3)) ∧ (r3 = (-1) → post (-1)))) ∧ (¬ 0 ≤ x5_9 → (¬ ((-1) : Int32) = (-1) → wpX6_averageAt_L9 w p1 p2 p3 post K9 n9 (x5_9 + 1) (x4_9 + (-1))) ∧ (((-1) : Int32) = (-1) → post (-1))))
def wpX6_averageAt (w : MS) (p1 : Int32) (p2 : Int32) (p3 : Int32) (post : Int32 → Prop) : Prop := ∃ n9 : Nat, wpX6_averageAt_L9 w p1 p2 p3 post (fun (x5_9 : Int32) (x4_9 : Int32) => post (x4_9 / 6)) n9 (p2 - 6) 0

def wpX6_average (w : MS) (p1 : Int32) (p2 : Int32) (post : Int32 → Prop) : Prop := wpX6_isGrain p1 (fun r1 : Int32 => (r1 = 0 → post (-2)) ∧ (¬ r1 = 0 → wpX6_in p2 0 220 (fun r3 : Int32 => (r3 = 0 → post (-2)) ∧ (¬ r3 = 0 → wpX6_averageAt w p1 p2 p2 (fun r5 : Int32 => post r5)))))

def wpX6_towns_L30 (w : MS) (p1 : Int32) (p2 : Int32) (K30 : Int32 → Int32 → Prop) : Nat → Int32 → Int32 → Prop
  | 0, _, _ => False
  | n30 + 1, x4_30, x3_30 => ((w.2.1 1) ≤ x4_30 → K30 x4_30 x3_30) ∧ (¬ (w.2.1 1) ≤ x4_30 → vp_in x4_30 60 ∧ ((¬ (w.1 2 x4_30.toNatClampNeg) = p1 → wpX6_towns_L30 w p1 p2 K30 n30 (x4_30 + 1) (x3_30 ||| 0)) ∧ ((w.1 2 x4_30.toNatClampNeg) = p1 → wpX6_isKnown w x4_30 p2 (fun r8 : Int32 => (r8 = 0 → wpX6_towns_L30 w p1 p2 K30 n30 (x4_30 + 1) (x3_30 ||| 0)) ∧ (¬ r8 = 0 → wpX6_towns_L30 w p1 p2 K30 n30 (x4_30 + 1) (x3_30 ||| (1 <<< ((w.1 0 x4_30.toNatClampNeg) &&& 31))))))))
def wpX6_towns_L88 (x3_30 : Int32) (K88 : Int32 → Int32 → Prop) : Nat → Int32 → Int32 → Prop
  | 0, _, _ => False
  | n88 + 1, x5_88, x4_88 => (10 ≤ x5_88 → K88 x5_88 x4_88) ∧ (¬ 10 ≤ x5_88 → wpX6_towns_L88 x3_30 K88 n88 (x5_88 + 1) (x4_88 + ((x3_30 >>> (x5_88 &&& 31)) &&& 1)))
def wpX6_towns (w : MS) (p1 : Int32) (p2 : Int32) (post : Int32 → Prop) : Prop := wpX6_in p1 0 200 (fun r1 : Int32 => (r1 = 0 → post (-2)) ∧ (¬ r1 = 0 → wpX6_in p2 0 200 (fun r3 : Int32 => (¬ r3 = 0 → ∃ n30 : Nat, wpX6_towns_L30 w p1 p2 (fun (x4_30 : Int32) (x3_30 : Int32) => ∃ n88 : Nat, wpX6_towns_L88 x3_30 (fun (x5_88 : Int32) (x4_88 : Int32) => post x4_88) n88 0 0) n30 0 0) ∧ (r3 = 0 → post (-2)))))

def wpX6_scale (w : MS) (p1 : Int32) (p2 : Int32) (post : Int32 → MS → Prop) : Prop := wpX6_isGrain p1 (fun r1 : Int32 => (r1 = 0 → post (-2) w) ∧ (¬ r1 = 0 → wpX6_in p2 (w.2.1 0) 200 (fun r3 : Int32 => (¬ r3 = 0 → (¬ (w.2.1 2) = 8 → vp_in (w.2.1 2) 8 ∧ (post ((((w.2.1 2) + 1)) - 1) ((va_up (va_up (va_up (va_up w.1 7 (upd (w.1 7) ((w.2.1 2).toNatClampNeg) (p1))) 8 (upd (w.1 8) ((w.2.1 2).toNatClampNeg) (p2))) 9 (upd (w.1 9) ((w.2.1 2).toNatClampNeg) ((w.2.1 0)))) 10 (upd (w.1 10) ((w.2.1 2).toNatClampNeg) (0))), (upd w.2.1 2 (((w.2.1 2) + 1))), w.2.2))) ∧ ((w.2.1 2) = 8 → post (-4) w)) ∧ (r3 = 0 → post (-2) w))))

def wpX6_isScale (w : MS) (p1 : Int32) (post : Int32 → Prop) : Prop := wpX6_in p1 0 ((w.2.1 2) - 1) (fun r1 : Int32 => (narrow .boolean (.int r1) = .int r1) ∧ post r1)

def wpX6_step_J64 (w : MS) (p1 : Int32) (p2 : Int32) (p3 : Int32) (post : Int32 → MS → Prop)  : Prop := vp_in p1 8 ∧ (((w.2.1 0) < (w.1 8 p1.toNatClampNeg) → (¬ (w.1 10 p1.toNatClampNeg) = 8 → vp_in ((8 * p1) + (w.1 10 p1.toNatClampNeg)) 64 ∧ (∀ w5 : MS, w5 = (va_up w.1 11 (upd (w.1 11) (((8 * p1) + (w.1 10 p1.toNatClampNeg)).toNatClampNeg) (p2)), w.2.1, w.2.2) → vp_in ((8 * p1) + (w5.1 10 p1.toNatClampNeg)) 64 ∧ (∀ w7 : MS, w7 = (va_up w5.1 12 (upd (w5.1 12) (((8 * p1) + (w5.1 10 p1.toNatClampNeg)).toNatClampNeg) (p3)), w5.2.1, w5.2.2) → ∀ w8 : MS, w8 = (va_up w7.1 10 (upd (w7.1 10) (p1.toNatClampNeg) (((w7.1 10 p1.toNatClampNeg) + 1))), w7.2.1, w7.2.2) → post (w8.1 10 p1.toNatClampNeg) w8))) ∧ ((w.1 10 p1.toNatClampNeg) = 8 → post (-4) w)) ∧ (¬ (w.2.1 0) < (w.1 8 p1.toNatClampNeg) → ((w.1 9 p1.toNatClampNeg) = (w.2.1 0) → (¬ (w.1 10 p1.toNatClampNeg) = 8 → vp_in ((8 * p1) + (w.1 10 p1.toNatClampNeg)) 64 ∧ (∀ w12 : MS, w12 = (va_up w.1 11 (upd (w.1 11) (((8 * p1) + (w.1 10 p1.toNatClampNeg)).toNatClampNeg) (p2)), w.2.1, w.2.2) → vp_in ((8 * p1) + (w12.1 10 p1.toNatClampNeg)) 64 ∧ (∀ w14 : MS, w14 = (va_up w12.1 12 (upd (w12.1 12) (((8 * p1) + (w12.1 10 p1.toNatClampNeg)).toNatClampNeg) (p3)), w12.2.1, w12.2.2) → ∀ w15 : MS, w15 = (va_up w14.1 10 (upd (w14.1 10) (p1.toNatClampNeg) (((w14.1 10 p1.toNatClampNeg) + 1))), w14.2.1, w14.2.2) → post (w15.1 10 p1.toNatClampNeg) w15))) ∧ ((w.1 10 p1.toNatClampNeg) = 8 → post (-4) w)) ∧ (¬ (w.1 9 p1.toNatClampNeg) = (w.2.1 0) → post (-3) w)))
def wpX6_step (w : MS) (p1 : Int32) (p2 : Int32) (p3 : Int32) (post : Int32 → MS → Prop) : Prop := wpX6_isScale w p1 (fun r16 : Int32 => (r16 = 0 → post (-2) w) ∧ (¬ r16 = 0 → wpX6_in p2 0 2000 (fun r18 : Int32 => (r18 = 0 → post (-2) w) ∧ (¬ r18 = 0 → wpX6_in p3 0 2000 (fun r20 : Int32 => (r20 = 0 → post (-2) w) ∧ (¬ r20 = 0 → vp_in p1 8 ∧ (((w.1 10 p1.toNatClampNeg) ≤ 0 → wpX6_step_J64 w p1 p2 p3 post ) ∧ (¬ (w.1 10 p1.toNatClampNeg) ≤ 0 → vp_in (((8 * p1) + (w.1 10 p1.toNatClampNeg)) - 1) 64 ∧ (((w.1 11 (((8 * p1) + (w.1 10 p1.toNatClampNeg)) - 1).toNatClampNeg) < p2 → wpX6_step_J64 w p1 p2 p3 post ) ∧ (¬ (w.1 11 (((8 * p1) + (w.1 10 p1.toNatClampNeg)) - 1).toNatClampNeg) < p2 → post (-2) w))))))))))

def wpX6_hang_L63 (w : MS) (p1 : Int32) (K63 : Int32 → Int32 → Prop) : Nat → Int32 → Int32 → Prop
  | 0, _, _ => False
  | n63 + 1, x6_63, x5_63 => (3 ≤ x6_63 → K63 x6_63 x5_63) ∧ (¬ 3 ≤ x6_63 → (¬ x5_63 = 0 → wpX6_hang_L63 w p1 K63 n63 (x6_63 + 1) 1) ∧ (x5_63 = 0 → vp_in x6_63 3 ∧ ((¬ (w.1 13 x6_63.toNatClampNeg) = p1 → wpX6_hang_L63 w p1 K63 n63 (x6_63 + 1) 0) ∧ ((w.1 13 x6_63.toNatClampNeg) = p1 → wpX6_hang_L63 w p1 K63 n63 (x6_63 + 1) 1))))
def wpX6_hang (w : MS) (p1 : Int32) (p2 : Int32) (p3 : Int32) (p4 : Int32) (post : Int32 → MS → Prop) : Prop := wpX6_isGrain p1 (fun r1 : Int32 => (r1 = 0 → post (-2) w) ∧ (¬ r1 = 0 → wpX6_isGrain p2 (fun r3 : Int32 => (r3 = 0 → post (-2) w) ∧ (¬ r3 = 0 → (p1 = p2 → post (-2) w) ∧ (¬ p1 = p2 → wpX6_in p3 1 100 (fun r6 : Int32 => (r6 = 0 → post (-2) w) ∧ (¬ r6 = 0 → wpX6_in p4 1 100 (fun r8 : Int32 => (¬ r8 = 0 → vp_in p2 3 ∧ (((w.1 13 p2.toNatClampNeg) = (-1) → ∃ n63 : Nat, wpX6_hang_L63 w p1 (fun (x6_63 : Int32) (x5_63 : Int32) => (x5_63 = 0 → vp_in p1 3 ∧ (post 1 ((va_up (va_up (va_up w.1 13 (upd (w.1 13) (p1.toNatClampNeg) (p2))) 14 (upd (w.1 14) (p1.toNatClampNeg) (p3))) 15 (upd (w.1 15) (p1.toNatClampNeg) (p4))), w.2.1, w.2.2))) ∧ (¬ x5_63 = 0 → post (-3) w)) n63 0 0) ∧ (¬ (w.1 13 p2.toNatClampNeg) = (-1) → ∃ n63 : Nat, wpX6_hang_L63 w p1 (fun (x6_63 : Int32) (x5_63 : Int32) => (x5_63 = 0 → vp_in p1 3 ∧ (post 1 ((va_up (va_up (va_up w.1 13 (upd (w.1 13) (p1.toNatClampNeg) (p2))) 14 (upd (w.1 14) (p1.toNatClampNeg) (p3))) 15 (upd (w.1 15) (p1.toNatClampNeg) (p4))), w.2.1, w.2.2))) ∧ (¬ x5_63 = 0 → post (-3) w)) n63 0 1))) ∧ (r8 = 0 → post (-2) w)))))))))

def wpX6_unhang (w : MS) (p1 : Int32) (post : Int32 → MS → Prop) : Prop := wpX6_isGrain p1 (fun r1 : Int32 => (¬ r1 = 0 → vp_in p1 3 ∧ ((¬ (w.1 13 p1.toNatClampNeg) = (-1) → post 1 ((va_up w.1 13 (upd (w.1 13) (p1.toNatClampNeg) ((-1)))), w.2.1, w.2.2)) ∧ ((w.1 13 p1.toNatClampNeg) = (-1) → post (-3) w))) ∧ (r1 = 0 → post (-2) w))

def wpX6_forceAt_L5 (w : MS) (p1 : Int32) (p2 : Int32) (K5 : Int32 → Int32 → Prop) : Nat → Int32 → Int32 → Prop
  | 0, _, _ => False
  | n5 + 1, x4_5, x3_5 => ((w.2.1 2) ≤ x4_5 → K5 x4_5 x3_5) ∧ (¬ (w.2.1 2) ≤ x4_5 → vp_in x4_5 8 ∧ ((¬ (w.1 7 x4_5.toNatClampNeg) = p1 → wpX6_forceAt_L5 w p1 p2 K5 n5 (x4_5 + 1) x3_5) ∧ ((w.1 7 x4_5.toNatClampNeg) = p1 → ((w.1 10 x4_5.toNatClampNeg) ≤ 0 → wpX6_forceAt_L5 w p1 p2 K5 n5 (x4_5 + 1) x3_5) ∧ (¬ (w.1 10 x4_5.toNatClampNeg) ≤ 0 → (p2 < (w.1 8 x4_5.toNatClampNeg) → wpX6_forceAt_L5 w p1 p2 K5 n5 (x4_5 + 1) x3_5) ∧ (¬ p2 < (w.1 8 x4_5.toNatClampNeg) → (x3_5 = (-1) → wpX6_forceAt_L5 w p1 p2 K5 n5 (x4_5 + 1) x4_5) ∧ (¬ x3_5 = (-1) → vp_in x3_5 8 ∧ (((w.1 8 x4_5.toNatClampNeg) < (w.1 8 x3_5.toNatClampNeg) → wpX6_forceAt_L5 w p1 p2 K5 n5 (x4_5 + 1) x3_5) ∧ (¬ (w.1 8 x4_5.toNatClampNeg) < (w.1 8 x3_5.toNatClampNeg) → wpX6_forceAt_L5 w p1 p2 K5 n5 (x4_5 + 1) x4_5))))))))
def wpX6_forceAt (w : MS) (p1 : Int32) (p2 : Int32) (post : Int32 → Prop) : Prop := ∃ n5 : Nat, wpX6_forceAt_L5 w p1 p2 (fun (x4_5 : Int32) (x3_5 : Int32) => post x3_5) n5 0 (-1)

def wpX6_force (w : MS) (p1 : Int32) (p2 : Int32) (post : Int32 → Prop) : Prop := wpX6_isGrain p1 (fun r1 : Int32 => (r1 = 0 → post (-2)) ∧ (¬ r1 = 0 → wpX6_in p2 0 220 (fun r3 : Int32 => (r3 = 0 → post (-2)) ∧ (¬ r3 = 0 → wpX6_forceAt w p1 p2 (fun r5 : Int32 => post r5)))))

def wpX6_ownDuty_L69 (w : MS) (j0 : Int32) (r4 : Int32) (K69 : Int32 → Int32 → Prop) : Nat → Int32 → Int32 → Prop
  | 0, _, _ => False
  | n69 + 1, x7_69, x6_69 => ((w.1 10 j0.toNatClampNeg) ≤ x7_69 → K69 x7_69 x6_69) ∧ (¬ (w.1 10 j0.toNatClampNeg) ≤ x7_69 → vp_in ((8 * j0) + x7_69) 64 ∧ ((r4 < (w.1 11 ((8 * j0) + x7_69).toNatClampNeg) → wpX6_ownDuty_L69 w j0 r4 K69 n69 (x7_69 + 1) x6_69) ∧ (¬ r4 < (w.1 11 ((8 * j0) + x7_69).toNatClampNeg) → wpX6_ownDuty_L69 w j0 r4 K69 n69 (x7_69 + 1) x7_69)))
def wpX6_ownDuty_J34 (w : MS) (p1 : Int32) (p2 : Int32) (p3 : Int32) (post : Int32 → Prop) (j0 : Int32) : Prop := (j0 = (-1) → post 0) ∧ (¬ j0 = (-1) → vp_in j0 8 ∧ ((¬ (w.1 10 j0.toNatClampNeg) = 0 → wpX6_averageAt w p1 p2 p3 (fun r4 : Int32 => ∃ n69 : Nat, wpX6_ownDuty_L69 w j0 r4 (fun (x7_69 : Int32) (x6_69 : Int32) => vp_in ((8 * j0) + x6_69) 64 ∧ (post (w.1 12 ((8 * j0) + x6_69).toNatClampNeg))) n69 1 0)) ∧ ((w.1 10 j0.toNatClampNeg) = 0 → post 0)))
def wpX6_ownDuty (w : MS) (p1 : Int32) (p2 : Int32) (p3 : Int32) (post : Int32 → Prop) : Prop := ((w.2.1 7) = (-1) → wpX6_forceAt w p1 p2 (fun r10 : Int32 => wpX6_ownDuty_J34 w p1 p2 p3 post r10)) ∧ (¬ (w.2.1 7) = (-1) → vp_in (w.2.1 7) 8 ∧ ((¬ (w.1 7 (w.2.1 7).toNatClampNeg) = p1 → wpX6_forceAt w p1 p2 (fun r13 : Int32 => wpX6_ownDuty_J34 w p1 p2 p3 post r13)) ∧ ((w.1 7 (w.2.1 7).toNatClampNeg) = p1 → wpX6_ownDuty_J34 w p1 p2 p3 post (w.2.1 7))))

def wpX6_dutyAt (w : MS) (p1 : Int32) (p2 : Int32) (p3 : Int32) (post : Int32 → Prop) : Prop := vp_in p1 3 ∧ ((¬ (w.1 13 p1.toNatClampNeg) = (-1) → wpX6_ownDuty w (w.1 13 p1.toNatClampNeg) p2 p3 (fun r3 : Int32 => (¬ (w.1 15 p1.toNatClampNeg) = 0) ∧ (post ((r3 * (w.1 14 p1.toNatClampNeg)) / (w.1 15 p1.toNatClampNeg))))) ∧ ((w.1 13 p1.toNatClampNeg) = (-1) → wpX6_ownDuty w p1 p2 p3 (fun r4 : Int32 => post r4)))

def wpX6_duty (w : MS) (p1 : Int32) (p2 : Int32) (post : Int32 → Prop) : Prop := wpX6_isGrain p1 (fun r1 : Int32 => (r1 = 0 → post (-2)) ∧ (¬ r1 = 0 → wpX6_in p2 0 220 (fun r3 : Int32 => (r3 = 0 → post (-2)) ∧ (¬ r3 = 0 → wpX6_dutyAt w p1 p2 p2 (fun r5 : Int32 => post r5)))))

def wpX6_cargo (w : MS) (p1 : Int32) (p2 : Int32) (post : Int32 → MS → Prop) : Prop := wpX6_isGrain p1 (fun r1 : Int32 => (r1 = 0 → post (-2) w) ∧ (¬ r1 = 0 → wpX6_in p2 1 10000 (fun r3 : Int32 => (¬ r3 = 0 → (¬ (w.2.1 3) = 20 → vp_in (w.2.1 3) 20 ∧ (post ((((w.2.1 3) + 1)) - 1) ((va_up (va_up (va_up (va_up (va_up (va_up w.1 16 (upd (w.1 16) ((w.2.1 3).toNatClampNeg) (p1))) 17 (upd (w.1 17) ((w.2.1 3).toNatClampNeg) (p2))) 18 (upd (w.1 18) ((w.2.1 3).toNatClampNeg) (0))) 19 (upd (w.1 19) ((w.2.1 3).toNatClampNeg) (0))) 20 (upd (w.1 20) ((w.2.1 3).toNatClampNeg) (0))) 21 (upd (w.1 21) ((w.2.1 3).toNatClampNeg) ((w.2.1 0)))), (upd w.2.1 3 (((w.2.1 3) + 1))), w.2.2))) ∧ ((w.2.1 3) = 20 → post (-4) w)) ∧ (r3 = 0 → post (-2) w))))

def wpX6_isCargo (w : MS) (p1 : Int32) (post : Int32 → Prop) : Prop := wpX6_in p1 0 ((w.2.1 3) - 1) (fun r1 : Int32 => (narrow .boolean (.int r1) = .int r1) ∧ post r1)

def wpX6_spoil (w : MS) (p1 : Int32) (post : Int32 → MS → Prop) : Prop := wpX6_in p1 0 100 (fun r1 : Int32 => (¬ r1 = 0 → post (w.2.1 4) (w.1, (upd w.2.1 4 (p1)), w.2.2)) ∧ (r1 = 0 → post (-2) w))

def wpX6_letOut (w : MS) (p1 : Int32) (p2 : Int32) (post : Int64 → MS → Prop) : Prop := wpX6_isCargo w p1 (fun r1 : Int32 => (r1 = 0 → post (-2) w) ∧ (¬ r1 = 0 → wpX6_in p2 1 10000 (fun r3 : Int32 => (¬ r3 = 0 → vp_in p1 20 ∧ ((p2 ≤ (w.1 17 p1.toNatClampNeg) → (¬ (w.2.1 5) = 100 → wpX6_dutyAt w (w.1 16 p1.toNatClampNeg) (w.2.1 0) (w.2.1 0) (fun r8 : Int32 => vp_in (w.2.1 5) 100 ∧ (post (p2.toInt64 * r8.toInt64) ((va_up (va_up (va_up (va_up (va_up w.1 17 (upd (w.1 17) (p1.toNatClampNeg) (((w.1 17 p1.toNatClampNeg) - p2)))) 18 (upd (w.1 18) (p1.toNatClampNeg) (((w.1 18 p1.toNatClampNeg) + p2)))) 22 (upd (w.1 22) ((w.2.1 5).toNatClampNeg) ((w.1 16 p1.toNatClampNeg)))) 23 (upd (w.1 23) ((w.2.1 5).toNatClampNeg) ((w.2.1 0)))) 24 (upd (w.1 24) ((w.2.1 5).toNatClampNeg) (p2))), (upd w.2.1 5 (((w.2.1 5) + 1))), (((w.2.2) + (p2.toInt64 * r8.toInt64))))))) ∧ ((w.2.1 5) = 100 → post (-4) w)) ∧ (¬ p2 ≤ (w.1 17 p1.toNatClampNeg) → post (-3) w))) ∧ (r3 = 0 → post (-2) w))))

def wpX6_ship (w : MS) (p1 : Int32) (p2 : Int32) (post : Int32 → MS → Prop) : Prop := wpX6_isCargo w p1 (fun r1 : Int32 => (r1 = 0 → post (-2) w) ∧ (¬ r1 = 0 → wpX6_in p2 1 10000 (fun r3 : Int32 => (¬ r3 = 0 → vp_in p1 20 ∧ ((p2 ≤ (w.1 17 p1.toNatClampNeg) → post ((upd (w.1 17) (p1.toNatClampNeg) (((w.1 17 p1.toNatClampNeg) - p2))) p1.toNatClampNeg) ((va_up (va_up w.1 17 (upd (w.1 17) (p1.toNatClampNeg) (((w.1 17 p1.toNatClampNeg) - p2)))) 19 (upd (w.1 19) (p1.toNatClampNeg) (((w.1 19 p1.toNatClampNeg) + p2)))), w.2.1, w.2.2)) ∧ (¬ p2 ≤ (w.1 17 p1.toNatClampNeg) → post (-3) w))) ∧ (r3 = 0 → post (-2) w))))

def wpX6_bond (w : MS) (p1 : Int32) (p2 : Int32) (post : Int32 → Prop) : Prop := wpX6_isCargo w p1 (fun r1 : Int32 => (¬ r1 = 0 → ((p2.toInt < 0 ∨ 5 < p2.toInt) → post (-2)) ∧ (p2 = 0 → vp_in p1 20 ∧ (post (w.1 16 p1.toNatClampNeg))) ∧ (p2 = 1 → vp_in p1 20 ∧ (post (w.1 17 p1.toNatClampNeg))) ∧ (p2 = 2 → vp_in p1 20 ∧ (post (w.1 18 p1.toNatClampNeg))) ∧ (p2 = 3 → vp_in p1 20 ∧ (post (w.1 19 p1.toNatClampNeg))) ∧ (p2 = 4 → vp_in p1 20 ∧ (post (w.1 20 p1.toNatClampNeg))) ∧ (p2 = 5 → vp_in p1 20 ∧ (post (w.1 21 p1.toNatClampNeg)))) ∧ (r1 = 0 → post (-2)))

def wpX6_chest (w : MS) (post : Int64 → Prop) : Prop := post (w.2.2)

def wpX6_paidAnew_L4 (w : MS) (K4 : Int32 → Int64 → Prop) : Nat → Int32 → Int64 → Prop
  | 0, _, _ => False
  | n4 + 1, x3_4, x1_4 => ((w.2.1 5) ≤ x3_4 → K4 x3_4 x1_4) ∧ (¬ (w.2.1 5) ≤ x3_4 → vp_in x3_4 100 ∧ (wpX6_dutyAt w (w.1 22 x3_4.toNatClampNeg) (w.1 23 x3_4.toNatClampNeg) (w.1 23 x3_4.toNatClampNeg) (fun r3 : Int32 => wpX6_paidAnew_L4 w K4 n4 (x3_4 + 1) (x1_4 + (((w.1 24 x3_4.toNatClampNeg).toInt64) * r3.toInt64)))))
def wpX6_paidAnew (w : MS) (post : Int64 → Prop) : Prop := ∃ n4 : Nat, wpX6_paidAnew_L4 w (fun (x3_4 : Int32) (x1_4 : Int64) => post x1_4) n4 0 0

def wpX6_worth (w : MS) (p1 : Int32) (post : Int64 → MS → Prop) : Prop := wpX6_in p1 0 ((w.2.1 1) - 1) (fun r1 : Int32 => (¬ r1 = 0 → wpX6_paidAnew (w.1, (upd w.2.1 6 (p1)), w.2.2)  (fun r3 : Int64 => post (r3 - (w.2.2)) (w.1, (upd (upd w.2.1 6 (p1)) 6 ((-1))), w.2.2))) ∧ (r1 = 0 → post (-9223372036854775808) w))

def wpX6_other (w : MS) (p1 : Int32) (post : Int64 → MS → Prop) : Prop := wpX6_isScale w p1 (fun r1 : Int32 => (¬ r1 = 0 → wpX6_paidAnew (w.1, (upd w.2.1 7 (p1)), w.2.2)  (fun r3 : Int64 => post r3 (w.1, (upd (upd w.2.1 7 (p1)) 7 ((-1))), w.2.2))) ∧ (r1 = 0 → post (-2) w))

def wpX6_gainAt_L14 (w : MS) (p2 : Int32) (K14 : Int32 → Int32 → Prop) : Nat → Int32 → Int32 → Prop
  | 0, _, _ => False
  | n14 + 1, x5_14, x4_14 => (p2 ≤ x5_14 → K14 x5_14 x4_14) ∧ (¬ p2 ≤ x5_14 → wpX6_gainAt_L14 w p2 K14 n14 (x5_14 + 1) (x4_14 - ((x4_14 * (w.2.1 4)) / 1000)))
def wpX6_gainAt (w : MS) (p1 : Int32) (p2 : Int32) (p3 : Int32) (post : Int64 → Prop) : Prop := vp_in p1 20 ∧ (∃ n14 : Nat, wpX6_gainAt_L14 w p2 (fun (x5_14 : Int32) (x4_14 : Int32) => wpX6_dutyAt w (w.1 16 p1.toNatClampNeg) p2 (w.2.1 0) (fun r3 : Int32 => post (x4_14.toInt64 * ((p3 - r3).toInt64)))) n14 (w.2.1 0) (w.1 17 p1.toNatClampNeg))

def wpX6_gain (w : MS) (p1 : Int32) (p2 : Int32) (p3 : Int32) (post : Int64 → Prop) : Prop := wpX6_isCargo w p1 (fun r1 : Int32 => (r1 = 0 → post (-9223372036854775808)) ∧ (¬ r1 = 0 → wpX6_in p2 (w.2.1 0) ((w.2.1 0) + 20) (fun r3 : Int32 => (r3 = 0 → post (-9223372036854775808)) ∧ (¬ r3 = 0 → wpX6_in p3 0 2000 (fun r5 : Int32 => (r5 = 0 → post (-9223372036854775808)) ∧ (¬ r5 = 0 → wpX6_gainAt w p1 p2 p3 (fun r7 : Int64 => post r7)))))))

def wpX6_best_L46 (w : MS) (p1 : Int32) (p2 : Int32) (p3 : Int32) (K46 : Int32 → Int32 → Prop) : Nat → Int32 → Int32 → Prop
  | 0, _, _ => False
  | n46 + 1, x5_46, x4_46 => (((w.2.1 0) + p2) < x5_46 → K46 x5_46 x4_46) ∧ (¬ ((w.2.1 0) + p2) < x5_46 → wpX6_gainAt w p1 x5_46 p3 (fun r8 : Int64 => wpX6_gainAt w p1 x4_46 p3 (fun r9 : Int64 => ((lg_cmp r8 r9) ≤ 0 → wpX6_best_L46 w p1 p2 p3 K46 n46 (x5_46 + 1) x4_46) ∧ (¬ (lg_cmp r8 r9) ≤ 0 → wpX6_best_L46 w p1 p2 p3 K46 n46 (x5_46 + 1) x5_46))))
def wpX6_best (w : MS) (p1 : Int32) (p2 : Int32) (p3 : Int32) (post : Int32 → Prop) : Prop := wpX6_isCargo w p1 (fun r1 : Int32 => (r1 = 0 → post (-2)) ∧ (¬ r1 = 0 → wpX6_in p2 0 20 (fun r3 : Int32 => (r3 = 0 → post (-2)) ∧ (¬ r3 = 0 → wpX6_in p3 0 2000 (fun r5 : Int32 => (¬ r5 = 0 → ∃ n46 : Nat, wpX6_best_L46 w p1 p2 p3 (fun (x5_46 : Int32) (x4_46 : Int32) => post x4_46) n46 ((w.2.1 0) + 1) (w.2.1 0)) ∧ (r5 = 0 → post (-2)))))))

def wpX6_count_L52 (w : MS) (K52 : Int32 → Int32 → Prop) : Nat → Int32 → Int32 → Prop
  | 0, _, _ => False
  | n52 + 1, x3_52, x2_52 => ((w.2.1 1) ≤ x3_52 → K52 x3_52 x2_52) ∧ (¬ (w.2.1 1) ≤ x3_52 → vp_in x3_52 60 ∧ (((w.1 6 x3_52.toNatClampNeg) = (-1) → wpX6_count_L52 w K52 n52 (x3_52 + 1) (x2_52 + 0)) ∧ (¬ (w.1 6 x3_52.toNatClampNeg) = (-1) → wpX6_count_L52 w K52 n52 (x3_52 + 1) (x2_52 + 1))))
def wpX6_count (w : MS) (p1 : Int32) (post : Int32 → Prop) : Prop := ((p1.toInt < 0 ∨ 5 < p1.toInt) → post (-2)) ∧ (p1 = 0 → post (w.2.1 0)) ∧ (p1 = 1 → post (w.2.1 1)) ∧ (p1 = 2 → ∃ n52 : Nat, wpX6_count_L52 w (fun (x3_52 : Int32) (x2_52 : Int32) => post x2_52) n52 0 0) ∧ (p1 = 3 → post (w.2.1 2)) ∧ (p1 = 4 → post (w.2.1 3)) ∧ (p1 = 5 → post (w.2.1 5))
end
section
/-! X6_in -/
set_option maxHeartbeats 4000000 in
set_option maxRecDepth 100000 in
theorem cX6_in_ok (l : Launch) (p1 : Int32) (p2 : Int32) (p3 : Int32) (post : Int32 → Prop) (h : wpX6_in p1 p2 p3 post) : Met l yX6_in wsX6_in ({ frames := 0, cells := 0, slots := 0, locals := 0 } : Room) (zPs [.int p1, .int p2, .int p3]) (vp_Si post) 0 0 (fun _ => False) := by
  refine Met.ofW (cc := cX6_in) (maxL := 3) (ret := (some .boolean)) (by decide) rfl ?_
  intro p e s m args below meth c s₁ B hml hv
  obtain ⟨rfl, -⟩ := hv
  have hx := B.exec
  have hb := B.bytes
  have hr := B.returns
  have hts := atoms_spec (ws := wsX6_in) B.pre
  have hown : s.vm.findClass RX6 = some m.cls := findClass_of_methodNamed B.named
  have hlocks := B.notSynchronized
  have hl := lv_entry ([.int p1, .int p2, .int p3]) (n := 3) (Nat.le_of_ble_eq_true rfl)
  rw [lg_entry_eq]
  generalize (lg_sl ([.int p1, .int p2, .int p3]) ++ List.replicate (3 - (lg_sl ([.int p1, .int p2, .int p3])).length) Slot.unset).toArray = ls at hl ⊢
  have hl : lv_has ls 3 [(0, .int p1), (1, .int p2), (2, .int p3)] := hl
  unfold wpX6_in at h
  refine lv_iload_n hx hb dX6_in_0 rfl (lv_at hl 0 rfl) ?_
  refine lv_iload_n hx hb dX6_in_1 rfl (lv_at hl 1 rfl) ?_
  refine lv_icmp_lt (tgt := 14) hx hb dX6_in_2 (by decide) (fun c1 => ?_) (fun c1 => ?_)
  · replace h := h.1 c1
    refine lv_iconst (v := 0) hx hb dX6_in_14 (by decide) ?_
    exact W.zret (v := 0) (ty := .boolean) hx hb hr (by decide) (fun t ht hW => ⟨0, rfl, h, ht⟩) (fun _ h9 => by cases h9) dX6_in_15
  · replace h := h.2 c1
    refine lv_iload_n hx hb dX6_in_5 rfl (lv_at hl 0 rfl) ?_
    refine lv_iload_n hx hb dX6_in_6 rfl (lv_at hl 2 rfl) ?_
    refine lv_icmp_gt (tgt := 14) hx hb dX6_in_7 (by decide) (fun c2 => ?_) (fun c2 => ?_)
    · replace h := h.1 c2
      refine lv_iconst (v := 0) hx hb dX6_in_14 (by decide) ?_
      exact W.zret (v := 0) (ty := .boolean) hx hb hr (by decide) (fun t ht hW => ⟨0, rfl, h, ht⟩) (fun _ h9 => by cases h9) dX6_in_15
    · replace h := h.2 c2
      refine lv_iconst (v := 1) hx hb dX6_in_10 (by decide) ?_
      refine lv_goto (tgt := 15) hx hb dX6_in_11 (by decide) ?_
      exact W.zret (v := 1) (ty := .boolean) hx hb hr (by decide) (fun t ht hW => ⟨1, rfl, h, ht⟩) (fun _ h9 => by cases h9) dX6_in_15

/-! X6_isGrain -/
set_option maxHeartbeats 4000000 in
set_option maxRecDepth 100000 in
theorem cX6_isGrain_ok (l : Launch) (p1 : Int32) (post : Int32 → Prop) (h : wpX6_isGrain p1 post) : Met l yX6_isGrain wsX6_isGrain ({ frames := 1, cells := 0, slots := 0, locals := 22 } : Room) (zPs [.int p1]) (vp_Si post) 0 0 (fun _ => False) := by
  refine Met.ofW (cc := cX6_isGrain) (maxL := 1) (ret := (some .boolean)) (by decide) rfl ?_
  intro p e s m args below meth c s₁ B hml hv
  obtain ⟨rfl, -⟩ := hv
  have hx := B.exec
  have hb := B.bytes
  have hr := B.returns
  have hts := atoms_spec (ws := wsX6_isGrain) B.pre
  have hown : s.vm.findClass RX6 = some m.cls := findClass_of_methodNamed B.named
  have hlocks := B.notSynchronized
  have hl := lv_entry ([.int p1]) (n := 1) (Nat.le_of_ble_eq_true rfl)
  rw [lg_entry_eq]
  generalize (lg_sl ([.int p1]) ++ List.replicate (1 - (lg_sl ([.int p1])).length) Slot.unset).toArray = ls at hl ⊢
  have hl : lv_has ls 1 [(0, .int p1)] := hl
  unfold wpX6_isGrain at h
  refine lv_iload_n hx hb dX6_isGrain_0 rfl (lv_at hl 0 rfl) ?_
  refine lv_iconst (v := 0) hx hb dX6_isGrain_1 (by decide) ?_
  refine lv_iconst (v := 2) hx hb dX6_isGrain_2 (by decide) ?_
  refine vp_callSi (W.runS (As := [.int p1, .int 0, .int 2]) (rest := []) ⟨hx, hb, hml, hown, hts⟩ (cX6_in_ok l p1 0 2 _ h) (va_cwS 3 hts gX6_isGrain_X6_in rfl rfl rfl (by decide +kernel) ⟨Nat.le_of_ble_eq_true rfl, Nat.le_of_ble_eq_true rfl⟩) z_preS rfl rfl hl.1 rfl (lv_room (Nat.le_of_ble_eq_true rfl)) dX6_isGrain_3 ⟨Nat.le_of_ble_eq_true rfl, Nat.le_of_ble_eq_true rfl⟩) (fun r1 h => ?_)
  obtain ⟨hnar, h⟩ := h
  exact W.zret (v := r1) (ty := .boolean) hx hb hr hnar (fun t ht hW => ⟨r1, rfl, h, ht⟩) (fun _ h9 => by cases h9) dX6_isGrain_6
end
section
/-! X6_isScale -/
set_option maxRecDepth 20000 in
theorem wdX6_isScale_0 : Cond.fieldLink RX6 123 "CornLawsModel" "scales" "I" ∈ wsX6_isScale := by decide +kernel
set_option maxRecDepth 20000 in
theorem inX6_isScale_6 : ∀ w ∈ wsX60, w ∈ wsX6_isScale := by decide +kernel
set_option maxHeartbeats 4000000 in
set_option maxRecDepth 100000 in
theorem cX6_isScale_ok (l : Launch) (D : va_G) (cI cII : ClassId) (q : Nat → Nat) (w : MS) (p1 : Int32) (post : Int32 → Prop) (h : wpX6_isScale w p1 post) : Met l yX6_isScale wsX6_isScale ({ frames := 1, cells := 0, slots := 0, locals := 22 } : Room) (zPc [.ref (q 0), .int p1] D cI cII (wM cI q w)) (vp_Si post) 0 0 (fun _ => False) := by
  refine Met.ofW (cc := cX6_isScale) (maxL := 2) (ret := (some .boolean)) (by decide) rfl ?_
  intro p e s m args below meth c s₁ B hml hv
  obtain ⟨rfl, hP, hK⟩ := hv
  have hx := B.exec
  have hb := B.bytes
  have hr := B.returns
  have hts := atoms_spec (ws := wsX6_isScale) B.pre
  have hown : s.vm.findClass RX6 = some m.cls := findClass_of_methodNamed B.named
  have hlocks := B.notSynchronized
  have hl := lv_entry ([.ref (q 0), .int p1]) (n := 2) (Nat.le_of_ble_eq_true rfl)
  rw [lg_entry_eq]
  generalize (lg_sl ([.ref (q 0), .int p1]) ++ List.replicate (2 - (lg_sl ([.ref (q 0), .int p1])).length) Slot.unset).toArray = ls at hl ⊢
  have hl : lv_has ls 2 [(0, .ref (q 0)), (1, .int p1)] := hl
  unfold wpX6_isScale at h
  refine lv_iload_n hx hb dX6_isScale_0 rfl (lv_at hl 1 rfl) ?_
  refine lv_iconst (v := 0) hx hb dX6_isScale_1 (by decide) ?_
  refine lv_aload_n hx hb dX6_isScale_2 rfl (lv_at hl 0 rfl) ?_
  refine va_get (D := D) (ci := 6) (v := .int (w.2.1 2)) (C := RX6) (T := TX6) (N := 34) hx hb hts inX6_isScale_6 hown hK hP 0 rfl rfl 9 (by decide) (hts (.fieldLink RX6 123 "CornLawsModel" "scales" "I") wdX6_isScale_0) (fun _ h9 => h9) rfl dX6_isScale_3 ?_
  refine lv_iconst (v := 1) hx hb dX6_isScale_6 (by decide) ?_
  refine lv_isub hx hb dX6_isScale_7 ?_
  refine vp_callSi (W.runS (As := [.int p1, .int 0, .int ((w.2.1 2) - 1)]) (rest := []) ⟨hx, hb, hml, hown, hts⟩ (cX6_in_ok l p1 0 ((w.2.1 2) - 1) _ h) (va_cwS 3 hts gX6_isScale_X6_in rfl rfl rfl (by decide +kernel) ⟨Nat.le_of_ble_eq_true rfl, Nat.le_of_ble_eq_true rfl⟩) z_preS rfl rfl hl.1 rfl (lv_room (Nat.le_of_ble_eq_true rfl)) dX6_isScale_8 ⟨Nat.le_of_ble_eq_true rfl, Nat.le_of_ble_eq_true rfl⟩) (fun r1 h => ?_)
  obtain ⟨hnar, h⟩ := h
  exact W.zret (v := r1) (ty := .boolean) hx hb hr hnar (fun t ht hW => ⟨r1, rfl, h, ht⟩) (fun _ h9 => by cases h9) dX6_isScale_11

/-! X6_step -/
set_option maxRecDepth 20000 in
theorem wdX6_step_0 : Cond.fieldLink RX6 40 "CornLawsModel" "stepMany" "[I" ∈ wsX6_step := by decide +kernel
set_option maxRecDepth 20000 in
theorem wdX6_step_1 : Cond.fieldLink RX6 34 "CornLawsModel" "scaleWeek" "[I" ∈ wsX6_step := by decide +kernel
set_option maxRecDepth 20000 in
theorem wdX6_step_2 : Cond.fieldLink RX6 96 "CornLawsModel" "week" "I" ∈ wsX6_step := by decide +kernel
set_option maxRecDepth 20000 in
theorem wdX6_step_3 : Cond.fieldLink RX6 43 "CornLawsModel" "stepPrice" "[I" ∈ wsX6_step := by decide +kernel
set_option maxRecDepth 20000 in
theorem wdX6_step_4 : Cond.fieldLink RX6 46 "CornLawsModel" "stepDuty" "[I" ∈ wsX6_step := by decide +kernel
set_option maxRecDepth 20000 in
theorem wdX6_step_5 : Cond.fieldLink RX6 37 "CornLawsModel" "scaleTold" "[I" ∈ wsX6_step := by decide +kernel
set_option maxRecDepth 20000 in
theorem inX6_step_6 : ∀ w ∈ wsX60, w ∈ wsX6_step := by decide +kernel
set_option maxHeartbeats 4000000 in
set_option maxRecDepth 100000 in
theorem cX6_step_ok (l : Launch) (D : va_G) (cI cII : ClassId) (q : Nat → Nat) (w : MS) (p1 : Int32) (p2 : Int32) (p3 : Int32) (post : Int32 → MS → Prop) (h : wpX6_step w p1 p2 p3 post) : Met l yX6_step wsX6_step ({ frames := 2, cells := 0, slots := 0, locals := 43 } : Room) (zPm [.ref (q 0), .int p1, .int p2, .int p3] D cI cII (wM cI q w)) (va_Qi post (fun (z : MS) (t : State) => va_P D vwCl (wM cI q z) t.heap) (z_in (wM cI q w))) 0 0 (z_in (wM cI q w)) := by
  refine Met.ofW (cc := cX6_step) (maxL := 4) (ret := (some .int)) (by decide) rfl ?_
  intro p e s m args below meth c s₁ B hml hv
  obtain ⟨rfl, hP, hK, hD0⟩ := hv
  have hx := B.exec
  have hb := B.bytes
  have hr := B.returns
  have hts := atoms_spec (ws := wsX6_step) B.pre
  have hown : s.vm.findClass RX6 = some m.cls := findClass_of_methodNamed B.named
  have hlocks := B.notSynchronized
  have hD := z_Dself hD0
  generalize hAe : z_in (wM cI q w) = A at hD ⊢
  have hS : va_S A s.heap s.heap [] := va_S.rf
  have hl := lv_entry ([.ref (q 0), .int p1, .int p2, .int p3]) (n := 4) (Nat.le_of_ble_eq_true rfl)
  rw [lg_entry_eq]
  generalize (lg_sl ([.ref (q 0), .int p1, .int p2, .int p3]) ++ List.replicate (4 - (lg_sl ([.ref (q 0), .int p1, .int p2, .int p3])).length) Slot.unset).toArray = ls at hl ⊢
  have hl : lv_has ls 4 [(0, .ref (q 0)), (1, .int p1), (2, .int p2), (3, .int p3)] := hl
  unfold wpX6_step at h
  have hJ : wpX6_step_J64 w p1 p2 p3 post  → ∀ ls : Array Slot, lv_has ls 4 [(0, .ref (q 0)), (1, .int p1), (2, .int p2), (3, .int p3)] → W p l e (headSpec wsX6_step ({ frames := 2, cells := 0, slots := 0, locals := 43 } : Room)).room s m ([.ref (q 0), .int p1, .int p2, .int p3] : List Value).toArray below meth c s.heap [] 0 0 (MQ below (va_Qi post (fun (z : MS) (t : State) => va_P D vwCl (wM cI q z) t.heap) A) ([.ref (q 0), .int p1, .int p2, .int p3] : List Value).toArray s 0 0 A) (F0 m 64 ls []) := by
    intro  h ls hl
    unfold wpX6_step_J64 at h
    refine lv_aload_n hx hb dX6_step_64 rfl (lv_at hl 0 rfl) ?_
    refine va_get (D := D) (ci := 6) (v := .ref (q 9)) (C := RX6) (T := TX6) (N := 34) hx hb hts inX6_step_6 hown hK hP 0 rfl rfl 11 (by decide) (hts (.fieldLink RX6 34 "CornLawsModel" "scaleWeek" "[I") wdX6_step_1) (fun _ h9 => h9) rfl dX6_step_65 ?_
    refine lv_iload_n hx hb dX6_step_68 rfl (lv_at hl 1 rfl) ?_
    obtain ⟨hi1, h⟩ := h
    refine va_iald (f := w.1 8) hx hb hK hP 9 0 rfl rfl hi1 dX6_step_69 ?_
    refine lv_aload_n hx hb dX6_step_70 rfl (lv_at hl 0 rfl) ?_
    refine va_get (D := D) (ci := 6) (v := .int (w.2.1 0)) (C := RX6) (T := TX6) (N := 34) hx hb hts inX6_step_6 hown hK hP 0 rfl rfl 0 (by decide) (hts (.fieldLink RX6 96 "CornLawsModel" "week" "I") wdX6_step_2) (fun _ h9 => h9) rfl dX6_step_71 ?_
    refine lv_icmp_gt (tgt := 93) hx hb dX6_step_74 (by decide) (fun c2 => ?_) (fun c2 => ?_)
    · replace h := h.1 c2
      refine lv_aload_n hx hb dX6_step_93 rfl (lv_at hl 0 rfl) ?_
      refine va_get (D := D) (ci := 6) (v := .ref (q 11)) (C := RX6) (T := TX6) (N := 34) hx hb hts inX6_step_6 hown hK hP 0 rfl rfl 13 (by decide) (hts (.fieldLink RX6 40 "CornLawsModel" "stepMany" "[I") wdX6_step_0) (fun _ h9 => h9) rfl dX6_step_94 ?_
      refine lv_iload_n hx hb dX6_step_97 rfl (lv_at hl 1 rfl) ?_
      refine va_iald (f := w.1 10) hx hb hK hP 11 0 rfl rfl hi1 dX6_step_98 ?_
      refine lv_bipush (v := 8) hx hb dX6_step_99 (by decide) ?_
      refine lv_icmp_ne (tgt := 107) hx hb dX6_step_101 (by decide) (fun c3 => ?_) (fun c3 => ?_)
      · replace h := h.1 c3
        refine lv_aload_n hx hb dX6_step_107 rfl (lv_at hl 0 rfl) ?_
        refine va_get (D := D) (ci := 6) (v := .ref (q 12)) (C := RX6) (T := TX6) (N := 34) hx hb hts inX6_step_6 hown hK hP 0 rfl rfl 14 (by decide) (hts (.fieldLink RX6 43 "CornLawsModel" "stepPrice" "[I") wdX6_step_3) (fun _ h9 => h9) rfl dX6_step_108 ?_
        refine lv_bipush (v := 8) hx hb dX6_step_111 (by decide) ?_
        refine lv_iload_n hx hb dX6_step_113 rfl (lv_at hl 1 rfl) ?_
        refine lv_imul hx hb dX6_step_114 ?_
        refine lv_aload_n hx hb dX6_step_115 rfl (lv_at hl 0 rfl) ?_
        refine va_get (D := D) (ci := 6) (v := .ref (q 11)) (C := RX6) (T := TX6) (N := 34) hx hb hts inX6_step_6 hown hK hP 0 rfl rfl 13 (by decide) (hts (.fieldLink RX6 40 "CornLawsModel" "stepMany" "[I") wdX6_step_0) (fun _ h9 => h9) rfl dX6_step_116 ?_
        refine lv_iload_n hx hb dX6_step_119 rfl (lv_at hl 1 rfl) ?_
        refine va_iald (f := w.1 10) hx hb hK hP 11 0 rfl rfl hi1 dX6_step_120 ?_
        refine lv_iadd hx hb dX6_step_121 ?_
        refine lv_iload_n hx hb dX6_step_122 rfl (lv_at hl 2 rfl) ?_
        obtain ⟨hi4, h⟩ := h
        refine va_iast (f := w.1 11) hx hb hK hP hD hS 12 0 rfl rfl hi4 dX6_step_123 (fun H locs hP hD hS => ?_)
        rw [z_setM11] at hP hD
        obtain ⟨w5, ew5⟩ : ∃ z, z = (va_up w.1 11 (upd (w.1 11) (((8 * p1) + (w.1 10 p1.toNatClampNeg)).toNatClampNeg) (p2)), w.2.1, w.2.2) := ⟨_, rfl⟩
        rw [← ew5] at hP hD
        replace h := h w5 ew5
        refine lv_aload_n hx hb dX6_step_124 rfl (lv_at hl 0 rfl) ?_
        refine va_get (D := D) (ci := 6) (v := .ref (q 13)) (C := RX6) (T := TX6) (N := 34) hx hb hts inX6_step_6 hown hK hP 0 rfl rfl 15 (by decide) (hts (.fieldLink RX6 46 "CornLawsModel" "stepDuty" "[I") wdX6_step_4) (fun _ h9 => h9) rfl dX6_step_125 ?_
        refine lv_bipush (v := 8) hx hb dX6_step_128 (by decide) ?_
        refine lv_iload_n hx hb dX6_step_130 rfl (lv_at hl 1 rfl) ?_
        refine lv_imul hx hb dX6_step_131 ?_
        refine lv_aload_n hx hb dX6_step_132 rfl (lv_at hl 0 rfl) ?_
        refine va_get (D := D) (ci := 6) (v := .ref (q 11)) (C := RX6) (T := TX6) (N := 34) hx hb hts inX6_step_6 hown hK hP 0 rfl rfl 13 (by decide) (hts (.fieldLink RX6 40 "CornLawsModel" "stepMany" "[I") wdX6_step_0) (fun _ h9 => h9) rfl dX6_step_133 ?_
        refine lv_iload_n hx hb dX6_step_136 rfl (lv_at hl 1 rfl) ?_
        refine va_iald (f := w5.1 10) hx hb hK hP 11 0 rfl rfl hi1 dX6_step_137 ?_
        refine lv_iadd hx hb dX6_step_138 ?_
        refine lv_iload_n hx hb dX6_step_139 rfl (lv_at hl 3 rfl) ?_
        obtain ⟨hi6, h⟩ := h
        refine va_iast (f := w5.1 12) hx hb hK hP hD hS 13 0 rfl rfl hi6 dX6_step_140 (fun H locs hP hD hS => ?_)
        rw [z_setM12] at hP hD
        obtain ⟨w7, ew7⟩ : ∃ z, z = (va_up w5.1 12 (upd (w5.1 12) (((8 * p1) + (w5.1 10 p1.toNatClampNeg)).toNatClampNeg) (p3)), w5.2.1, w5.2.2) := ⟨_, rfl⟩
        rw [← ew7] at hP hD
        replace h := h w7 ew7
        refine lv_aload_n hx hb dX6_step_141 rfl (lv_at hl 0 rfl) ?_
        refine va_get (D := D) (ci := 6) (v := .ref (q 11)) (C := RX6) (T := TX6) (N := 34) hx hb hts inX6_step_6 hown hK hP 0 rfl rfl 13 (by decide) (hts (.fieldLink RX6 40 "CornLawsModel" "stepMany" "[I") wdX6_step_0) (fun _ h9 => h9) rfl dX6_step_142 ?_
        refine lv_iload_n hx hb dX6_step_145 rfl (lv_at hl 1 rfl) ?_
        refine lv_dup2_11 hx hb dX6_step_146 rfl rfl ?_
        refine va_iald (f := w7.1 10) hx hb hK hP 11 0 rfl rfl hi1 dX6_step_147 ?_
        refine lv_iconst (v := 1) hx hb dX6_step_148 (by decide) ?_
        refine lv_iadd hx hb dX6_step_149 ?_
        refine va_iast (f := w7.1 10) hx hb hK hP hD hS 11 0 rfl rfl hi1 dX6_step_150 (fun H locs hP hD hS => ?_)
        rw [z_setM10] at hP hD
        obtain ⟨w8, ew8⟩ : ∃ z, z = (va_up w7.1 10 (upd (w7.1 10) (p1.toNatClampNeg) (((w7.1 10 p1.toNatClampNeg) + 1))), w7.2.1, w7.2.2) := ⟨_, rfl⟩
        rw [← ew8] at hP hD
        replace h := h w8 ew8
        refine lv_aload_n hx hb dX6_step_151 rfl (lv_at hl 0 rfl) ?_
        refine va_get (D := D) (ci := 6) (v := .ref (q 11)) (C := RX6) (T := TX6) (N := 34) hx hb hts inX6_step_6 hown hK hP 0 rfl rfl 13 (by decide) (hts (.fieldLink RX6 40 "CornLawsModel" "stepMany" "[I") wdX6_step_0) (fun _ h9 => h9) rfl dX6_step_152 ?_
        refine lv_iload_n hx hb dX6_step_155 rfl (lv_at hl 1 rfl) ?_
        refine va_iald (f := w8.1 10) hx hb hK hP 11 0 rfl rfl hi1 dX6_step_156 ?_
        exact W.iret (v := (w8.1 10 p1.toNatClampNeg)) hx hb hr (fun t ht hW => ⟨⟨(w8.1 10 p1.toNatClampNeg), w8, rfl, h, by show va_P D vwCl _ t.heap; rw [ht]; exact hP⟩, hS.F ht⟩) hS.2.2 dX6_step_157
      · replace h := h.2 c3
        refine lv_bipush (v := (-4)) hx hb dX6_step_104 (by decide) ?_
        exact W.iret (v := (-4)) hx hb hr (fun t ht hW => ⟨⟨(-4), w, rfl, h, by show va_P D vwCl _ t.heap; rw [ht]; exact hP⟩, hS.F ht⟩) hS.2.2 dX6_step_106
    · replace h := h.2 c2
      refine lv_aload_n hx hb dX6_step_77 rfl (lv_at hl 0 rfl) ?_
      refine va_get (D := D) (ci := 6) (v := .ref (q 10)) (C := RX6) (T := TX6) (N := 34) hx hb hts inX6_step_6 hown hK hP 0 rfl rfl 12 (by decide) (hts (.fieldLink RX6 37 "CornLawsModel" "scaleTold" "[I") wdX6_step_5) (fun _ h9 => h9) rfl dX6_step_78 ?_
      refine lv_iload_n hx hb dX6_step_81 rfl (lv_at hl 1 rfl) ?_
      refine va_iald (f := w.1 9) hx hb hK hP 10 0 rfl rfl hi1 dX6_step_82 ?_
      refine lv_aload_n hx hb dX6_step_83 rfl (lv_at hl 0 rfl) ?_
      refine va_get (D := D) (ci := 6) (v := .int (w.2.1 0)) (C := RX6) (T := TX6) (N := 34) hx hb hts inX6_step_6 hown hK hP 0 rfl rfl 0 (by decide) (hts (.fieldLink RX6 96 "CornLawsModel" "week" "I") wdX6_step_2) (fun _ h9 => h9) rfl dX6_step_84 ?_
      refine lv_icmp_eq (tgt := 93) hx hb dX6_step_87 (by decide) (fun c9 => ?_) (fun c9 => ?_)
      · replace h := h.1 c9
        refine lv_aload_n hx hb dX6_step_93 rfl (lv_at hl 0 rfl) ?_
        refine va_get (D := D) (ci := 6) (v := .ref (q 11)) (C := RX6) (T := TX6) (N := 34) hx hb hts inX6_step_6 hown hK hP 0 rfl rfl 13 (by decide) (hts (.fieldLink RX6 40 "CornLawsModel" "stepMany" "[I") wdX6_step_0) (fun _ h9 => h9) rfl dX6_step_94 ?_
        refine lv_iload_n hx hb dX6_step_97 rfl (lv_at hl 1 rfl) ?_
        refine va_iald (f := w.1 10) hx hb hK hP 11 0 rfl rfl hi1 dX6_step_98 ?_
        refine lv_bipush (v := 8) hx hb dX6_step_99 (by decide) ?_
        refine lv_icmp_ne (tgt := 107) hx hb dX6_step_101 (by decide) (fun c10 => ?_) (fun c10 => ?_)
        · replace h := h.1 c10
          refine lv_aload_n hx hb dX6_step_107 rfl (lv_at hl 0 rfl) ?_
          refine va_get (D := D) (ci := 6) (v := .ref (q 12)) (C := RX6) (T := TX6) (N := 34) hx hb hts inX6_step_6 hown hK hP 0 rfl rfl 14 (by decide) (hts (.fieldLink RX6 43 "CornLawsModel" "stepPrice" "[I") wdX6_step_3) (fun _ h9 => h9) rfl dX6_step_108 ?_
          refine lv_bipush (v := 8) hx hb dX6_step_111 (by decide) ?_
          refine lv_iload_n hx hb dX6_step_113 rfl (lv_at hl 1 rfl) ?_
          refine lv_imul hx hb dX6_step_114 ?_
          refine lv_aload_n hx hb dX6_step_115 rfl (lv_at hl 0 rfl) ?_
          refine va_get (D := D) (ci := 6) (v := .ref (q 11)) (C := RX6) (T := TX6) (N := 34) hx hb hts inX6_step_6 hown hK hP 0 rfl rfl 13 (by decide) (hts (.fieldLink RX6 40 "CornLawsModel" "stepMany" "[I") wdX6_step_0) (fun _ h9 => h9) rfl dX6_step_116 ?_
          refine lv_iload_n hx hb dX6_step_119 rfl (lv_at hl 1 rfl) ?_
          refine va_iald (f := w.1 10) hx hb hK hP 11 0 rfl rfl hi1 dX6_step_120 ?_
          refine lv_iadd hx hb dX6_step_121 ?_
          refine lv_iload_n hx hb dX6_step_122 rfl (lv_at hl 2 rfl) ?_
          obtain ⟨hi11, h⟩ := h
          refine va_iast (f := w.1 11) hx hb hK hP hD hS 12 0 rfl rfl hi11 dX6_step_123 (fun H locs hP hD hS => ?_)
          rw [z_setM11] at hP hD
          obtain ⟨w12, ew12⟩ : ∃ z, z = (va_up w.1 11 (upd (w.1 11) (((8 * p1) + (w.1 10 p1.toNatClampNeg)).toNatClampNeg) (p2)), w.2.1, w.2.2) := ⟨_, rfl⟩
          rw [← ew12] at hP hD
          replace h := h w12 ew12
          refine lv_aload_n hx hb dX6_step_124 rfl (lv_at hl 0 rfl) ?_
          refine va_get (D := D) (ci := 6) (v := .ref (q 13)) (C := RX6) (T := TX6) (N := 34) hx hb hts inX6_step_6 hown hK hP 0 rfl rfl 15 (by decide) (hts (.fieldLink RX6 46 "CornLawsModel" "stepDuty" "[I") wdX6_step_4) (fun _ h9 => h9) rfl dX6_step_125 ?_
          refine lv_bipush (v := 8) hx hb dX6_step_128 (by decide) ?_
          refine lv_iload_n hx hb dX6_step_130 rfl (lv_at hl 1 rfl) ?_
          refine lv_imul hx hb dX6_step_131 ?_
          refine lv_aload_n hx hb dX6_step_132 rfl (lv_at hl 0 rfl) ?_
          refine va_get (D := D) (ci := 6) (v := .ref (q 11)) (C := RX6) (T := TX6) (N := 34) hx hb hts inX6_step_6 hown hK hP 0 rfl rfl 13 (by decide) (hts (.fieldLink RX6 40 "CornLawsModel" "stepMany" "[I") wdX6_step_0) (fun _ h9 => h9) rfl dX6_step_133 ?_
          refine lv_iload_n hx hb dX6_step_136 rfl (lv_at hl 1 rfl) ?_
          refine va_iald (f := w12.1 10) hx hb hK hP 11 0 rfl rfl hi1 dX6_step_137 ?_
          refine lv_iadd hx hb dX6_step_138 ?_
          refine lv_iload_n hx hb dX6_step_139 rfl (lv_at hl 3 rfl) ?_
          obtain ⟨hi13, h⟩ := h
          refine va_iast (f := w12.1 12) hx hb hK hP hD hS 13 0 rfl rfl hi13 dX6_step_140 (fun H locs hP hD hS => ?_)
          rw [z_setM12] at hP hD
          obtain ⟨w14, ew14⟩ : ∃ z, z = (va_up w12.1 12 (upd (w12.1 12) (((8 * p1) + (w12.1 10 p1.toNatClampNeg)).toNatClampNeg) (p3)), w12.2.1, w12.2.2) := ⟨_, rfl⟩
          rw [← ew14] at hP hD
          replace h := h w14 ew14
          refine lv_aload_n hx hb dX6_step_141 rfl (lv_at hl 0 rfl) ?_
          refine va_get (D := D) (ci := 6) (v := .ref (q 11)) (C := RX6) (T := TX6) (N := 34) hx hb hts inX6_step_6 hown hK hP 0 rfl rfl 13 (by decide) (hts (.fieldLink RX6 40 "CornLawsModel" "stepMany" "[I") wdX6_step_0) (fun _ h9 => h9) rfl dX6_step_142 ?_
          refine lv_iload_n hx hb dX6_step_145 rfl (lv_at hl 1 rfl) ?_
          refine lv_dup2_11 hx hb dX6_step_146 rfl rfl ?_
          refine va_iald (f := w14.1 10) hx hb hK hP 11 0 rfl rfl hi1 dX6_step_147 ?_
          refine lv_iconst (v := 1) hx hb dX6_step_148 (by decide) ?_
          refine lv_iadd hx hb dX6_step_149 ?_
          refine va_iast (f := w14.1 10) hx hb hK hP hD hS 11 0 rfl rfl hi1 dX6_step_150 (fun H locs hP hD hS => ?_)
          rw [z_setM10] at hP hD
          obtain ⟨w15, ew15⟩ : ∃ z, z = (va_up w14.1 10 (upd (w14.1 10) (p1.toNatClampNeg) (((w14.1 10 p1.toNatClampNeg) + 1))), w14.2.1, w14.2.2) := ⟨_, rfl⟩
          rw [← ew15] at hP hD
          replace h := h w15 ew15
          refine lv_aload_n hx hb dX6_step_151 rfl (lv_at hl 0 rfl) ?_
          refine va_get (D := D) (ci := 6) (v := .ref (q 11)) (C := RX6) (T := TX6) (N := 34) hx hb hts inX6_step_6 hown hK hP 0 rfl rfl 13 (by decide) (hts (.fieldLink RX6 40 "CornLawsModel" "stepMany" "[I") wdX6_step_0) (fun _ h9 => h9) rfl dX6_step_152 ?_
          refine lv_iload_n hx hb dX6_step_155 rfl (lv_at hl 1 rfl) ?_
          refine va_iald (f := w15.1 10) hx hb hK hP 11 0 rfl rfl hi1 dX6_step_156 ?_
          exact W.iret (v := (w15.1 10 p1.toNatClampNeg)) hx hb hr (fun t ht hW => ⟨⟨(w15.1 10 p1.toNatClampNeg), w15, rfl, h, by show va_P D vwCl _ t.heap; rw [ht]; exact hP⟩, hS.F ht⟩) hS.2.2 dX6_step_157
        · replace h := h.2 c10
          refine lv_bipush (v := (-4)) hx hb dX6_step_104 (by decide) ?_
          exact W.iret (v := (-4)) hx hb hr (fun t ht hW => ⟨⟨(-4), w, rfl, h, by show va_P D vwCl _ t.heap; rw [ht]; exact hP⟩, hS.F ht⟩) hS.2.2 dX6_step_106
      · replace h := h.2 c9
        refine lv_bipush (v := (-3)) hx hb dX6_step_90 (by decide) ?_
        exact W.iret (v := (-3)) hx hb hr (fun t ht hW => ⟨⟨(-3), w, rfl, h, by show va_P D vwCl _ t.heap; rw [ht]; exact hP⟩, hS.F ht⟩) hS.2.2 dX6_step_92
  refine lv_aload_n hx hb dX6_step_0 rfl (lv_at hl 0 rfl) ?_
  refine lv_iload_n hx hb dX6_step_1 rfl (lv_at hl 1 rfl) ?_
  refine vp_callSi (W.runV (C := RX6) (As := [.int p1]) (rest := []) ⟨hx, hb, hml, hown, hts⟩ (cX6_isScale_ok l D cI cII q w p1 _ h) (cwV 1 hts gX6_step_X6_isScale rfl rfl rfl (by decide +kernel) ⟨Nat.le_of_ble_eq_true rfl, Nat.le_of_ble_eq_true rfl⟩) (z_preV hK hP rfl rfl) rfl rfl hl.1 rfl (lv_room (Nat.le_of_ble_eq_true rfl)) dX6_step_2 ⟨Nat.le_of_ble_eq_true rfl, Nat.le_of_ble_eq_true rfl⟩) (fun r16 h => ?_)
  refine lv_if_eq (tgt := 61) hx hb dX6_step_5 (by decide) (fun c17 => ?_) (fun c17 => ?_)
  · replace h := h.1 c17
    refine lv_bipush (v := (-2)) hx hb dX6_step_61 (by decide) ?_
    exact W.iret (v := (-2)) hx hb hr (fun t ht hW => ⟨⟨(-2), w, rfl, h, by show va_P D vwCl _ t.heap; rw [ht]; exact hP⟩, hS.F ht⟩) hS.2.2 dX6_step_63
  · replace h := h.2 c17
    refine lv_iload_n hx hb dX6_step_8 rfl (lv_at hl 2 rfl) ?_
    refine lv_iconst (v := 0) hx hb dX6_step_9 (by decide) ?_
    refine lv_sipush (v := 2000) hx hb dX6_step_10 (by decide) ?_
    refine vp_callSi (W.runS (As := [.int p2, .int 0, .int 2000]) (rest := []) ⟨hx, hb, hml, hown, hts⟩ (cX6_in_ok l p2 0 2000 _ h) (va_cwS 3 hts gX6_step_X6_in rfl rfl rfl (by decide +kernel) ⟨Nat.le_of_ble_eq_true rfl, Nat.le_of_ble_eq_true rfl⟩) z_preS rfl rfl hl.1 rfl (lv_room (Nat.le_of_ble_eq_true rfl)) dX6_step_13 ⟨Nat.le_of_ble_eq_true rfl, Nat.le_of_ble_eq_true rfl⟩) (fun r18 h => ?_)
    refine lv_if_eq (tgt := 61) hx hb dX6_step_16 (by decide) (fun c19 => ?_) (fun c19 => ?_)
    · replace h := h.1 c19
      refine lv_bipush (v := (-2)) hx hb dX6_step_61 (by decide) ?_
      exact W.iret (v := (-2)) hx hb hr (fun t ht hW => ⟨⟨(-2), w, rfl, h, by show va_P D vwCl _ t.heap; rw [ht]; exact hP⟩, hS.F ht⟩) hS.2.2 dX6_step_63
    · replace h := h.2 c19
      refine lv_iload_n hx hb dX6_step_19 rfl (lv_at hl 3 rfl) ?_
      refine lv_iconst (v := 0) hx hb dX6_step_20 (by decide) ?_
      refine lv_sipush (v := 2000) hx hb dX6_step_21 (by decide) ?_
      refine vp_callSi (W.runS (As := [.int p3, .int 0, .int 2000]) (rest := []) ⟨hx, hb, hml, hown, hts⟩ (cX6_in_ok l p3 0 2000 _ h) (va_cwS 3 hts gX6_step_X6_in rfl rfl rfl (by decide +kernel) ⟨Nat.le_of_ble_eq_true rfl, Nat.le_of_ble_eq_true rfl⟩) z_preS rfl rfl hl.1 rfl (lv_room (Nat.le_of_ble_eq_true rfl)) dX6_step_24 ⟨Nat.le_of_ble_eq_true rfl, Nat.le_of_ble_eq_true rfl⟩) (fun r20 h => ?_)
      refine lv_if_eq (tgt := 61) hx hb dX6_step_27 (by decide) (fun c21 => ?_) (fun c21 => ?_)
      · replace h := h.1 c21
        refine lv_bipush (v := (-2)) hx hb dX6_step_61 (by decide) ?_
        exact W.iret (v := (-2)) hx hb hr (fun t ht hW => ⟨⟨(-2), w, rfl, h, by show va_P D vwCl _ t.heap; rw [ht]; exact hP⟩, hS.F ht⟩) hS.2.2 dX6_step_63
      · replace h := h.2 c21
        refine lv_aload_n hx hb dX6_step_30 rfl (lv_at hl 0 rfl) ?_
        refine va_get (D := D) (ci := 6) (v := .ref (q 11)) (C := RX6) (T := TX6) (N := 34) hx hb hts inX6_step_6 hown hK hP 0 rfl rfl 13 (by decide) (hts (.fieldLink RX6 40 "CornLawsModel" "stepMany" "[I") wdX6_step_0) (fun _ h9 => h9) rfl dX6_step_31 ?_
        refine lv_iload_n hx hb dX6_step_34 rfl (lv_at hl 1 rfl) ?_
        obtain ⟨hi22, h⟩ := h
        refine va_iald (f := w.1 10) hx hb hK hP 11 0 rfl rfl hi22 dX6_step_35 ?_
        refine lv_if_le (tgt := 64) hx hb dX6_step_36 (by decide) (fun c23 => ?_) (fun c23 => ?_)
        · replace h := h.1 c23
          exact hJ  h ls (lv_sub hl [0, 1, 2, 3] rfl)
        · replace h := h.2 c23
          refine lv_iload_n hx hb dX6_step_39 rfl (lv_at hl 2 rfl) ?_
          refine lv_aload_n hx hb dX6_step_40 rfl (lv_at hl 0 rfl) ?_
          refine va_get (D := D) (ci := 6) (v := .ref (q 12)) (C := RX6) (T := TX6) (N := 34) hx hb hts inX6_step_6 hown hK hP 0 rfl rfl 14 (by decide) (hts (.fieldLink RX6 43 "CornLawsModel" "stepPrice" "[I") wdX6_step_3) (fun _ h9 => h9) rfl dX6_step_41 ?_
          refine lv_bipush (v := 8) hx hb dX6_step_44 (by decide) ?_
          refine lv_iload_n hx hb dX6_step_46 rfl (lv_at hl 1 rfl) ?_
          refine lv_imul hx hb dX6_step_47 ?_
          refine lv_aload_n hx hb dX6_step_48 rfl (lv_at hl 0 rfl) ?_
          refine va_get (D := D) (ci := 6) (v := .ref (q 11)) (C := RX6) (T := TX6) (N := 34) hx hb hts inX6_step_6 hown hK hP 0 rfl rfl 13 (by decide) (hts (.fieldLink RX6 40 "CornLawsModel" "stepMany" "[I") wdX6_step_0) (fun _ h9 => h9) rfl dX6_step_49 ?_
          refine lv_iload_n hx hb dX6_step_52 rfl (lv_at hl 1 rfl) ?_
          refine va_iald (f := w.1 10) hx hb hK hP 11 0 rfl rfl hi22 dX6_step_53 ?_
          refine lv_iadd hx hb dX6_step_54 ?_
          refine lv_iconst (v := 1) hx hb dX6_step_55 (by decide) ?_
          refine lv_isub hx hb dX6_step_56 ?_
          obtain ⟨hi24, h⟩ := h
          refine va_iald (f := w.1 11) hx hb hK hP 12 0 rfl rfl hi24 dX6_step_57 ?_
          refine lv_icmp_gt (tgt := 64) hx hb dX6_step_58 (by decide) (fun c25 => ?_) (fun c25 => ?_)
          · replace h := h.1 c25
            exact hJ  h ls (lv_sub hl [0, 1, 2, 3] rfl)
          · replace h := h.2 c25
            refine lv_bipush (v := (-2)) hx hb dX6_step_61 (by decide) ?_
            exact W.iret (v := (-2)) hx hb hr (fun t ht hW => ⟨⟨(-2), w, rfl, h, by show va_P D vwCl _ t.heap; rw [ht]; exact hP⟩, hS.F ht⟩) hS.2.2 dX6_step_63
end
section
theorem zz_nothing : True := trivial
end
