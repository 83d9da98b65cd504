/-! worlds of this claim, and small rows about them -/
abbrev tz (cI cII : ClassId) : List (ClassId × FieldType) := [(cI, .int), (cII, .array .int)]
def z_in (ws : va_W) : Nat → Prop := fun q => ∃ (k : Nat) (e : va_E), ws[k]? = some (q, e)
def zPs (av : List Value) : Array Value → State → Prop := va_Pc av (fun _ => True)
def zPc (av : List Value) (D : va_G) (cI cII : ClassId) (ws : va_W) : Array Value → State → Prop := va_Pc av (fun U => va_P D vwCl ws U.heap ∧ va_K D vwCl (tz cI cII) U)
def zPm (av : List Value) (D : va_G) (cI cII : ClassId) (ws : va_W) : Array Value → State → Prop := va_Pc av (fun U => va_P D vwCl ws U.heap ∧ va_K D vwCl (tz cI cII) U ∧ va_D (fun _ => True) ws)
theorem zPs_blind {av : List Value} : FrameBlind (zPs av) := fun a U g mk q => q
theorem zPc_blind {av : List Value} {D : va_G} {cI cII : ClassId} {ws : va_W} : FrameBlind (zPc av D cI cII ws) := fun a U g mk q => by
  obtain ⟨q0, qP, qK⟩ := q
  exact ⟨q0, qP, va_K.moved (u := U) (U := U.calling g mk a) (Vm.Alike.refl U.vm) qK⟩
theorem zPm_blind {av : List Value} {D : va_G} {cI cII : ClassId} {ws : va_W} : FrameBlind (zPm av D cI cII ws) := fun a U g mk q => by
  obtain ⟨q0, qP, qK, qD⟩ := q
  exact ⟨q0, qP, va_K.moved (u := U) (U := U.calling g mk a) (Vm.Alike.refl U.vm) qK, qD⟩
theorem z_preS {s : State} {H : Heap} {As : List Value} : PreS s H (zPs As) As := ⟨zPs_blind, fun U hU hW => ⟨rfl, trivial⟩⟩
theorem z_preV {s : State} {H : Heap} {D : va_G} {cI cII : ClassId} {ws : va_W} {b ci : Nat} {fs : List Value} {C : String} {T : u_T} {N : Nat} {As : List Value} (hK : va_K D vwCl (tz cI cII) s) (hP : va_P D vwCl ws H) (hc : vwCl[ci]? = some (C, T, N)) (he : ws[0]? = some (b, .inr (ci, fs))) : PreV s H C b (zPc (.ref b :: As) D cI cII ws) As :=
  ⟨zPc_blind, va_recv hK hP hc he, fun U hU hW => ⟨rfl, by rw [hU]; exact hP, va_K.moved hW.alike hK⟩⟩
theorem z_preVm {s : State} {H : Heap} {D : va_G} {cI cII : ClassId} {ws : va_W} {b ci : Nat} {fs : List Value} {C : String} {T : u_T} {N : Nat} {As : List Value} {A : Nat → Prop} (hK : va_K D vwCl (tz cI cII) s) (hP : va_P D vwCl ws H) (hD : va_D A ws) (hc : vwCl[ci]? = some (C, T, N)) (he : ws[0]? = some (b, .inr (ci, fs))) : PreV s H C b (zPm (.ref b :: As) D cI cII ws) As :=
  ⟨zPm_blind, va_recv hK hP hc he, fun U hU hW => ⟨rfl, by rw [hU]; exact hP, va_K.moved hW.alike hK, hD.weaken (fun _ _ _ _ => trivial)⟩⟩
theorem z_Dself {A : Nat → Prop} {ws : va_W} (h : va_D A ws) : va_D (z_in ws) ws := ⟨h.1, fun k q hk => ⟨k, q.2, hk⟩⟩
theorem z_app_l {D : va_G} {cl : List vw_C} {a b : va_W} {H : Heap} (h : va_P D cl (a ++ b) H) : va_P D cl a H := fun k q hk => h k q (by rw [List.getElem?_append_left (List.getElem?_eq_some_iff.mp hk).1]; exact hk)
theorem z_app_r {D : va_G} {cl : List vw_C} {a b : va_W} {H : Heap} (h : va_P D cl (a ++ b) H) : va_P D cl b H := fun k q hk => h (a.length + k) q (by rw [List.getElem?_append_right (by omega), Nat.add_sub_cancel_left]; exact hk)
theorem z_mid {D : va_G} {cl : List vw_C} {a b c : va_W} {H : Heap} (h : va_P D cl (a ++ (b ++ c)) H) : va_P D cl b H := z_app_l (z_app_r h)
theorem z_Dapp_l {A : Nat → Prop} {a b : va_W} (h : va_D A (a ++ b)) : va_D A a := by
  refine ⟨fun i j p q hi hj e => ?_, fun k q hk => ?_⟩
  · exact h.1 i j p q (by rw [List.getElem?_append_left (List.getElem?_eq_some_iff.mp hi).1]; exact hi) (by rw [List.getElem?_append_left (List.getElem?_eq_some_iff.mp hj).1]; exact hj) e
  · exact h.2 k q (by rw [List.getElem?_append_left (List.getElem?_eq_some_iff.mp hk).1]; exact hk)
theorem z_Dapp_r {A : Nat → Prop} {a b : va_W} (h : va_D A (a ++ b)) : va_D A b := by
  have e0 : ∀ k : Nat, (a ++ b)[a.length + k]? = b[k]? := fun k => by rw [List.getElem?_append_right (by omega), Nat.add_sub_cancel_left]
  refine ⟨fun i j p q hi hj e => ?_, fun k q hk => ?_⟩
  · have := h.1 (a.length + i) (a.length + j) p q (by rw [e0]; exact hi) (by rw [e0]; exact hj) e
    omega
  · exact h.2 (a.length + k) q (by rw [e0]; exact hk)
theorem z_Dmid {A : Nat → Prop} {a b c : va_W} (h : va_D A (a ++ (b ++ c))) : va_D A b := z_Dapp_l (z_Dapp_r h)
theorem z_apart {A : Nat → Prop} {a b : va_W} (hD : va_D A (a ++ b)) {k : Nat} {q : Nat × va_E} (hk : a[k]? = some q) : ¬ z_in b q.1 := by
  rintro ⟨j, e, hj⟩
  have hl := (List.getElem?_eq_some_iff.mp hk).1
  have := hD.1 k (a.length + j) q (q.1, e) (by rw [List.getElem?_append_left hl]; exact hk) (by rw [List.getElem?_append_right (by omega), Nat.add_sub_cancel_left]; exact hj) rfl
  omega
theorem z_apart' {A : Nat → Prop} {a b : va_W} (hD : va_D A (a ++ b)) {k : Nat} {q : Nat × va_E} (hk : b[k]? = some q) : ¬ z_in a q.1 := by
  rintro ⟨j, e, hj⟩
  have hl := (List.getElem?_eq_some_iff.mp hj).1
  have := hD.1 j (a.length + k) (q.1, e) q (by rw [List.getElem?_append_left hl]; exact hj) (by rw [List.getElem?_append_right (by omega), Nat.add_sub_cancel_left]; exact hk) rfl
  omega
theorem z_kept {D : va_G} {cl : List vw_C} {ws : va_W} {H H1 : Heap} {A : Nat → Prop} (hP : va_P D cl ws H) (hk : ∀ q : Nat, q < H.size → ¬ A q → H1[q]? = H[q]?) (hA : ∀ (k : Nat) (q : Nat × va_E), ws[k]? = some q → ¬ A q.1) : va_P D cl ws H1 := hP.kept (fun k q hk' => hk q.1 (hP k q hk').lt (hA k q hk'))
theorem z_sub {A : Nat → Prop} {b : va_W} (hD : va_D A b) : ∀ q, z_in b q → A q := by
  rintro q ⟨k, e, hk⟩
  exact hD.2 k _ hk
theorem z_join {D : va_G} {cl : List vw_C} {A : Nat → Prop} {a b b' c : va_W} {H H1 : Heap} (hP : va_P D cl (a ++ (b ++ c)) H) (hD : va_D A (a ++ (b ++ c))) (hk : ∀ q : Nat, q < H.size → ¬ z_in b q → H1[q]? = H[q]?) (hP1 : va_P D cl b' H1) : va_P D cl (a ++ (b' ++ c)) H1 := by
  have h1 : va_P D cl a H1 := z_kept (z_app_l hP) hk (fun k q hq => by
    have := z_apart hD hq
    rintro ⟨j, e, hj⟩
    exact this ⟨j, e, by rw [List.getElem?_append_left (List.getElem?_eq_some_iff.mp hj).1]; exact hj⟩)
  have h2 : va_P D cl c H1 := z_kept (z_app_r (z_app_r hP)) hk (fun k q hq => z_apart' (z_Dapp_r hD) hq)
  exact h1.app (hP1.app h2)
theorem z_Dmap {A : Nat → Prop} {ws ws' : va_W} (h : va_D A ws) (he : ws'.map Prod.fst = ws.map Prod.fst) : va_D A ws' := by
  have e0 : ∀ k : Nat, (ws'[k]?).map Prod.fst = (ws[k]?).map Prod.fst := fun k => by rw [← List.getElem?_map, ← List.getElem?_map, he]
  have g : ∀ (k : Nat) (q : Nat × va_E), ws'[k]? = some q → ∃ q', ws[k]? = some q' ∧ q'.1 = q.1 := fun k q hk => by
    have := e0 k
    rw [hk] at this
    cases hq : ws[k]? with
    | none => rw [hq] at this; cases this
    | some q' => rw [hq] at this; exact ⟨q', rfl, (Option.some.inj this).symm⟩
  refine ⟨fun i j p q hi hj e => ?_, fun k q hk => ?_⟩
  · obtain ⟨p', hp, ep⟩ := g i p hi
    obtain ⟨q', hq, eq⟩ := g j q hj
    exact h.1 i j p' q' hp hq (by rw [ep, eq, e])
  · obtain ⟨q', hq, eq⟩ := g k q hk
    rw [← eq]
    exact h.2 k q' hq
/-! the worlds -/
abbrev RS : Type := Nat → Nat → Int32
abbrev XS : Type := RS × RS × RS × RS × RS × (Nat → Int32) × Int64
abbrev MS : Type := RS × (Nat → Int32) × Int64
def wR (cI : ClassId) (q : Nat → Nat) (a : RS) : va_W := [(q 0, .inr (3, [.ref (q 1), .ref (q 2), .ref (q 3), .ref (q 4), .ref (q 5), .ref (q 6), .ref (q 7), .int (a 9 0)])), (q 1, .inl (cI, 60, .inl (a 0))), (q 2, .inl (cI, 60, .inl (a 1))), (q 3, .inl (cI, 60, .inl (a 2))), (q 4, .inl (cI, 60, .inl (a 3))), (q 5, .inl (cI, 60, .inl (a 4))), (q 6, .inl (cI, 60, .inl (a 5))), (q 7, .inl (cI, 60, .inl (a 6)))]
def wSg (q : Nat → Nat) (b : Nat) : Nat → Option Nat := fun i => if i < 8 then some (q (b + i)) else none
def wS (cI cII : ClassId) (q : Nat → Nat) (a : RS) : va_W := [(q 0, .inr (4, [.ref (q 1), .ref (q 2), .ref (q 3), .ref (q 4), .ref (q 5), .ref (q 6), .int (a 9 0)])), (q 1, .inl (cI, 8, .inl (a 0))), (q 2, .inl (cI, 8, .inl (a 1))), (q 3, .inl (cI, 8, .inl (a 2))), (q 4, .inl (cI, 8, .inl (a 3))), (q 5, .inl (cII, 8, .inr (.inr (.inr (.inr (wSg q 10)))))), (q 6, .inl (cII, 8, .inr (.inr (.inr (.inr (wSg q 20)))))),
  (q 10, .inl (cI, 8, .inl (a 10))), (q 11, .inl (cI, 8, .inl (a 11))), (q 12, .inl (cI, 8, .inl (a 12))), (q 13, .inl (cI, 8, .inl (a 13))), (q 14, .inl (cI, 8, .inl (a 14))), (q 15, .inl (cI, 8, .inl (a 15))), (q 16, .inl (cI, 8, .inl (a 16))), (q 17, .inl (cI, 8, .inl (a 17))),
  (q 20, .inl (cI, 8, .inl (a 20))), (q 21, .inl (cI, 8, .inl (a 21))), (q 22, .inl (cI, 8, .inl (a 22))), (q 23, .inl (cI, 8, .inl (a 23))), (q 24, .inl (cI, 8, .inl (a 24))), (q 25, .inl (cI, 8, .inl (a 25))), (q 26, .inl (cI, 8, .inl (a 26))), (q 27, .inl (cI, 8, .inl (a 27)))]
def wH (cI : ClassId) (q : Nat → Nat) (a : RS) : va_W := [(q 0, .inr (1, [.ref (q 1), .ref (q 2), .ref (q 3)])), (q 1, .inl (cI, 3, .inl (a 0))), (q 2, .inl (cI, 3, .inl (a 1))), (q 3, .inl (cI, 3, .inl (a 2)))]
def wC (cI : ClassId) (q : Nat → Nat) (a : RS) : va_W := [(q 0, .inr (0, [.ref (q 1), .ref (q 2), .ref (q 3), .ref (q 4), .ref (q 5), .ref (q 6), .int (a 9 0)])), (q 1, .inl (cI, 20, .inl (a 0))), (q 2, .inl (cI, 20, .inl (a 1))), (q 3, .inl (cI, 20, .inl (a 2))), (q 4, .inl (cI, 20, .inl (a 3))), (q 5, .inl (cI, 20, .inl (a 4))), (q 6, .inl (cI, 20, .inl (a 5)))]
def wL (cI : ClassId) (q : Nat → Nat) (a : RS) : va_W := [(q 0, .inr (2, [.ref (q 1), .ref (q 2), .ref (q 3), .int (a 9 0)])), (q 1, .inl (cI, 100, .inl (a 0))), (q 2, .inl (cI, 100, .inl (a 1))), (q 3, .inl (cI, 100, .inl (a 2)))]
def wX (cI cII : ClassId) (q : Nat → Nat → Nat) (u : XS) : va_W := (q 0 0, .inr (5, [.ref (q 1 0), .ref (q 2 0), .ref (q 3 0), .ref (q 4 0), .ref (q 5 0), .int (u.2.2.2.2.2.1 0), .int (u.2.2.2.2.2.1 1), .long u.2.2.2.2.2.2])) :: (wR cI (q 1) u.1 ++ (wS cI cII (q 2) u.2.1 ++ (wH cI (q 3) u.2.2.1 ++ (wC cI (q 4) u.2.2.2.1 ++ wL cI (q 5) u.2.2.2.2.1))))
def wM (cI : ClassId) (q : Nat → Nat) (m : MS) : va_W := [(q 0, .inr (6, [.int (m.2.1 0), .int (m.2.1 1), .ref (q 1), .ref (q 2), .ref (q 3), .ref (q 4), .ref (q 5), .ref (q 6), .ref (q 7), .int (m.2.1 2), .ref (q 8), .ref (q 9), .ref (q 10), .ref (q 11), .ref (q 12), .ref (q 13), .ref (q 14), .ref (q 15), .ref (q 16), .int (m.2.1 3), .ref (q 17), .ref (q 18), .ref (q 19), .ref (q 20), .ref (q 21), .ref (q 22), .int (m.2.1 4), .int (m.2.1 5), .ref (q 23), .ref (q 24), .ref (q 25), .long m.2.2, .int (m.2.1 6), .int (m.2.1 7)])), (q 1, .inl (cI, 60, .inl (m.1 0))), (q 2, .inl (cI, 60, .inl (m.1 1))), (q 3, .inl (cI, 60, .inl (m.1 2))), (q 4, .inl (cI, 60, .inl (m.1 3))), (q 5, .inl (cI, 60, .inl (m.1 4))), (q 6, .inl (cI, 60, .inl (m.1 5))), (q 7, .inl (cI, 60, .inl (m.1 6))), (q 8, .inl (cI, 8, .inl (m.1 7))), (q 9, .inl (cI, 8, .inl (m.1 8))), (q 10, .inl (cI, 8, .inl (m.1 9))), (q 11, .inl (cI, 8, .inl (m.1 10))), (q 12, .inl (cI, 64, .inl (m.1 11))), (q 13, .inl (cI, 64, .inl (m.1 12))), (q 14, .inl (cI, 3, .inl (m.1 13))), (q 15, .inl (cI, 3, .inl (m.1 14))), (q 16, .inl (cI, 3, .inl (m.1 15))), (q 17, .inl (cI, 20, .inl (m.1 16))), (q 18, .inl (cI, 20, .inl (m.1 17))), (q 19, .inl (cI, 20, .inl (m.1 18))), (q 20, .inl (cI, 20, .inl (m.1 19))), (q 21, .inl (cI, 20, .inl (m.1 20))), (q 22, .inl (cI, 20, .inl (m.1 21))), (q 23, .inl (cI, 100, .inl (m.1 22))), (q 24, .inl (cI, 100, .inl (m.1 23))), (q 25, .inl (cI, 100, .inl (m.1 24)))]
/-! a component of X's world -/
theorem z_XR {D : va_G} {cI cII : ClassId} {q : Nat → Nat → Nat} {u : XS} {H : Heap} (h : va_P D vwCl (wX cI cII q u) H) : va_P D vwCl (wR cI (q 1) u.1) H := z_mid (a := [_]) (b := wR cI (q 1) u.1) (c := wS cI cII (q 2) u.2.1 ++ (wH cI (q 3) u.2.2.1 ++ (wC cI (q 4) u.2.2.2.1 ++ (wL cI (q 5) u.2.2.2.2.1)))) h
theorem z_XS {D : va_G} {cI cII : ClassId} {q : Nat → Nat → Nat} {u : XS} {H : Heap} (h : va_P D vwCl (wX cI cII q u) H) : va_P D vwCl (wS cI cII (q 2) u.2.1) H := z_mid (a := _ :: wR cI (q 1) u.1) (b := wS cI cII (q 2) u.2.1) (c := wH cI (q 3) u.2.2.1 ++ (wC cI (q 4) u.2.2.2.1 ++ (wL cI (q 5) u.2.2.2.2.1))) h
theorem z_XH {D : va_G} {cI cII : ClassId} {q : Nat → Nat → Nat} {u : XS} {H : Heap} (h : va_P D vwCl (wX cI cII q u) H) : va_P D vwCl (wH cI (q 3) u.2.2.1) H := z_mid (a := _ :: (wR cI (q 1) u.1 ++ wS cI cII (q 2) u.2.1)) (b := wH cI (q 3) u.2.2.1) (c := wC cI (q 4) u.2.2.2.1 ++ (wL cI (q 5) u.2.2.2.2.1)) h
theorem z_XC {D : va_G} {cI cII : ClassId} {q : Nat → Nat → Nat} {u : XS} {H : Heap} (h : va_P D vwCl (wX cI cII q u) H) : va_P D vwCl (wC cI (q 4) u.2.2.2.1) H := z_mid (a := _ :: (wR cI (q 1) u.1 ++ (wS cI cII (q 2) u.2.1 ++ wH cI (q 3) u.2.2.1))) (b := wC cI (q 4) u.2.2.2.1) (c := wL cI (q 5) u.2.2.2.2.1) h
theorem z_XL {D : va_G} {cI cII : ClassId} {q : Nat → Nat → Nat} {u : XS} {H : Heap} (h : va_P D vwCl (wX cI cII q u) H) : va_P D vwCl (wL cI (q 5) u.2.2.2.2.1) H := z_mid (a := _ :: (wR cI (q 1) u.1 ++ (wS cI cII (q 2) u.2.1 ++ (wH cI (q 3) u.2.2.1 ++ wC cI (q 4) u.2.2.2.1)))) (b := wL cI (q 5) u.2.2.2.2.1) (c := []) h
theorem z_DXR {A : Nat → Prop} {cI cII : ClassId} {q : Nat → Nat → Nat} {u : XS} (h : va_D A (wX cI cII q u)) : va_D A (wR cI (q 1) u.1) := z_Dmid (a := [_]) (b := wR cI (q 1) u.1) (c := wS cI cII (q 2) u.2.1 ++ (wH cI (q 3) u.2.2.1 ++ (wC cI (q 4) u.2.2.2.1 ++ (wL cI (q 5) u.2.2.2.2.1)))) h
theorem z_DXS {A : Nat → Prop} {cI cII : ClassId} {q : Nat → Nat → Nat} {u : XS} (h : va_D A (wX cI cII q u)) : va_D A (wS cI cII (q 2) u.2.1) := z_Dmid (a := _ :: wR cI (q 1) u.1) (b := wS cI cII (q 2) u.2.1) (c := wH cI (q 3) u.2.2.1 ++ (wC cI (q 4) u.2.2.2.1 ++ (wL cI (q 5) u.2.2.2.2.1))) h
theorem z_DXH {A : Nat → Prop} {cI cII : ClassId} {q : Nat → Nat → Nat} {u : XS} (h : va_D A (wX cI cII q u)) : va_D A (wH cI (q 3) u.2.2.1) := z_Dmid (a := _ :: (wR cI (q 1) u.1 ++ wS cI cII (q 2) u.2.1)) (b := wH cI (q 3) u.2.2.1) (c := wC cI (q 4) u.2.2.2.1 ++ (wL cI (q 5) u.2.2.2.2.1)) h
theorem z_DXC {A : Nat → Prop} {cI cII : ClassId} {q : Nat → Nat → Nat} {u : XS} (h : va_D A (wX cI cII q u)) : va_D A (wC cI (q 4) u.2.2.2.1) := z_Dmid (a := _ :: (wR cI (q 1) u.1 ++ (wS cI cII (q 2) u.2.1 ++ wH cI (q 3) u.2.2.1))) (b := wC cI (q 4) u.2.2.2.1) (c := wL cI (q 5) u.2.2.2.2.1) h
theorem z_DXL {A : Nat → Prop} {cI cII : ClassId} {q : Nat → Nat → Nat} {u : XS} (h : va_D A (wX cI cII q u)) : va_D A (wL cI (q 5) u.2.2.2.2.1) := z_Dmid (a := _ :: (wR cI (q 1) u.1 ++ (wS cI cII (q 2) u.2.1 ++ (wH cI (q 3) u.2.2.1 ++ wC cI (q 4) u.2.2.2.1)))) (b := wL cI (q 5) u.2.2.2.2.1) (c := []) h
theorem z_jR {D : va_G} {cI cII : ClassId} {q : Nat → Nat → Nat} {u : XS} {a : RS} {A : Nat → Prop} {H H1 : Heap} (hP : va_P D vwCl (wX cI cII q u) H) (hD : va_D A (wX cI cII q u)) (hk : ∀ x : Nat, x < H.size → ¬ z_in (wR cI (q 1) u.1) x → H1[x]? = H[x]?) (hP1 : va_P D vwCl (wR cI (q 1) a) H1) : va_P D vwCl (wX cI cII q (a, u.2)) H1 := z_join (a := [_]) hP hD hk hP1
theorem z_jS {D : va_G} {cI cII : ClassId} {q : Nat → Nat → Nat} {u : XS} {a : RS} {A : Nat → Prop} {H H1 : Heap} (hP : va_P D vwCl (wX cI cII q u) H) (hD : va_D A (wX cI cII q u)) (hk : ∀ x : Nat, x < H.size → ¬ z_in (wS cI cII (q 2) u.2.1) x → H1[x]? = H[x]?) (hP1 : va_P D vwCl (wS cI cII (q 2) a) H1) : va_P D vwCl (wX cI cII q (u.1, a, u.2.2)) H1 := z_join (a := _ :: wR cI (q 1) u.1) hP hD hk hP1
theorem z_jH {D : va_G} {cI cII : ClassId} {q : Nat → Nat → Nat} {u : XS} {a : RS} {A : Nat → Prop} {H H1 : Heap} (hP : va_P D vwCl (wX cI cII q u) H) (hD : va_D A (wX cI cII q u)) (hk : ∀ x : Nat, x < H.size → ¬ z_in (wH cI (q 3) u.2.2.1) x → H1[x]? = H[x]?) (hP1 : va_P D vwCl (wH cI (q 3) a) H1) : va_P D vwCl (wX cI cII q (u.1, u.2.1, a, u.2.2.2)) H1 := z_join (a := _ :: (wR cI (q 1) u.1 ++ wS cI cII (q 2) u.2.1)) hP hD hk hP1
theorem z_jC {D : va_G} {cI cII : ClassId} {q : Nat → Nat → Nat} {u : XS} {a : RS} {A : Nat → Prop} {H H1 : Heap} (hP : va_P D vwCl (wX cI cII q u) H) (hD : va_D A (wX cI cII q u)) (hk : ∀ x : Nat, x < H.size → ¬ z_in (wC cI (q 4) u.2.2.2.1) x → H1[x]? = H[x]?) (hP1 : va_P D vwCl (wC cI (q 4) a) H1) : va_P D vwCl (wX cI cII q (u.1, u.2.1, u.2.2.1, a, u.2.2.2.2)) H1 := z_join (a := _ :: (wR cI (q 1) u.1 ++ (wS cI cII (q 2) u.2.1 ++ wH cI (q 3) u.2.2.1))) hP hD hk hP1
theorem z_jL {D : va_G} {cI cII : ClassId} {q : Nat → Nat → Nat} {u : XS} {a : RS} {A : Nat → Prop} {H H1 : Heap} (hP : va_P D vwCl (wX cI cII q u) H) (hD : va_D A (wX cI cII q u)) (hk : ∀ x : Nat, x < H.size → ¬ z_in (wL cI (q 5) u.2.2.2.2.1) x → H1[x]? = H[x]?) (hP1 : va_P D vwCl (wL cI (q 5) a) H1) : va_P D vwCl (wX cI cII q (u.1, u.2.1, u.2.2.1, u.2.2.2.1, a, u.2.2.2.2.2)) H1 := z_join (a := _ :: (wR cI (q 1) u.1 ++ (wS cI cII (q 2) u.2.1 ++ (wH cI (q 3) u.2.2.1 ++ wC cI (q 4) u.2.2.2.1)))) (c := []) hP hD hk hP1
/-! indexes, rows of the two grids, switches -/
theorem z_lt {i : Int32} {n : Nat} (h : vp_in i n) : i.toNatClampNeg < n := Nat.not_le.mp fun q => h (Or.inr q)
theorem z_row10 {cI cII : ClassId} {q : Nat → Nat} {a : RS} {j : Nat} (hj : j < 8) : (wS cI cII q a)[7 + j]? = some (q (10 + j), .inl (cI, 8, .inl (a (10 + j)))) := by
  rcases (show j = 0 ∨ j = 1 ∨ j = 2 ∨ j = 3 ∨ j = 4 ∨ j = 5 ∨ j = 6 ∨ j = 7 by omega) with h | h | h | h | h | h | h | h <;> subst h <;> rfl
theorem z_row20 {cI cII : ClassId} {q : Nat → Nat} {a : RS} {j : Nat} (hj : j < 8) : (wS cI cII q a)[15 + j]? = some (q (20 + j), .inl (cI, 8, .inl (a (20 + j)))) := by
  rcases (show j = 0 ∨ j = 1 ∨ j = 2 ∨ j = 3 ∨ j = 4 ∨ j = 5 ∨ j = 6 ∨ j = 7 by omega) with h | h | h | h | h | h | h | h <;> subst h <;> rfl
theorem z_set10 {cI cII : ClassId} {q : Nat → Nat} {a : RS} {j : Nat} (hj : j < 8) {g : Nat → Int32} : (wS cI cII q a).set (7 + j) (q (10 + j), .inl (cI, 8, .inl g)) = wS cI cII q (va_up a (10 + j) g) := by
  rcases (show j = 0 ∨ j = 1 ∨ j = 2 ∨ j = 3 ∨ j = 4 ∨ j = 5 ∨ j = 6 ∨ j = 7 by omega) with h | h | h | h | h | h | h | h <;> subst h <;> rfl
theorem z_set20 {cI cII : ClassId} {q : Nat → Nat} {a : RS} {j : Nat} (hj : j < 8) {g : Nat → Int32} : (wS cI cII q a).set (15 + j) (q (20 + j), .inl (cI, 8, .inl g)) = wS cI cII q (va_up a (20 + j) g) := by
  rcases (show j = 0 ∨ j = 1 ∨ j = 2 ∨ j = 3 ∨ j = 4 ∨ j = 5 ∨ j = 6 ∨ j = 7 by omega) with h | h | h | h | h | h | h | h <;> subst h <;> rfl
section ZAL
variable {p : Program} {l : Launch} {e : Env} {R : Room} {s : State} {m : MethodId} {args : Array Value} {below : List Frame} {meth : Method} {c : Code} {H : Heap} {locs : List Loc} {cells slots : Nat} {Q : State → Prop}
variable {cc : ByteArray} {pc : Nat} {ls : Array Slot} {rest : List Value} {D : va_G} {cl : List vw_C} {A : Nat → Prop} {x : Nat} {tys : List (ClassId × FieldType)} {ws : va_W} {H0 : Heap}
theorem z_aldr (hexec : p.tables.exec = Jvm.exec) (hb : c.code = cc) (hK : va_K D cl tys s) (hP : va_P D cl ws H) (q0 t0 : Nat) {cA : ClassId} {n : Nat} {f : Nat → Option Nat} (ha : ws[q0]? = some (x, .inl (cA, n, .inr (.inr (.inr (.inr f)))))) (ht : tys[t0]? = some (cA, .array .int)) {i : Int32} (hin : vp_in i n) (hdg : decode cc pc = .ok (.aaload, 1))
    (kk : W p l e R s m args below meth c H locs cells slots Q (F0 m (pc + 1) ls (va_rf (f i.toNatClampNeg) :: rest))) : W p l e R s m args below meth c H locs cells slots Q (F0 m pc ls (.int i :: .ref x :: rest)) := by
  have hlt : i.toNatClampNeg < n := Nat.not_le.mp fun q => hin (Or.inr q)
  exact W.aald (v := va_rf (f i.toNatClampNeg)) (ty := .array .int) hexec hb (hP q0 _ ha) ((hK.2 t0 _ ht).1 n (fun j => va_rf (f j))) rfl (fun q => by cases q) (by show ¬ (i < 0 ∨ (arrV _ _ _).slots.size ≤ _); rw [arrV_size]; exact hin) (by show (arrV _ _ _).slots[_]? = _; rw [arrV_read _ _ hlt]) rfl rfl hdg kk
theorem z_aald {q : Nat → Nat} {b : Nat} (hexec : p.tables.exec = Jvm.exec) (hb : c.code = cc) (hK : va_K D cl tys s) (hP : va_P D cl ws H) (q0 t0 : Nat) {cA : ClassId} (ha : ws[q0]? = some (x, .inl (cA, 8, .inr (.inr (.inr (.inr (wSg q b))))))) (ht : tys[t0]? = some (cA, .array .int)) {i : Int32} (hin : vp_in i 8) (hdg : decode cc pc = .ok (.aaload, 1))
    (kk : W p l e R s m args below meth c H locs cells slots Q (F0 m (pc + 1) ls (.ref (q (b + i.toNatClampNeg)) :: rest))) : W p l e R s m args below meth c H locs cells slots Q (F0 m pc ls (.int i :: .ref x :: rest)) := by
  refine z_aldr hexec hb hK hP q0 t0 ha ht hin hdg ?_
  have e1 : wSg q b i.toNatClampNeg = some (q (b + i.toNatClampNeg)) := if_pos (z_lt hin)
  rw [e1]
  exact kk
end ZAL
theorem z_sw6 (x : Int32) : (x.toInt < 0 ∨ 6 < x.toInt) ∨ x = 0 ∨ x = 1 ∨ x = 2 ∨ x = 3 ∨ x = 4 ∨ x = 5 ∨ x = 6 := by
  by_cases h : x.toInt < 0 ∨ 6 < x.toInt
  · exact Or.inl h
  · right
    have e : ∀ k : Int32, x.toInt = k.toInt → x = k := fun k h => Int32.toInt_inj.mp h
    rcases (show x.toInt = 0 ∨ x.toInt = 1 ∨ x.toInt = 2 ∨ x.toInt = 3 ∨ x.toInt = 4 ∨ x.toInt = 5 ∨ x.toInt = 6 by omega) with h | h | h | h | h | h | h
    · exact Or.inl (e 0 h)
    · exact Or.inr (Or.inl (e 1 h))
    · exact Or.inr (Or.inr (Or.inl (e 2 h)))
    · exact Or.inr (Or.inr (Or.inr (Or.inl (e 3 h))))
    · exact Or.inr (Or.inr (Or.inr (Or.inr (Or.inl (e 4 h)))))
    · exact Or.inr (Or.inr (Or.inr (Or.inr (Or.inr (Or.inl (e 5 h))))))
    · exact Or.inr (Or.inr (Or.inr (Or.inr (Or.inr (Or.inr (e 6 h))))))
theorem z_sw5 (x : Int32) : (x.toInt < 0 ∨ 5 < x.toInt) ∨ x = 0 ∨ x = 1 ∨ x = 2 ∨ x = 3 ∨ x = 4 ∨ x = 5 := by
  by_cases h : x.toInt < 0 ∨ 5 < x.toInt
  · exact Or.inl h
  · right
    have e : ∀ k : Int32, x.toInt = k.toInt → x = k := fun k h => Int32.toInt_inj.mp h
    rcases (show x.toInt = 0 ∨ x.toInt = 1 ∨ x.toInt = 2 ∨ x.toInt = 3 ∨ x.toInt = 4 ∨ x.toInt = 5 by omega) with h | h | h | h | h | h
    · exact Or.inl (e 0 h)
    · exact Or.inr (Or.inl (e 1 h))
    · exact Or.inr (Or.inr (Or.inl (e 2 h)))
    · exact Or.inr (Or.inr (Or.inr (Or.inl (e 3 h))))
    · exact Or.inr (Or.inr (Or.inr (Or.inr (Or.inl (e 4 h)))))
    · exact Or.inr (Or.inr (Or.inr (Or.inr (Or.inr (e 5 h)))))
theorem z_setM10 {cI : ClassId} {q : Nat → Nat} {w : MS} {g : Nat → Int32} : (wM cI q w).set 11 (q 11, .inl (cI, 8, .inl g)) = wM cI q (va_up w.1 10 g, w.2.1, w.2.2) := rfl
theorem z_setM11 {cI : ClassId} {q : Nat → Nat} {w : MS} {g : Nat → Int32} : (wM cI q w).set 12 (q 12, .inl (cI, 64, .inl g)) = wM cI q (va_up w.1 11 g, w.2.1, w.2.2) := rfl
theorem z_setM12 {cI : ClassId} {q : Nat → Nat} {w : MS} {g : Nat → Int32} : (wM cI q w).set 13 (q 13, .inl (cI, 64, .inl g)) = wM cI q (va_up w.1 12 g, w.2.1, w.2.2) := rfl
