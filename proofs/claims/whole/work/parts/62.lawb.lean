set_option maxHeartbeats 4000000 in
set_option maxRecDepth 100000 in
theorem lw_case12 {p : Program} {l : Launch} {e : Env} {s : State} {m : MethodId} {below : List Frame} {meth : Method} {c : Code} {b L : Nat} {xs : Nat → Int32} (C0 : lw_At p s m meth c b L xs) (hL : L ≤ 3072) {D : va_G} {cI cII : ClassId} (hK : va_K D vwCl (tz cI cII) s) {q : Nat → Nat → Nat} {qm : Nat → Nat} {i : Nat} (hi : i + 6 ≤ L) (ih : lw_L p l e s m b below meth c D cI cII q qm (i + 6)) {u : XS} {w : MS} (hI : Inv u w) {H : Heap} {locs : List Loc} (hH : lw_H D cI cII q qm s u w H locs) {ls : Array Slot} (hl : lv_has ls 4 [(0, .ref b), (1, .ref (q 0 0)), (2, .ref (qm 0)), (3, .int (nI i))]) : lw_W p l e s m b below meth c H locs (F0 m 580 ls []) := by
  obtain ⟨hx, hb, hr, hml, hown, hts0, hX, hbl, hlocks, hgv⟩ := id C0
  have hts : ∀ w ∈ wsL_law, w.before #[Value.ref b] s = true := fun w h => hts0 w (wsL_law_in w h)
  have hbA : ¬ (fun x : Nat => s.heap.size ≤ x) b := Nat.not_le.mpr hbl
  obtain ⟨hPx, hPm, hD, hS⟩ := hH
  have hk5 : ∀ k, k < 6 → vp_in (nI i + nI k) L := fun k hk => by rw [nI_add]; exact vp_in_nI (by omega) (by omega)
  have hb1 : vp_in (nI i + 1) L := hk5 1 (by omega)
  have hb2 : vp_in (nI i + 2) L := hk5 2 (by omega)
  have hb3 : vp_in (nI i + 3) L := hk5 3 (by omega)
  have hb4 : vp_in (nI i + 4) L := hk5 4 (by omega)
  have hb5 : vp_in (nI i + 5) L := hk5 5 (by omega)
  have hDx := z_Dapp_l hD
  have hDm := z_Dapp_r hD
  refine lv_aload_n hx hb dL_law_580 rfl (lv_at hl 1 rfl) ?_
  refine lv_aload_n hx hb dL_law_581 rfl (lv_at hl 0 rfl) ?_
  refine lv_iload_n hx hb dL_law_582 rfl (lv_at hl 3 rfl) ?_
  refine lv_iconst (v := 1) hx hb dL_law_583 (by decide) ?_
  refine lv_iadd hx hb dL_law_584 ?_
  refine va_sld hx hb hX hbl hbA hS hb1 dL_law_585 ?_
  refine lv_aload_n hx hb dL_law_586 rfl (lv_at hl 0 rfl) ?_
  refine lv_iload_n hx hb dL_law_587 rfl (lv_at hl 3 rfl) ?_
  refine lv_iconst (v := 2) hx hb dL_law_588 (by decide) ?_
  refine lv_iadd hx hb dL_law_589 ?_
  refine va_sld hx hb hX hbl hbA hS hb2 dL_law_590 ?_
  have h := pr_duty hI (xs (nI i + 1).toNatClampNeg) (xs (nI i + 2).toNatClampNeg)
  refine vp_callSi (W.runV (C := RX5) (As := [.int (xs (nI i + 1).toNatClampNeg), .int (xs (nI i + 2).toNatClampNeg)]) (rest := []) ⟨hx, hb, hml, hown, hts⟩ (cX5_duty_ok l D cI cII q u (xs (nI i + 1).toNatClampNeg) (xs (nI i + 2).toNatClampNeg) _ h) (cwV 2 hts gL_law_X5_duty rfl rfl rfl (by decide +kernel) ⟨Nat.le_of_ble_eq_true rfl, Nat.le_of_ble_eq_true rfl⟩) (z_preV hK hPx rfl rfl) rfl rfl hl.1 rfl (lv_room (Nat.le_of_ble_eq_true rfl)) dL_law_591 ⟨Nat.le_of_ble_eq_true rfl, Nat.le_of_ble_eq_true rfl⟩) (fun r1 h => ?_)
  refine lv_aload_n hx hb dL_law_594 rfl (lv_at hl 2 rfl) ?_
  refine lv_aload_n hx hb dL_law_595 rfl (lv_at hl 0 rfl) ?_
  refine lv_iload_n hx hb dL_law_596 rfl (lv_at hl 3 rfl) ?_
  refine lv_iconst (v := 1) hx hb dL_law_597 (by decide) ?_
  refine lv_iadd hx hb dL_law_598 ?_
  refine va_sld hx hb hX hbl hbA hS hb1 dL_law_599 ?_
  refine lv_aload_n hx hb dL_law_600 rfl (lv_at hl 0 rfl) ?_
  refine lv_iload_n hx hb dL_law_601 rfl (lv_at hl 3 rfl) ?_
  refine lv_iconst (v := 2) hx hb dL_law_602 (by decide) ?_
  refine lv_iadd hx hb dL_law_603 ?_
  refine va_sld hx hb hX hbl hbA hS hb2 dL_law_604 ?_
  refine vp_callSi (W.runV (C := RX6) (As := [.int (xs (nI i + 1).toNatClampNeg), .int (xs (nI i + 2).toNatClampNeg)]) (rest := [.int r1]) ⟨hx, hb, hml, hown, hts⟩ (cX6_duty_ok l D cI cII qm w (xs (nI i + 1).toNatClampNeg) (xs (nI i + 2).toNatClampNeg) _ h) (cwV 2 hts gL_law_X6_duty rfl rfl rfl (by decide +kernel) ⟨Nat.le_of_ble_eq_true rfl, Nat.le_of_ble_eq_true rfl⟩) (z_preV hK hPm rfl rfl) rfl rfl hl.1 rfl (lv_room (Nat.le_of_ble_eq_true rfl)) dL_law_605 ⟨Nat.le_of_ble_eq_true rfl, Nat.le_of_ble_eq_true rfl⟩) (fun r2 h => ?_)
  refine lv_icmp_eq (tgt := 941) hx hb dL_law_608 (by decide) (fun _ => ?_) (fun cc => absurd h cc)
  exact lw_tail C0 ih hI ⟨hPx, hPm, hD, hS⟩ hl

set_option maxHeartbeats 4000000 in
set_option maxRecDepth 100000 in
theorem lw_case13 {p : Program} {l : Launch} {e : Env} {s : State} {m : MethodId} {below : List Frame} {meth : Method} {c : Code} {b L : Nat} {xs : Nat → Int32} (C0 : lw_At p s m meth c b L xs) (hL : L ≤ 3072) {D : va_G} {cI cII : ClassId} (hK : va_K D vwCl (tz cI cII) s) {q : Nat → Nat → Nat} {qm : Nat → Nat} {i : Nat} (hi : i + 6 ≤ L) (ih : lw_L p l e s m b below meth c D cI cII q qm (i + 6)) {u : XS} {w : MS} (hI : Inv u w) {H : Heap} {locs : List Loc} (hH : lw_H D cI cII q qm s u w H locs) {ls : Array Slot} (hl : lv_has ls 4 [(0, .ref b), (1, .ref (q 0 0)), (2, .ref (qm 0)), (3, .int (nI i))]) : lw_W p l e s m b below meth c H locs (F0 m 613 ls []) := by
  obtain ⟨hx, hb, hr, hml, hown, hts0, hX, hbl, hlocks, hgv⟩ := id C0
  have hts : ∀ w ∈ wsL_law, w.before #[Value.ref b] s = true := fun w h => hts0 w (wsL_law_in w h)
  have hbA : ¬ (fun x : Nat => s.heap.size ≤ x) b := Nat.not_le.mpr hbl
  obtain ⟨hPx, hPm, hD, hS⟩ := hH
  have hk5 : ∀ k, k < 6 → vp_in (nI i + nI k) L := fun k hk => by rw [nI_add]; exact vp_in_nI (by omega) (by omega)
  have hb1 : vp_in (nI i + 1) L := hk5 1 (by omega)
  have hb2 : vp_in (nI i + 2) L := hk5 2 (by omega)
  have hb3 : vp_in (nI i + 3) L := hk5 3 (by omega)
  have hb4 : vp_in (nI i + 4) L := hk5 4 (by omega)
  have hb5 : vp_in (nI i + 5) L := hk5 5 (by omega)
  have hDx := z_Dapp_l hD
  have hDm := z_Dapp_r hD
  refine lv_aload_n hx hb dL_law_613 rfl (lv_at hl 1 rfl) ?_
  refine lv_aload_n hx hb dL_law_614 rfl (lv_at hl 0 rfl) ?_
  refine lv_iload_n hx hb dL_law_615 rfl (lv_at hl 3 rfl) ?_
  refine lv_iconst (v := 1) hx hb dL_law_616 (by decide) ?_
  refine lv_iadd hx hb dL_law_617 ?_
  refine va_sld hx hb hX hbl hbA hS hb1 dL_law_618 ?_
  refine lv_aload_n hx hb dL_law_619 rfl (lv_at hl 0 rfl) ?_
  refine lv_iload_n hx hb dL_law_620 rfl (lv_at hl 3 rfl) ?_
  refine lv_iconst (v := 2) hx hb dL_law_621 (by decide) ?_
  refine lv_iadd hx hb dL_law_622 ?_
  refine va_sld hx hb hX hbl hbA hS hb2 dL_law_623 ?_
  have h := pr_cargo hI (xs (nI i + 1).toNatClampNeg) (xs (nI i + 2).toNatClampNeg)
  refine va_calli (va_runV (C := RX5) (As := [.int (xs (nI i + 1).toNatClampNeg), .int (xs (nI i + 2).toNatClampNeg)]) (rest := []) ⟨hx, hb, hml, hown, hts⟩ (cX5_cargo_ok l D cI cII q u (xs (nI i + 1).toNatClampNeg) (xs (nI i + 2).toNatClampNeg) _ h) (cwV 2 hts gL_law_X5_cargo rfl rfl rfl (by decide +kernel) ⟨Nat.le_of_ble_eq_true rfl, Nat.le_of_ble_eq_true rfl⟩) (z_preVm hK hPx hDx rfl rfl) rfl rfl hl.1 rfl (lv_room (Nat.le_of_ble_eq_true rfl)) dL_law_624 ⟨Nat.le_of_ble_eq_true rfl, Nat.le_of_ble_eq_true rfl⟩) hS (fun x9 _ h9 => z_sub hDx x9 h9) (z_sub hDx) (fun r1 u1 t H1 locs ht hvm h hB hz1 hk1 hS => ?_)
  have hB : va_P D vwCl (wX cI cII q u1) t.heap := hB
  rw [ht] at hB
  have hPm : va_P D vwCl (wM cI qm w) H1 := z_kept hPm hk1 (fun k y hk => z_apart' hD hk)
  have hPx := hB
  have hD : va_D (fun x : Nat => s.heap.size ≤ x) (wX cI cII q u1 ++ wM cI qm w) := z_Dmap hD rfl
  have hDx := z_Dapp_l hD
  have hDm := z_Dapp_r hD
  refine lv_aload_n hx hb dL_law_627 rfl (lv_at hl 2 rfl) ?_
  refine lv_aload_n hx hb dL_law_628 rfl (lv_at hl 0 rfl) ?_
  refine lv_iload_n hx hb dL_law_629 rfl (lv_at hl 3 rfl) ?_
  refine lv_iconst (v := 1) hx hb dL_law_630 (by decide) ?_
  refine lv_iadd hx hb dL_law_631 ?_
  refine va_sld hx hb hX hbl hbA hS hb1 dL_law_632 ?_
  refine lv_aload_n hx hb dL_law_633 rfl (lv_at hl 0 rfl) ?_
  refine lv_iload_n hx hb dL_law_634 rfl (lv_at hl 3 rfl) ?_
  refine lv_iconst (v := 2) hx hb dL_law_635 (by decide) ?_
  refine lv_iadd hx hb dL_law_636 ?_
  refine va_sld hx hb hX hbl hbA hS hb2 dL_law_637 ?_
  refine va_calli (va_runV (C := RX6) (As := [.int (xs (nI i + 1).toNatClampNeg), .int (xs (nI i + 2).toNatClampNeg)]) (rest := [.int r1]) ⟨hx, hb, hml, hown, hts⟩ (cX6_cargo_ok l D cI cII qm w (xs (nI i + 1).toNatClampNeg) (xs (nI i + 2).toNatClampNeg) _ h) (cwV 2 hts gL_law_X6_cargo rfl rfl rfl (by decide +kernel) ⟨Nat.le_of_ble_eq_true rfl, Nat.le_of_ble_eq_true rfl⟩) (z_preVm hK hPm hDm rfl rfl) rfl rfl hl.1 rfl (lv_room (Nat.le_of_ble_eq_true rfl)) dL_law_638 ⟨Nat.le_of_ble_eq_true rfl, Nat.le_of_ble_eq_true rfl⟩) hS (fun x9 _ h9 => z_sub hDm x9 h9) (z_sub hDm) (fun r2 w1 t H1 locs ht hvm h hB hz1 hk1 hS => ?_)
  have hB : va_P D vwCl (wM cI qm w1) t.heap := hB
  rw [ht] at hB
  have hPx : va_P D vwCl (wX cI cII q u1) H1 := z_kept hPx hk1 (fun k y hk => z_apart hD hk)
  have hPm := hB
  have hD : va_D (fun x : Nat => s.heap.size ≤ x) (wX cI cII q u1 ++ wM cI qm w1) := z_Dmap hD rfl
  have hDx := z_Dapp_l hD
  have hDm := z_Dapp_r hD
  refine lv_icmp_eq (tgt := 941) hx hb dL_law_641 (by decide) (fun _ => ?_) (fun cc => absurd h.1 cc)
  exact lw_tail C0 ih h.2 ⟨hPx, hPm, hD, hS⟩ hl

set_option maxHeartbeats 4000000 in
set_option maxRecDepth 100000 in
theorem lw_case14 {p : Program} {l : Launch} {e : Env} {s : State} {m : MethodId} {below : List Frame} {meth : Method} {c : Code} {b L : Nat} {xs : Nat → Int32} (C0 : lw_At p s m meth c b L xs) (hL : L ≤ 3072) {D : va_G} {cI cII : ClassId} (hK : va_K D vwCl (tz cI cII) s) {q : Nat → Nat → Nat} {qm : Nat → Nat} {i : Nat} (hi : i + 6 ≤ L) (ih : lw_L p l e s m b below meth c D cI cII q qm (i + 6)) {u : XS} {w : MS} (hI : Inv u w) {H : Heap} {locs : List Loc} (hH : lw_H D cI cII q qm s u w H locs) {ls : Array Slot} (hl : lv_has ls 4 [(0, .ref b), (1, .ref (q 0 0)), (2, .ref (qm 0)), (3, .int (nI i))]) : lw_W p l e s m b below meth c H locs (F0 m 646 ls []) := by
  obtain ⟨hx, hb, hr, hml, hown, hts0, hX, hbl, hlocks, hgv⟩ := id C0
  have hts : ∀ w ∈ wsL_law, w.before #[Value.ref b] s = true := fun w h => hts0 w (wsL_law_in w h)
  have hbA : ¬ (fun x : Nat => s.heap.size ≤ x) b := Nat.not_le.mpr hbl
  obtain ⟨hPx, hPm, hD, hS⟩ := hH
  have hk5 : ∀ k, k < 6 → vp_in (nI i + nI k) L := fun k hk => by rw [nI_add]; exact vp_in_nI (by omega) (by omega)
  have hb1 : vp_in (nI i + 1) L := hk5 1 (by omega)
  have hb2 : vp_in (nI i + 2) L := hk5 2 (by omega)
  have hb3 : vp_in (nI i + 3) L := hk5 3 (by omega)
  have hb4 : vp_in (nI i + 4) L := hk5 4 (by omega)
  have hb5 : vp_in (nI i + 5) L := hk5 5 (by omega)
  have hDx := z_Dapp_l hD
  have hDm := z_Dapp_r hD
  refine lv_aload_n hx hb dL_law_646 rfl (lv_at hl 1 rfl) ?_
  refine lv_aload_n hx hb dL_law_647 rfl (lv_at hl 0 rfl) ?_
  refine lv_iload_n hx hb dL_law_648 rfl (lv_at hl 3 rfl) ?_
  refine lv_iconst (v := 1) hx hb dL_law_649 (by decide) ?_
  refine lv_iadd hx hb dL_law_650 ?_
  refine va_sld hx hb hX hbl hbA hS hb1 dL_law_651 ?_
  have h := pr_spoil hI (xs (nI i + 1).toNatClampNeg)
  refine va_calli (va_runV (C := RX5) (As := [.int (xs (nI i + 1).toNatClampNeg)]) (rest := []) ⟨hx, hb, hml, hown, hts⟩ (cX5_spoil_ok l D cI cII q u (xs (nI i + 1).toNatClampNeg) _ h) (cwV 1 hts gL_law_X5_spoil rfl rfl rfl (by decide +kernel) ⟨Nat.le_of_ble_eq_true rfl, Nat.le_of_ble_eq_true rfl⟩) (z_preVm hK hPx hDx rfl rfl) rfl rfl hl.1 rfl (lv_room (Nat.le_of_ble_eq_true rfl)) dL_law_652 ⟨Nat.le_of_ble_eq_true rfl, Nat.le_of_ble_eq_true rfl⟩) hS (fun x9 _ h9 => z_sub hDx x9 h9) (z_sub hDx) (fun r1 u1 t H1 locs ht hvm h hB hz1 hk1 hS => ?_)
  have hB : va_P D vwCl (wX cI cII q u1) t.heap := hB
  rw [ht] at hB
  have hPm : va_P D vwCl (wM cI qm w) H1 := z_kept hPm hk1 (fun k y hk => z_apart' hD hk)
  have hPx := hB
  have hD : va_D (fun x : Nat => s.heap.size ≤ x) (wX cI cII q u1 ++ wM cI qm w) := z_Dmap hD rfl
  have hDx := z_Dapp_l hD
  have hDm := z_Dapp_r hD
  refine lv_aload_n hx hb dL_law_655 rfl (lv_at hl 2 rfl) ?_
  refine lv_aload_n hx hb dL_law_656 rfl (lv_at hl 0 rfl) ?_
  refine lv_iload_n hx hb dL_law_657 rfl (lv_at hl 3 rfl) ?_
  refine lv_iconst (v := 1) hx hb dL_law_658 (by decide) ?_
  refine lv_iadd hx hb dL_law_659 ?_
  refine va_sld hx hb hX hbl hbA hS hb1 dL_law_660 ?_
  refine va_calli (va_runV (C := RX6) (As := [.int (xs (nI i + 1).toNatClampNeg)]) (rest := [.int r1]) ⟨hx, hb, hml, hown, hts⟩ (cX6_spoil_ok l D cI cII qm w (xs (nI i + 1).toNatClampNeg) _ h) (cwV 1 hts gL_law_X6_spoil rfl rfl rfl (by decide +kernel) ⟨Nat.le_of_ble_eq_true rfl, Nat.le_of_ble_eq_true rfl⟩) (z_preVm hK hPm hDm rfl rfl) rfl rfl hl.1 rfl (lv_room (Nat.le_of_ble_eq_true rfl)) dL_law_661 ⟨Nat.le_of_ble_eq_true rfl, Nat.le_of_ble_eq_true rfl⟩) hS (fun x9 _ h9 => z_sub hDm x9 h9) (z_sub hDm) (fun r2 w1 t H1 locs ht hvm h hB hz1 hk1 hS => ?_)
  have hB : va_P D vwCl (wM cI qm w1) t.heap := hB
  rw [ht] at hB
  have hPx : va_P D vwCl (wX cI cII q u1) H1 := z_kept hPx hk1 (fun k y hk => z_apart hD hk)
  have hPm := hB
  have hD : va_D (fun x : Nat => s.heap.size ≤ x) (wX cI cII q u1 ++ wM cI qm w1) := z_Dmap hD rfl
  have hDx := z_Dapp_l hD
  have hDm := z_Dapp_r hD
  refine lv_icmp_eq (tgt := 941) hx hb dL_law_664 (by decide) (fun _ => ?_) (fun cc => absurd h.1 cc)
  exact lw_tail C0 ih h.2 ⟨hPx, hPm, hD, hS⟩ hl

set_option maxHeartbeats 4000000 in
set_option maxRecDepth 100000 in
theorem lw_case15 {p : Program} {l : Launch} {e : Env} {s : State} {m : MethodId} {below : List Frame} {meth : Method} {c : Code} {b L : Nat} {xs : Nat → Int32} (C0 : lw_At p s m meth c b L xs) (hL : L ≤ 3072) {D : va_G} {cI cII : ClassId} (hK : va_K D vwCl (tz cI cII) s) {q : Nat → Nat → Nat} {qm : Nat → Nat} {i : Nat} (hi : i + 6 ≤ L) (ih : lw_L p l e s m b below meth c D cI cII q qm (i + 6)) {u : XS} {w : MS} (hI : Inv u w) {H : Heap} {locs : List Loc} (hH : lw_H D cI cII q qm s u w H locs) {ls : Array Slot} (hl : lv_has ls 4 [(0, .ref b), (1, .ref (q 0 0)), (2, .ref (qm 0)), (3, .int (nI i))]) : lw_W p l e s m b below meth c H locs (F0 m 669 ls []) := by
  obtain ⟨hx, hb, hr, hml, hown, hts0, hX, hbl, hlocks, hgv⟩ := id C0
  have hts : ∀ w ∈ wsL_law, w.before #[Value.ref b] s = true := fun w h => hts0 w (wsL_law_in w h)
  have hbA : ¬ (fun x : Nat => s.heap.size ≤ x) b := Nat.not_le.mpr hbl
  obtain ⟨hPx, hPm, hD, hS⟩ := hH
  have hk5 : ∀ k, k < 6 → vp_in (nI i + nI k) L := fun k hk => by rw [nI_add]; exact vp_in_nI (by omega) (by omega)
  have hb1 : vp_in (nI i + 1) L := hk5 1 (by omega)
  have hb2 : vp_in (nI i + 2) L := hk5 2 (by omega)
  have hb3 : vp_in (nI i + 3) L := hk5 3 (by omega)
  have hb4 : vp_in (nI i + 4) L := hk5 4 (by omega)
  have hb5 : vp_in (nI i + 5) L := hk5 5 (by omega)
  have hDx := z_Dapp_l hD
  have hDm := z_Dapp_r hD
  refine lv_aload_n hx hb dL_law_669 rfl (lv_at hl 1 rfl) ?_
  refine lv_aload_n hx hb dL_law_670 rfl (lv_at hl 0 rfl) ?_
  refine lv_iload_n hx hb dL_law_671 rfl (lv_at hl 3 rfl) ?_
  refine lv_iconst (v := 1) hx hb dL_law_672 (by decide) ?_
  refine lv_iadd hx hb dL_law_673 ?_
  refine va_sld hx hb hX hbl hbA hS hb1 dL_law_674 ?_
  refine lv_aload_n hx hb dL_law_675 rfl (lv_at hl 0 rfl) ?_
  refine lv_iload_n hx hb dL_law_676 rfl (lv_at hl 3 rfl) ?_
  refine lv_iconst (v := 2) hx hb dL_law_677 (by decide) ?_
  refine lv_iadd hx hb dL_law_678 ?_
  refine va_sld hx hb hX hbl hbA hS hb2 dL_law_679 ?_
  have h := pr_letOut hI (xs (nI i + 1).toNatClampNeg) (xs (nI i + 2).toNatClampNeg)
  refine va_calll (va_runV (C := RX5) (As := [.int (xs (nI i + 1).toNatClampNeg), .int (xs (nI i + 2).toNatClampNeg)]) (rest := []) ⟨hx, hb, hml, hown, hts⟩ (cX5_letOut_ok l D cI cII q u (xs (nI i + 1).toNatClampNeg) (xs (nI i + 2).toNatClampNeg) _ h) (cwV 2 hts gL_law_X5_letOut rfl rfl rfl (by decide +kernel) ⟨Nat.le_of_ble_eq_true rfl, Nat.le_of_ble_eq_true rfl⟩) (z_preVm hK hPx hDx rfl rfl) rfl rfl hl.1 rfl (lv_room (Nat.le_of_ble_eq_true rfl)) dL_law_680 ⟨Nat.le_of_ble_eq_true rfl, Nat.le_of_ble_eq_true rfl⟩) hS (fun x9 _ h9 => z_sub hDx x9 h9) (z_sub hDx) (fun r1 u1 t H1 locs ht hvm h hB hz1 hk1 hS => ?_)
  have hB : va_P D vwCl (wX cI cII q u1) t.heap := hB
  rw [ht] at hB
  have hPm : va_P D vwCl (wM cI qm w) H1 := z_kept hPm hk1 (fun k y hk => z_apart' hD hk)
  have hPx := hB
  have hD : va_D (fun x : Nat => s.heap.size ≤ x) (wX cI cII q u1 ++ wM cI qm w) := z_Dmap hD rfl
  have hDx := z_Dapp_l hD
  have hDm := z_Dapp_r hD
  refine lv_aload_n hx hb dL_law_683 rfl (lv_at hl 2 rfl) ?_
  refine lv_aload_n hx hb dL_law_684 rfl (lv_at hl 0 rfl) ?_
  refine lv_iload_n hx hb dL_law_685 rfl (lv_at hl 3 rfl) ?_
  refine lv_iconst (v := 1) hx hb dL_law_686 (by decide) ?_
  refine lv_iadd hx hb dL_law_687 ?_
  refine va_sld hx hb hX hbl hbA hS hb1 dL_law_688 ?_
  refine lv_aload_n hx hb dL_law_689 rfl (lv_at hl 0 rfl) ?_
  refine lv_iload_n hx hb dL_law_690 rfl (lv_at hl 3 rfl) ?_
  refine lv_iconst (v := 2) hx hb dL_law_691 (by decide) ?_
  refine lv_iadd hx hb dL_law_692 ?_
  refine va_sld hx hb hX hbl hbA hS hb2 dL_law_693 ?_
  refine va_calll (va_runV (C := RX6) (As := [.int (xs (nI i + 1).toNatClampNeg), .int (xs (nI i + 2).toNatClampNeg)]) (rest := [.long r1]) ⟨hx, hb, hml, hown, hts⟩ (cX6_letOut_ok l D cI cII qm w (xs (nI i + 1).toNatClampNeg) (xs (nI i + 2).toNatClampNeg) _ h) (cwV 2 hts gL_law_X6_letOut rfl rfl rfl (by decide +kernel) ⟨Nat.le_of_ble_eq_true rfl, Nat.le_of_ble_eq_true rfl⟩) (z_preVm hK hPm hDm rfl rfl) rfl rfl hl.1 rfl (lv_room (Nat.le_of_ble_eq_true rfl)) dL_law_694 ⟨Nat.le_of_ble_eq_true rfl, Nat.le_of_ble_eq_true rfl⟩) hS (fun x9 _ h9 => z_sub hDm x9 h9) (z_sub hDm) (fun r2 w1 t H1 locs ht hvm h hB hz1 hk1 hS => ?_)
  have hB : va_P D vwCl (wM cI qm w1) t.heap := hB
  rw [ht] at hB
  have hPx : va_P D vwCl (wX cI cII q u1) H1 := z_kept hPx hk1 (fun k y hk => z_apart hD hk)
  have hPm := hB
  have hD : va_D (fun x : Nat => s.heap.size ≤ x) (wX cI cII q u1 ++ wM cI qm w1) := z_Dmap hD rfl
  have hDx := z_Dapp_l hD
  have hDm := z_Dapp_r hD
  refine W.lcmp hx hb dL_law_697 ?_
  refine lv_if_eq (tgt := 941) hx hb dL_law_698 (by decide) (fun _ => ?_) (fun cc => absurd ((lg_cmp_eq _ _).mpr h.1) cc)
  exact lw_tail C0 ih h.2 ⟨hPx, hPm, hD, hS⟩ hl

set_option maxHeartbeats 4000000 in
set_option maxRecDepth 100000 in
theorem lw_case16 {p : Program} {l : Launch} {e : Env} {s : State} {m : MethodId} {below : List Frame} {meth : Method} {c : Code} {b L : Nat} {xs : Nat → Int32} (C0 : lw_At p s m meth c b L xs) (hL : L ≤ 3072) {D : va_G} {cI cII : ClassId} (hK : va_K D vwCl (tz cI cII) s) {q : Nat → Nat → Nat} {qm : Nat → Nat} {i : Nat} (hi : i + 6 ≤ L) (ih : lw_L p l e s m b below meth c D cI cII q qm (i + 6)) {u : XS} {w : MS} (hI : Inv u w) {H : Heap} {locs : List Loc} (hH : lw_H D cI cII q qm s u w H locs) {ls : Array Slot} (hl : lv_has ls 4 [(0, .ref b), (1, .ref (q 0 0)), (2, .ref (qm 0)), (3, .int (nI i))]) : lw_W p l e s m b below meth c H locs (F0 m 703 ls []) := by
  obtain ⟨hx, hb, hr, hml, hown, hts0, hX, hbl, hlocks, hgv⟩ := id C0
  have hts : ∀ w ∈ wsL_law, w.before #[Value.ref b] s = true := fun w h => hts0 w (wsL_law_in w h)
  have hbA : ¬ (fun x : Nat => s.heap.size ≤ x) b := Nat.not_le.mpr hbl
  obtain ⟨hPx, hPm, hD, hS⟩ := hH
  have hk5 : ∀ k, k < 6 → vp_in (nI i + nI k) L := fun k hk => by rw [nI_add]; exact vp_in_nI (by omega) (by omega)
  have hb1 : vp_in (nI i + 1) L := hk5 1 (by omega)
  have hb2 : vp_in (nI i + 2) L := hk5 2 (by omega)
  have hb3 : vp_in (nI i + 3) L := hk5 3 (by omega)
  have hb4 : vp_in (nI i + 4) L := hk5 4 (by omega)
  have hb5 : vp_in (nI i + 5) L := hk5 5 (by omega)
  have hDx := z_Dapp_l hD
  have hDm := z_Dapp_r hD
  refine lv_aload_n hx hb dL_law_703 rfl (lv_at hl 1 rfl) ?_
  refine lv_aload_n hx hb dL_law_704 rfl (lv_at hl 0 rfl) ?_
  refine lv_iload_n hx hb dL_law_705 rfl (lv_at hl 3 rfl) ?_
  refine lv_iconst (v := 1) hx hb dL_law_706 (by decide) ?_
  refine lv_iadd hx hb dL_law_707 ?_
  refine va_sld hx hb hX hbl hbA hS hb1 dL_law_708 ?_
  refine lv_aload_n hx hb dL_law_709 rfl (lv_at hl 0 rfl) ?_
  refine lv_iload_n hx hb dL_law_710 rfl (lv_at hl 3 rfl) ?_
  refine lv_iconst (v := 2) hx hb dL_law_711 (by decide) ?_
  refine lv_iadd hx hb dL_law_712 ?_
  refine va_sld hx hb hX hbl hbA hS hb2 dL_law_713 ?_
  have h := pr_ship hI (xs (nI i + 1).toNatClampNeg) (xs (nI i + 2).toNatClampNeg)
  refine va_calli (va_runV (C := RX5) (As := [.int (xs (nI i + 1).toNatClampNeg), .int (xs (nI i + 2).toNatClampNeg)]) (rest := []) ⟨hx, hb, hml, hown, hts⟩ (cX5_ship_ok l D cI cII q u (xs (nI i + 1).toNatClampNeg) (xs (nI i + 2).toNatClampNeg) _ h) (cwV 2 hts gL_law_X5_ship rfl rfl rfl (by decide +kernel) ⟨Nat.le_of_ble_eq_true rfl, Nat.le_of_ble_eq_true rfl⟩) (z_preVm hK hPx hDx rfl rfl) rfl rfl hl.1 rfl (lv_room (Nat.le_of_ble_eq_true rfl)) dL_law_714 ⟨Nat.le_of_ble_eq_true rfl, Nat.le_of_ble_eq_true rfl⟩) hS (fun x9 _ h9 => z_sub hDx x9 h9) (z_sub hDx) (fun r1 u1 t H1 locs ht hvm h hB hz1 hk1 hS => ?_)
  have hB : va_P D vwCl (wX cI cII q u1) t.heap := hB
  rw [ht] at hB
  have hPm : va_P D vwCl (wM cI qm w) H1 := z_kept hPm hk1 (fun k y hk => z_apart' hD hk)
  have hPx := hB
  have hD : va_D (fun x : Nat => s.heap.size ≤ x) (wX cI cII q u1 ++ wM cI qm w) := z_Dmap hD rfl
  have hDx := z_Dapp_l hD
  have hDm := z_Dapp_r hD
  refine lv_aload_n hx hb dL_law_717 rfl (lv_at hl 2 rfl) ?_
  refine lv_aload_n hx hb dL_law_718 rfl (lv_at hl 0 rfl) ?_
  refine lv_iload_n hx hb dL_law_719 rfl (lv_at hl 3 rfl) ?_
  refine lv_iconst (v := 1) hx hb dL_law_720 (by decide) ?_
  refine lv_iadd hx hb dL_law_721 ?_
  refine va_sld hx hb hX hbl hbA hS hb1 dL_law_722 ?_
  refine lv_aload_n hx hb dL_law_723 rfl (lv_at hl 0 rfl) ?_
  refine lv_iload_n hx hb dL_law_724 rfl (lv_at hl 3 rfl) ?_
  refine lv_iconst (v := 2) hx hb dL_law_725 (by decide) ?_
  refine lv_iadd hx hb dL_law_726 ?_
  refine va_sld hx hb hX hbl hbA hS hb2 dL_law_727 ?_
  refine va_calli (va_runV (C := RX6) (As := [.int (xs (nI i + 1).toNatClampNeg), .int (xs (nI i + 2).toNatClampNeg)]) (rest := [.int r1]) ⟨hx, hb, hml, hown, hts⟩ (cX6_ship_ok l D cI cII qm w (xs (nI i + 1).toNatClampNeg) (xs (nI i + 2).toNatClampNeg) _ h) (cwV 2 hts gL_law_X6_ship rfl rfl rfl (by decide +kernel) ⟨Nat.le_of_ble_eq_true rfl, Nat.le_of_ble_eq_true rfl⟩) (z_preVm hK hPm hDm rfl rfl) rfl rfl hl.1 rfl (lv_room (Nat.le_of_ble_eq_true rfl)) dL_law_728 ⟨Nat.le_of_ble_eq_true rfl, Nat.le_of_ble_eq_true rfl⟩) hS (fun x9 _ h9 => z_sub hDm x9 h9) (z_sub hDm) (fun r2 w1 t H1 locs ht hvm h hB hz1 hk1 hS => ?_)
  have hB : va_P D vwCl (wM cI qm w1) t.heap := hB
  rw [ht] at hB
  have hPx : va_P D vwCl (wX cI cII q u1) H1 := z_kept hPx hk1 (fun k y hk => z_apart hD hk)
  have hPm := hB
  have hD : va_D (fun x : Nat => s.heap.size ≤ x) (wX cI cII q u1 ++ wM cI qm w1) := z_Dmap hD rfl
  have hDx := z_Dapp_l hD
  have hDm := z_Dapp_r hD
  refine lv_icmp_eq (tgt := 941) hx hb dL_law_731 (by decide) (fun _ => ?_) (fun cc => absurd h.1 cc)
  exact lw_tail C0 ih h.2 ⟨hPx, hPm, hD, hS⟩ hl

set_option maxHeartbeats 4000000 in
set_option maxRecDepth 100000 in
theorem lw_case17 {p : Program} {l : Launch} {e : Env} {s : State} {m : MethodId} {below : List Frame} {meth : Method} {c : Code} {b L : Nat} {xs : Nat → Int32} (C0 : lw_At p s m meth c b L xs) (hL : L ≤ 3072) {D : va_G} {cI cII : ClassId} (hK : va_K D vwCl (tz cI cII) s) {q : Nat → Nat → Nat} {qm : Nat → Nat} {i : Nat} (hi : i + 6 ≤ L) (ih : lw_L p l e s m b below meth c D cI cII q qm (i + 6)) {u : XS} {w : MS} (hI : Inv u w) {H : Heap} {locs : List Loc} (hH : lw_H D cI cII q qm s u w H locs) {ls : Array Slot} (hl : lv_has ls 4 [(0, .ref b), (1, .ref (q 0 0)), (2, .ref (qm 0)), (3, .int (nI i))]) : lw_W p l e s m b below meth c H locs (F0 m 736 ls []) := by
  obtain ⟨hx, hb, hr, hml, hown, hts0, hX, hbl, hlocks, hgv⟩ := id C0
  have hts : ∀ w ∈ wsL_law, w.before #[Value.ref b] s = true := fun w h => hts0 w (wsL_law_in w h)
  have hbA : ¬ (fun x : Nat => s.heap.size ≤ x) b := Nat.not_le.mpr hbl
  obtain ⟨hPx, hPm, hD, hS⟩ := hH
  have hk5 : ∀ k, k < 6 → vp_in (nI i + nI k) L := fun k hk => by rw [nI_add]; exact vp_in_nI (by omega) (by omega)
  have hb1 : vp_in (nI i + 1) L := hk5 1 (by omega)
  have hb2 : vp_in (nI i + 2) L := hk5 2 (by omega)
  have hb3 : vp_in (nI i + 3) L := hk5 3 (by omega)
  have hb4 : vp_in (nI i + 4) L := hk5 4 (by omega)
  have hb5 : vp_in (nI i + 5) L := hk5 5 (by omega)
  have hDx := z_Dapp_l hD
  have hDm := z_Dapp_r hD
  refine lv_aload_n hx hb dL_law_736 rfl (lv_at hl 1 rfl) ?_
  refine lv_aload_n hx hb dL_law_737 rfl (lv_at hl 0 rfl) ?_
  refine lv_iload_n hx hb dL_law_738 rfl (lv_at hl 3 rfl) ?_
  refine lv_iconst (v := 1) hx hb dL_law_739 (by decide) ?_
  refine lv_iadd hx hb dL_law_740 ?_
  refine va_sld hx hb hX hbl hbA hS hb1 dL_law_741 ?_
  refine lv_aload_n hx hb dL_law_742 rfl (lv_at hl 0 rfl) ?_
  refine lv_iload_n hx hb dL_law_743 rfl (lv_at hl 3 rfl) ?_
  refine lv_iconst (v := 2) hx hb dL_law_744 (by decide) ?_
  refine lv_iadd hx hb dL_law_745 ?_
  refine va_sld hx hb hX hbl hbA hS hb2 dL_law_746 ?_
  have h := pr_bond hI (xs (nI i + 1).toNatClampNeg) (xs (nI i + 2).toNatClampNeg)
  refine vp_callSi (W.runV (C := RX5) (As := [.int (xs (nI i + 1).toNatClampNeg), .int (xs (nI i + 2).toNatClampNeg)]) (rest := []) ⟨hx, hb, hml, hown, hts⟩ (cX5_bond_ok l D cI cII q u (xs (nI i + 1).toNatClampNeg) (xs (nI i + 2).toNatClampNeg) _ h) (cwV 2 hts gL_law_X5_bond rfl rfl rfl (by decide +kernel) ⟨Nat.le_of_ble_eq_true rfl, Nat.le_of_ble_eq_true rfl⟩) (z_preV hK hPx rfl rfl) rfl rfl hl.1 rfl (lv_room (Nat.le_of_ble_eq_true rfl)) dL_law_747 ⟨Nat.le_of_ble_eq_true rfl, Nat.le_of_ble_eq_true rfl⟩) (fun r1 h => ?_)
  refine lv_aload_n hx hb dL_law_750 rfl (lv_at hl 2 rfl) ?_
  refine lv_aload_n hx hb dL_law_751 rfl (lv_at hl 0 rfl) ?_
  refine lv_iload_n hx hb dL_law_752 rfl (lv_at hl 3 rfl) ?_
  refine lv_iconst (v := 1) hx hb dL_law_753 (by decide) ?_
  refine lv_iadd hx hb dL_law_754 ?_
  refine va_sld hx hb hX hbl hbA hS hb1 dL_law_755 ?_
  refine lv_aload_n hx hb dL_law_756 rfl (lv_at hl 0 rfl) ?_
  refine lv_iload_n hx hb dL_law_757 rfl (lv_at hl 3 rfl) ?_
  refine lv_iconst (v := 2) hx hb dL_law_758 (by decide) ?_
  refine lv_iadd hx hb dL_law_759 ?_
  refine va_sld hx hb hX hbl hbA hS hb2 dL_law_760 ?_
  refine vp_callSi (W.runV (C := RX6) (As := [.int (xs (nI i + 1).toNatClampNeg), .int (xs (nI i + 2).toNatClampNeg)]) (rest := [.int r1]) ⟨hx, hb, hml, hown, hts⟩ (cX6_bond_ok l D cI cII qm w (xs (nI i + 1).toNatClampNeg) (xs (nI i + 2).toNatClampNeg) _ h) (cwV 2 hts gL_law_X6_bond rfl rfl rfl (by decide +kernel) ⟨Nat.le_of_ble_eq_true rfl, Nat.le_of_ble_eq_true rfl⟩) (z_preV hK hPm rfl rfl) rfl rfl hl.1 rfl (lv_room (Nat.le_of_ble_eq_true rfl)) dL_law_761 ⟨Nat.le_of_ble_eq_true rfl, Nat.le_of_ble_eq_true rfl⟩) (fun r2 h => ?_)
  refine lv_icmp_eq (tgt := 941) hx hb dL_law_764 (by decide) (fun _ => ?_) (fun cc => absurd h cc)
  exact lw_tail C0 ih hI ⟨hPx, hPm, hD, hS⟩ hl

set_option maxHeartbeats 4000000 in
set_option maxRecDepth 100000 in
theorem lw_case18 {p : Program} {l : Launch} {e : Env} {s : State} {m : MethodId} {below : List Frame} {meth : Method} {c : Code} {b L : Nat} {xs : Nat → Int32} (C0 : lw_At p s m meth c b L xs) (hL : L ≤ 3072) {D : va_G} {cI cII : ClassId} (hK : va_K D vwCl (tz cI cII) s) {q : Nat → Nat → Nat} {qm : Nat → Nat} {i : Nat} (hi : i + 6 ≤ L) (ih : lw_L p l e s m b below meth c D cI cII q qm (i + 6)) {u : XS} {w : MS} (hI : Inv u w) {H : Heap} {locs : List Loc} (hH : lw_H D cI cII q qm s u w H locs) {ls : Array Slot} (hl : lv_has ls 4 [(0, .ref b), (1, .ref (q 0 0)), (2, .ref (qm 0)), (3, .int (nI i))]) : lw_W p l e s m b below meth c H locs (F0 m 769 ls []) := by
  obtain ⟨hx, hb, hr, hml, hown, hts0, hX, hbl, hlocks, hgv⟩ := id C0
  have hts : ∀ w ∈ wsL_law, w.before #[Value.ref b] s = true := fun w h => hts0 w (wsL_law_in w h)
  have hbA : ¬ (fun x : Nat => s.heap.size ≤ x) b := Nat.not_le.mpr hbl
  obtain ⟨hPx, hPm, hD, hS⟩ := hH
  have hk5 : ∀ k, k < 6 → vp_in (nI i + nI k) L := fun k hk => by rw [nI_add]; exact vp_in_nI (by omega) (by omega)
  have hb1 : vp_in (nI i + 1) L := hk5 1 (by omega)
  have hb2 : vp_in (nI i + 2) L := hk5 2 (by omega)
  have hb3 : vp_in (nI i + 3) L := hk5 3 (by omega)
  have hb4 : vp_in (nI i + 4) L := hk5 4 (by omega)
  have hb5 : vp_in (nI i + 5) L := hk5 5 (by omega)
  have hDx := z_Dapp_l hD
  have hDm := z_Dapp_r hD
  refine lv_aload_n hx hb dL_law_769 rfl (lv_at hl 1 rfl) ?_
  have h := pr_chest hI 
  refine vp_callSl (W.runV (C := RX5) (As := []) (rest := []) ⟨hx, hb, hml, hown, hts⟩ (cX5_chest_ok l D cI cII q u  _ h) (cwV 0 hts gL_law_X5_chest rfl rfl rfl (by decide +kernel) ⟨Nat.le_of_ble_eq_true rfl, Nat.le_of_ble_eq_true rfl⟩) (z_preV hK hPx rfl rfl) rfl rfl hl.1 rfl (lv_room (Nat.le_of_ble_eq_true rfl)) dL_law_770 ⟨Nat.le_of_ble_eq_true rfl, Nat.le_of_ble_eq_true rfl⟩) (fun r1 h => ?_)
  refine lv_aload_n hx hb dL_law_773 rfl (lv_at hl 2 rfl) ?_
  refine vp_callSl (W.runV (C := RX6) (As := []) (rest := [.long r1]) ⟨hx, hb, hml, hown, hts⟩ (cX6_chest_ok l D cI cII qm w  _ h) (cwV 0 hts gL_law_X6_chest rfl rfl rfl (by decide +kernel) ⟨Nat.le_of_ble_eq_true rfl, Nat.le_of_ble_eq_true rfl⟩) (z_preV hK hPm rfl rfl) rfl rfl hl.1 rfl (lv_room (Nat.le_of_ble_eq_true rfl)) dL_law_774 ⟨Nat.le_of_ble_eq_true rfl, Nat.le_of_ble_eq_true rfl⟩) (fun r2 h => ?_)
  refine W.lcmp hx hb dL_law_777 ?_
  refine lv_if_eq (tgt := 941) hx hb dL_law_778 (by decide) (fun _ => ?_) (fun cc => absurd ((lg_cmp_eq _ _).mpr h) cc)
  exact lw_tail C0 ih hI ⟨hPx, hPm, hD, hS⟩ hl

set_option maxHeartbeats 4000000 in
set_option maxRecDepth 100000 in
theorem lw_case19 {p : Program} {l : Launch} {e : Env} {s : State} {m : MethodId} {below : List Frame} {meth : Method} {c : Code} {b L : Nat} {xs : Nat → Int32} (C0 : lw_At p s m meth c b L xs) (hL : L ≤ 3072) {D : va_G} {cI cII : ClassId} (hK : va_K D vwCl (tz cI cII) s) {q : Nat → Nat → Nat} {qm : Nat → Nat} {i : Nat} (hi : i + 6 ≤ L) (ih : lw_L p l e s m b below meth c D cI cII q qm (i + 6)) {u : XS} {w : MS} (hI : Inv u w) {H : Heap} {locs : List Loc} (hH : lw_H D cI cII q qm s u w H locs) {ls : Array Slot} (hl : lv_has ls 4 [(0, .ref b), (1, .ref (q 0 0)), (2, .ref (qm 0)), (3, .int (nI i))]) : lw_W p l e s m b below meth c H locs (F0 m 783 ls []) := by
  obtain ⟨hx, hb, hr, hml, hown, hts0, hX, hbl, hlocks, hgv⟩ := id C0
  have hts : ∀ w ∈ wsL_law, w.before #[Value.ref b] s = true := fun w h => hts0 w (wsL_law_in w h)
  have hbA : ¬ (fun x : Nat => s.heap.size ≤ x) b := Nat.not_le.mpr hbl
  obtain ⟨hPx, hPm, hD, hS⟩ := hH
  have hk5 : ∀ k, k < 6 → vp_in (nI i + nI k) L := fun k hk => by rw [nI_add]; exact vp_in_nI (by omega) (by omega)
  have hb1 : vp_in (nI i + 1) L := hk5 1 (by omega)
  have hb2 : vp_in (nI i + 2) L := hk5 2 (by omega)
  have hb3 : vp_in (nI i + 3) L := hk5 3 (by omega)
  have hb4 : vp_in (nI i + 4) L := hk5 4 (by omega)
  have hb5 : vp_in (nI i + 5) L := hk5 5 (by omega)
  have hDx := z_Dapp_l hD
  have hDm := z_Dapp_r hD
  refine lv_aload_n hx hb dL_law_783 rfl (lv_at hl 1 rfl) ?_
  refine lv_aload_n hx hb dL_law_784 rfl (lv_at hl 0 rfl) ?_
  refine lv_iload_n hx hb dL_law_785 rfl (lv_at hl 3 rfl) ?_
  refine lv_iconst (v := 1) hx hb dL_law_786 (by decide) ?_
  refine lv_iadd hx hb dL_law_787 ?_
  refine va_sld hx hb hX hbl hbA hS hb1 dL_law_788 ?_
  have h := pr_worth hI (xs (nI i + 1).toNatClampNeg)
  refine vp_callSl (W.runV (C := RX5) (As := [.int (xs (nI i + 1).toNatClampNeg)]) (rest := []) ⟨hx, hb, hml, hown, hts⟩ (cX5_worth_ok l D cI cII q u (xs (nI i + 1).toNatClampNeg) _ h) (cwV 1 hts gL_law_X5_worth rfl rfl rfl (by decide +kernel) ⟨Nat.le_of_ble_eq_true rfl, Nat.le_of_ble_eq_true rfl⟩) (z_preV hK hPx rfl rfl) rfl rfl hl.1 rfl (lv_room (Nat.le_of_ble_eq_true rfl)) dL_law_789 ⟨Nat.le_of_ble_eq_true rfl, Nat.le_of_ble_eq_true rfl⟩) (fun r1 h => ?_)
  refine lv_aload_n hx hb dL_law_792 rfl (lv_at hl 2 rfl) ?_
  refine lv_aload_n hx hb dL_law_793 rfl (lv_at hl 0 rfl) ?_
  refine lv_iload_n hx hb dL_law_794 rfl (lv_at hl 3 rfl) ?_
  refine lv_iconst (v := 1) hx hb dL_law_795 (by decide) ?_
  refine lv_iadd hx hb dL_law_796 ?_
  refine va_sld hx hb hX hbl hbA hS hb1 dL_law_797 ?_
  refine va_calll (va_runV (C := RX6) (As := [.int (xs (nI i + 1).toNatClampNeg)]) (rest := [.long r1]) ⟨hx, hb, hml, hown, hts⟩ (cX6_worth_ok l D cI cII qm w (xs (nI i + 1).toNatClampNeg) _ h) (cwV 1 hts gL_law_X6_worth rfl rfl rfl (by decide +kernel) ⟨Nat.le_of_ble_eq_true rfl, Nat.le_of_ble_eq_true rfl⟩) (z_preVm hK hPm hDm rfl rfl) rfl rfl hl.1 rfl (lv_room (Nat.le_of_ble_eq_true rfl)) dL_law_798 ⟨Nat.le_of_ble_eq_true rfl, Nat.le_of_ble_eq_true rfl⟩) hS (fun x9 _ h9 => z_sub hDm x9 h9) (z_sub hDm) (fun r2 w1 t H1 locs ht hvm h hB hz1 hk1 hS => ?_)
  have hB : va_P D vwCl (wM cI qm w1) t.heap := hB
  rw [ht] at hB
  have hPx : va_P D vwCl (wX cI cII q u) H1 := z_kept hPx hk1 (fun k y hk => z_apart hD hk)
  have hPm := hB
  have hD : va_D (fun x : Nat => s.heap.size ≤ x) (wX cI cII q u ++ wM cI qm w1) := z_Dmap hD rfl
  have hDx := z_Dapp_l hD
  have hDm := z_Dapp_r hD
  refine W.lcmp hx hb dL_law_801 ?_
  refine lv_if_eq (tgt := 941) hx hb dL_law_802 (by decide) (fun _ => ?_) (fun cc => absurd ((lg_cmp_eq _ _).mpr h.1) cc)
  exact lw_tail C0 ih h.2 ⟨hPx, hPm, hD, hS⟩ hl

set_option maxHeartbeats 4000000 in
set_option maxRecDepth 100000 in
theorem lw_case20 {p : Program} {l : Launch} {e : Env} {s : State} {m : MethodId} {below : List Frame} {meth : Method} {c : Code} {b L : Nat} {xs : Nat → Int32} (C0 : lw_At p s m meth c b L xs) (hL : L ≤ 3072) {D : va_G} {cI cII : ClassId} (hK : va_K D vwCl (tz cI cII) s) {q : Nat → Nat → Nat} {qm : Nat → Nat} {i : Nat} (hi : i + 6 ≤ L) (ih : lw_L p l e s m b below meth c D cI cII q qm (i + 6)) {u : XS} {w : MS} (hI : Inv u w) {H : Heap} {locs : List Loc} (hH : lw_H D cI cII q qm s u w H locs) {ls : Array Slot} (hl : lv_has ls 4 [(0, .ref b), (1, .ref (q 0 0)), (2, .ref (qm 0)), (3, .int (nI i))]) : lw_W p l e s m b below meth c H locs (F0 m 807 ls []) := by
  obtain ⟨hx, hb, hr, hml, hown, hts0, hX, hbl, hlocks, hgv⟩ := id C0
  have hts : ∀ w ∈ wsL_law, w.before #[Value.ref b] s = true := fun w h => hts0 w (wsL_law_in w h)
  have hbA : ¬ (fun x : Nat => s.heap.size ≤ x) b := Nat.not_le.mpr hbl
  obtain ⟨hPx, hPm, hD, hS⟩ := hH
  have hk5 : ∀ k, k < 6 → vp_in (nI i + nI k) L := fun k hk => by rw [nI_add]; exact vp_in_nI (by omega) (by omega)
  have hb1 : vp_in (nI i + 1) L := hk5 1 (by omega)
  have hb2 : vp_in (nI i + 2) L := hk5 2 (by omega)
  have hb3 : vp_in (nI i + 3) L := hk5 3 (by omega)
  have hb4 : vp_in (nI i + 4) L := hk5 4 (by omega)
  have hb5 : vp_in (nI i + 5) L := hk5 5 (by omega)
  have hDx := z_Dapp_l hD
  have hDm := z_Dapp_r hD
  refine lv_aload_n hx hb dL_law_807 rfl (lv_at hl 1 rfl) ?_
  refine lv_aload_n hx hb dL_law_808 rfl (lv_at hl 0 rfl) ?_
  refine lv_iload_n hx hb dL_law_809 rfl (lv_at hl 3 rfl) ?_
  refine lv_iconst (v := 1) hx hb dL_law_810 (by decide) ?_
  refine lv_iadd hx hb dL_law_811 ?_
  refine va_sld hx hb hX hbl hbA hS hb1 dL_law_812 ?_
  have h := pr_other hI (xs (nI i + 1).toNatClampNeg)
  refine vp_callSl (W.runV (C := RX5) (As := [.int (xs (nI i + 1).toNatClampNeg)]) (rest := []) ⟨hx, hb, hml, hown, hts⟩ (cX5_other_ok l D cI cII q u (xs (nI i + 1).toNatClampNeg) _ h) (cwV 1 hts gL_law_X5_other rfl rfl rfl (by decide +kernel) ⟨Nat.le_of_ble_eq_true rfl, Nat.le_of_ble_eq_true rfl⟩) (z_preV hK hPx rfl rfl) rfl rfl hl.1 rfl (lv_room (Nat.le_of_ble_eq_true rfl)) dL_law_813 ⟨Nat.le_of_ble_eq_true rfl, Nat.le_of_ble_eq_true rfl⟩) (fun r1 h => ?_)
  refine lv_aload_n hx hb dL_law_816 rfl (lv_at hl 2 rfl) ?_
  refine lv_aload_n hx hb dL_law_817 rfl (lv_at hl 0 rfl) ?_
  refine lv_iload_n hx hb dL_law_818 rfl (lv_at hl 3 rfl) ?_
  refine lv_iconst (v := 1) hx hb dL_law_819 (by decide) ?_
  refine lv_iadd hx hb dL_law_820 ?_
  refine va_sld hx hb hX hbl hbA hS hb1 dL_law_821 ?_
  refine va_calll (va_runV (C := RX6) (As := [.int (xs (nI i + 1).toNatClampNeg)]) (rest := [.long r1]) ⟨hx, hb, hml, hown, hts⟩ (cX6_other_ok l D cI cII qm w (xs (nI i + 1).toNatClampNeg) _ h) (cwV 1 hts gL_law_X6_other rfl rfl rfl (by decide +kernel) ⟨Nat.le_of_ble_eq_true rfl, Nat.le_of_ble_eq_true rfl⟩) (z_preVm hK hPm hDm rfl rfl) rfl rfl hl.1 rfl (lv_room (Nat.le_of_ble_eq_true rfl)) dL_law_822 ⟨Nat.le_of_ble_eq_true rfl, Nat.le_of_ble_eq_true rfl⟩) hS (fun x9 _ h9 => z_sub hDm x9 h9) (z_sub hDm) (fun r2 w1 t H1 locs ht hvm h hB hz1 hk1 hS => ?_)
  have hB : va_P D vwCl (wM cI qm w1) t.heap := hB
  rw [ht] at hB
  have hPx : va_P D vwCl (wX cI cII q u) H1 := z_kept hPx hk1 (fun k y hk => z_apart hD hk)
  have hPm := hB
  have hD : va_D (fun x : Nat => s.heap.size ≤ x) (wX cI cII q u ++ wM cI qm w1) := z_Dmap hD rfl
  have hDx := z_Dapp_l hD
  have hDm := z_Dapp_r hD
  refine W.lcmp hx hb dL_law_825 ?_
  refine lv_if_eq (tgt := 941) hx hb dL_law_826 (by decide) (fun _ => ?_) (fun cc => absurd ((lg_cmp_eq _ _).mpr h.1) cc)
  exact lw_tail C0 ih h.2 ⟨hPx, hPm, hD, hS⟩ hl

set_option maxHeartbeats 4000000 in
set_option maxRecDepth 100000 in
theorem lw_case21 {p : Program} {l : Launch} {e : Env} {s : State} {m : MethodId} {below : List Frame} {meth : Method} {c : Code} {b L : Nat} {xs : Nat → Int32} (C0 : lw_At p s m meth c b L xs) (hL : L ≤ 3072) {D : va_G} {cI cII : ClassId} (hK : va_K D vwCl (tz cI cII) s) {q : Nat → Nat → Nat} {qm : Nat → Nat} {i : Nat} (hi : i + 6 ≤ L) (ih : lw_L p l e s m b below meth c D cI cII q qm (i + 6)) {u : XS} {w : MS} (hI : Inv u w) {H : Heap} {locs : List Loc} (hH : lw_H D cI cII q qm s u w H locs) {ls : Array Slot} (hl : lv_has ls 4 [(0, .ref b), (1, .ref (q 0 0)), (2, .ref (qm 0)), (3, .int (nI i))]) : lw_W p l e s m b below meth c H locs (F0 m 831 ls []) := by
  obtain ⟨hx, hb, hr, hml, hown, hts0, hX, hbl, hlocks, hgv⟩ := id C0
  have hts : ∀ w ∈ wsL_law, w.before #[Value.ref b] s = true := fun w h => hts0 w (wsL_law_in w h)
  have hbA : ¬ (fun x : Nat => s.heap.size ≤ x) b := Nat.not_le.mpr hbl
  obtain ⟨hPx, hPm, hD, hS⟩ := hH
  have hk5 : ∀ k, k < 6 → vp_in (nI i + nI k) L := fun k hk => by rw [nI_add]; exact vp_in_nI (by omega) (by omega)
  have hb1 : vp_in (nI i + 1) L := hk5 1 (by omega)
  have hb2 : vp_in (nI i + 2) L := hk5 2 (by omega)
  have hb3 : vp_in (nI i + 3) L := hk5 3 (by omega)
  have hb4 : vp_in (nI i + 4) L := hk5 4 (by omega)
  have hb5 : vp_in (nI i + 5) L := hk5 5 (by omega)
  have hDx := z_Dapp_l hD
  have hDm := z_Dapp_r hD
  refine lv_aload_n hx hb dL_law_831 rfl (lv_at hl 1 rfl) ?_
  refine lv_aload_n hx hb dL_law_832 rfl (lv_at hl 0 rfl) ?_
  refine lv_iload_n hx hb dL_law_833 rfl (lv_at hl 3 rfl) ?_
  refine lv_iconst (v := 1) hx hb dL_law_834 (by decide) ?_
  refine lv_iadd hx hb dL_law_835 ?_
  refine va_sld hx hb hX hbl hbA hS hb1 dL_law_836 ?_
  refine lv_aload_n hx hb dL_law_837 rfl (lv_at hl 0 rfl) ?_
  refine lv_iload_n hx hb dL_law_838 rfl (lv_at hl 3 rfl) ?_
  refine lv_iconst (v := 2) hx hb dL_law_839 (by decide) ?_
  refine lv_iadd hx hb dL_law_840 ?_
  refine va_sld hx hb hX hbl hbA hS hb2 dL_law_841 ?_
  refine lv_aload_n hx hb dL_law_842 rfl (lv_at hl 0 rfl) ?_
  refine lv_iload_n hx hb dL_law_843 rfl (lv_at hl 3 rfl) ?_
  refine lv_iconst (v := 3) hx hb dL_law_844 (by decide) ?_
  refine lv_iadd hx hb dL_law_845 ?_
  refine va_sld hx hb hX hbl hbA hS hb3 dL_law_846 ?_
  have h := pr_gain hI (xs (nI i + 1).toNatClampNeg) (xs (nI i + 2).toNatClampNeg) (xs (nI i + 3).toNatClampNeg)
  refine vp_callSl (W.runV (C := RX5) (As := [.int (xs (nI i + 1).toNatClampNeg), .int (xs (nI i + 2).toNatClampNeg), .int (xs (nI i + 3).toNatClampNeg)]) (rest := []) ⟨hx, hb, hml, hown, hts⟩ (cX5_gain_ok l D cI cII q u (xs (nI i + 1).toNatClampNeg) (xs (nI i + 2).toNatClampNeg) (xs (nI i + 3).toNatClampNeg) _ h) (cwV 3 hts gL_law_X5_gain rfl rfl rfl (by decide +kernel) ⟨Nat.le_of_ble_eq_true rfl, Nat.le_of_ble_eq_true rfl⟩) (z_preV hK hPx rfl rfl) rfl rfl hl.1 rfl (lv_room (Nat.le_of_ble_eq_true rfl)) dL_law_847 ⟨Nat.le_of_ble_eq_true rfl, Nat.le_of_ble_eq_true rfl⟩) (fun r1 h => ?_)
  refine lv_aload_n hx hb dL_law_850 rfl (lv_at hl 2 rfl) ?_
  refine lv_aload_n hx hb dL_law_851 rfl (lv_at hl 0 rfl) ?_
  refine lv_iload_n hx hb dL_law_852 rfl (lv_at hl 3 rfl) ?_
  refine lv_iconst (v := 1) hx hb dL_law_853 (by decide) ?_
  refine lv_iadd hx hb dL_law_854 ?_
  refine va_sld hx hb hX hbl hbA hS hb1 dL_law_855 ?_
  refine lv_aload_n hx hb dL_law_856 rfl (lv_at hl 0 rfl) ?_
  refine lv_iload_n hx hb dL_law_857 rfl (lv_at hl 3 rfl) ?_
  refine lv_iconst (v := 2) hx hb dL_law_858 (by decide) ?_
  refine lv_iadd hx hb dL_law_859 ?_
  refine va_sld hx hb hX hbl hbA hS hb2 dL_law_860 ?_
  refine lv_aload_n hx hb dL_law_861 rfl (lv_at hl 0 rfl) ?_
  refine lv_iload_n hx hb dL_law_862 rfl (lv_at hl 3 rfl) ?_
  refine lv_iconst (v := 3) hx hb dL_law_863 (by decide) ?_
  refine lv_iadd hx hb dL_law_864 ?_
  refine va_sld hx hb hX hbl hbA hS hb3 dL_law_865 ?_
  refine vp_callSl (W.runV (C := RX6) (As := [.int (xs (nI i + 1).toNatClampNeg), .int (xs (nI i + 2).toNatClampNeg), .int (xs (nI i + 3).toNatClampNeg)]) (rest := [.long r1]) ⟨hx, hb, hml, hown, hts⟩ (cX6_gain_ok l D cI cII qm w (xs (nI i + 1).toNatClampNeg) (xs (nI i + 2).toNatClampNeg) (xs (nI i + 3).toNatClampNeg) _ h) (cwV 3 hts gL_law_X6_gain rfl rfl rfl (by decide +kernel) ⟨Nat.le_of_ble_eq_true rfl, Nat.le_of_ble_eq_true rfl⟩) (z_preV hK hPm rfl rfl) rfl rfl hl.1 rfl (lv_room (Nat.le_of_ble_eq_true rfl)) dL_law_866 ⟨Nat.le_of_ble_eq_true rfl, Nat.le_of_ble_eq_true rfl⟩) (fun r2 h => ?_)
  refine W.lcmp hx hb dL_law_869 ?_
  refine lv_if_eq (tgt := 941) hx hb dL_law_870 (by decide) (fun _ => ?_) (fun cc => absurd ((lg_cmp_eq _ _).mpr h) cc)
  exact lw_tail C0 ih hI ⟨hPx, hPm, hD, hS⟩ hl

set_option maxHeartbeats 4000000 in
set_option maxRecDepth 100000 in
theorem lw_case22 {p : Program} {l : Launch} {e : Env} {s : State} {m : MethodId} {below : List Frame} {meth : Method} {c : Code} {b L : Nat} {xs : Nat → Int32} (C0 : lw_At p s m meth c b L xs) (hL : L ≤ 3072) {D : va_G} {cI cII : ClassId} (hK : va_K D vwCl (tz cI cII) s) {q : Nat → Nat → Nat} {qm : Nat → Nat} {i : Nat} (hi : i + 6 ≤ L) (ih : lw_L p l e s m b below meth c D cI cII q qm (i + 6)) {u : XS} {w : MS} (hI : Inv u w) {H : Heap} {locs : List Loc} (hH : lw_H D cI cII q qm s u w H locs) {ls : Array Slot} (hl : lv_has ls 4 [(0, .ref b), (1, .ref (q 0 0)), (2, .ref (qm 0)), (3, .int (nI i))]) : lw_W p l e s m b below meth c H locs (F0 m 875 ls []) := by
  obtain ⟨hx, hb, hr, hml, hown, hts0, hX, hbl, hlocks, hgv⟩ := id C0
  have hts : ∀ w ∈ wsL_law, w.before #[Value.ref b] s = true := fun w h => hts0 w (wsL_law_in w h)
  have hbA : ¬ (fun x : Nat => s.heap.size ≤ x) b := Nat.not_le.mpr hbl
  obtain ⟨hPx, hPm, hD, hS⟩ := hH
  have hk5 : ∀ k, k < 6 → vp_in (nI i + nI k) L := fun k hk => by rw [nI_add]; exact vp_in_nI (by omega) (by omega)
  have hb1 : vp_in (nI i + 1) L := hk5 1 (by omega)
  have hb2 : vp_in (nI i + 2) L := hk5 2 (by omega)
  have hb3 : vp_in (nI i + 3) L := hk5 3 (by omega)
  have hb4 : vp_in (nI i + 4) L := hk5 4 (by omega)
  have hb5 : vp_in (nI i + 5) L := hk5 5 (by omega)
  have hDx := z_Dapp_l hD
  have hDm := z_Dapp_r hD
  refine lv_aload_n hx hb dL_law_875 rfl (lv_at hl 1 rfl) ?_
  refine lv_aload_n hx hb dL_law_876 rfl (lv_at hl 0 rfl) ?_
  refine lv_iload_n hx hb dL_law_877 rfl (lv_at hl 3 rfl) ?_
  refine lv_iconst (v := 1) hx hb dL_law_878 (by decide) ?_
  refine lv_iadd hx hb dL_law_879 ?_
  refine va_sld hx hb hX hbl hbA hS hb1 dL_law_880 ?_
  refine lv_aload_n hx hb dL_law_881 rfl (lv_at hl 0 rfl) ?_
  refine lv_iload_n hx hb dL_law_882 rfl (lv_at hl 3 rfl) ?_
  refine lv_iconst (v := 2) hx hb dL_law_883 (by decide) ?_
  refine lv_iadd hx hb dL_law_884 ?_
  refine va_sld hx hb hX hbl hbA hS hb2 dL_law_885 ?_
  refine lv_aload_n hx hb dL_law_886 rfl (lv_at hl 0 rfl) ?_
  refine lv_iload_n hx hb dL_law_887 rfl (lv_at hl 3 rfl) ?_
  refine lv_iconst (v := 3) hx hb dL_law_888 (by decide) ?_
  refine lv_iadd hx hb dL_law_889 ?_
  refine va_sld hx hb hX hbl hbA hS hb3 dL_law_890 ?_
  have h := pr_best hI (xs (nI i + 1).toNatClampNeg) (xs (nI i + 2).toNatClampNeg) (xs (nI i + 3).toNatClampNeg)
  refine vp_callSi (W.runV (C := RX5) (As := [.int (xs (nI i + 1).toNatClampNeg), .int (xs (nI i + 2).toNatClampNeg), .int (xs (nI i + 3).toNatClampNeg)]) (rest := []) ⟨hx, hb, hml, hown, hts⟩ (cX5_best_ok l D cI cII q u (xs (nI i + 1).toNatClampNeg) (xs (nI i + 2).toNatClampNeg) (xs (nI i + 3).toNatClampNeg) _ h) (cwV 3 hts gL_law_X5_best rfl rfl rfl (by decide +kernel) ⟨Nat.le_of_ble_eq_true rfl, Nat.le_of_ble_eq_true rfl⟩) (z_preV hK hPx rfl rfl) rfl rfl hl.1 rfl (lv_room (Nat.le_of_ble_eq_true rfl)) dL_law_891 ⟨Nat.le_of_ble_eq_true rfl, Nat.le_of_ble_eq_true rfl⟩) (fun r1 h => ?_)
  refine lv_aload_n hx hb dL_law_894 rfl (lv_at hl 2 rfl) ?_
  refine lv_aload_n hx hb dL_law_895 rfl (lv_at hl 0 rfl) ?_
  refine lv_iload_n hx hb dL_law_896 rfl (lv_at hl 3 rfl) ?_
  refine lv_iconst (v := 1) hx hb dL_law_897 (by decide) ?_
  refine lv_iadd hx hb dL_law_898 ?_
  refine va_sld hx hb hX hbl hbA hS hb1 dL_law_899 ?_
  refine lv_aload_n hx hb dL_law_900 rfl (lv_at hl 0 rfl) ?_
  refine lv_iload_n hx hb dL_law_901 rfl (lv_at hl 3 rfl) ?_
  refine lv_iconst (v := 2) hx hb dL_law_902 (by decide) ?_
  refine lv_iadd hx hb dL_law_903 ?_
  refine va_sld hx hb hX hbl hbA hS hb2 dL_law_904 ?_
  refine lv_aload_n hx hb dL_law_905 rfl (lv_at hl 0 rfl) ?_
  refine lv_iload_n hx hb dL_law_906 rfl (lv_at hl 3 rfl) ?_
  refine lv_iconst (v := 3) hx hb dL_law_907 (by decide) ?_
  refine lv_iadd hx hb dL_law_908 ?_
  refine va_sld hx hb hX hbl hbA hS hb3 dL_law_909 ?_
  refine vp_callSi (W.runV (C := RX6) (As := [.int (xs (nI i + 1).toNatClampNeg), .int (xs (nI i + 2).toNatClampNeg), .int (xs (nI i + 3).toNatClampNeg)]) (rest := [.int r1]) ⟨hx, hb, hml, hown, hts⟩ (cX6_best_ok l D cI cII qm w (xs (nI i + 1).toNatClampNeg) (xs (nI i + 2).toNatClampNeg) (xs (nI i + 3).toNatClampNeg) _ h) (cwV 3 hts gL_law_X6_best rfl rfl rfl (by decide +kernel) ⟨Nat.le_of_ble_eq_true rfl, Nat.le_of_ble_eq_true rfl⟩) (z_preV hK hPm rfl rfl) rfl rfl hl.1 rfl (lv_room (Nat.le_of_ble_eq_true rfl)) dL_law_910 ⟨Nat.le_of_ble_eq_true rfl, Nat.le_of_ble_eq_true rfl⟩) (fun r2 h => ?_)
  refine lv_icmp_eq (tgt := 941) hx hb dL_law_913 (by decide) (fun _ => ?_) (fun cc => absurd h cc)
  exact lw_tail C0 ih hI ⟨hPx, hPm, hD, hS⟩ hl

set_option maxHeartbeats 4000000 in
set_option maxRecDepth 100000 in
theorem lw_case23 {p : Program} {l : Launch} {e : Env} {s : State} {m : MethodId} {below : List Frame} {meth : Method} {c : Code} {b L : Nat} {xs : Nat → Int32} (C0 : lw_At p s m meth c b L xs) (hL : L ≤ 3072) {D : va_G} {cI cII : ClassId} (hK : va_K D vwCl (tz cI cII) s) {q : Nat → Nat → Nat} {qm : Nat → Nat} {i : Nat} (hi : i + 6 ≤ L) (ih : lw_L p l e s m b below meth c D cI cII q qm (i + 6)) {u : XS} {w : MS} (hI : Inv u w) {H : Heap} {locs : List Loc} (hH : lw_H D cI cII q qm s u w H locs) {ls : Array Slot} (hl : lv_has ls 4 [(0, .ref b), (1, .ref (q 0 0)), (2, .ref (qm 0)), (3, .int (nI i))]) : lw_W p l e s m b below meth c H locs (F0 m 918 ls []) := by
  obtain ⟨hx, hb, hr, hml, hown, hts0, hX, hbl, hlocks, hgv⟩ := id C0
  have hts : ∀ w ∈ wsL_law, w.before #[Value.ref b] s = true := fun w h => hts0 w (wsL_law_in w h)
  have hbA : ¬ (fun x : Nat => s.heap.size ≤ x) b := Nat.not_le.mpr hbl
  obtain ⟨hPx, hPm, hD, hS⟩ := hH
  have hk5 : ∀ k, k < 6 → vp_in (nI i + nI k) L := fun k hk => by rw [nI_add]; exact vp_in_nI (by omega) (by omega)
  have hb1 : vp_in (nI i + 1) L := hk5 1 (by omega)
  have hb2 : vp_in (nI i + 2) L := hk5 2 (by omega)
  have hb3 : vp_in (nI i + 3) L := hk5 3 (by omega)
  have hb4 : vp_in (nI i + 4) L := hk5 4 (by omega)
  have hb5 : vp_in (nI i + 5) L := hk5 5 (by omega)
  have hDx := z_Dapp_l hD
  have hDm := z_Dapp_r hD
  refine lv_aload_n hx hb dL_law_918 rfl (lv_at hl 1 rfl) ?_
  refine lv_aload_n hx hb dL_law_919 rfl (lv_at hl 0 rfl) ?_
  refine lv_iload_n hx hb dL_law_920 rfl (lv_at hl 3 rfl) ?_
  refine lv_iconst (v := 1) hx hb dL_law_921 (by decide) ?_
  refine lv_iadd hx hb dL_law_922 ?_
  refine va_sld hx hb hX hbl hbA hS hb1 dL_law_923 ?_
  have h := pr_count hI (xs (nI i + 1).toNatClampNeg)
  refine vp_callSi (W.runV (C := RX5) (As := [.int (xs (nI i + 1).toNatClampNeg)]) (rest := []) ⟨hx, hb, hml, hown, hts⟩ (cX5_count_ok l D cI cII q u (xs (nI i + 1).toNatClampNeg) _ h) (cwV 1 hts gL_law_X5_count rfl rfl rfl (by decide +kernel) ⟨Nat.le_of_ble_eq_true rfl, Nat.le_of_ble_eq_true rfl⟩) (z_preV hK hPx rfl rfl) rfl rfl hl.1 rfl (lv_room (Nat.le_of_ble_eq_true rfl)) dL_law_924 ⟨Nat.le_of_ble_eq_true rfl, Nat.le_of_ble_eq_true rfl⟩) (fun r1 h => ?_)
  refine lv_aload_n hx hb dL_law_927 rfl (lv_at hl 2 rfl) ?_
  refine lv_aload_n hx hb dL_law_928 rfl (lv_at hl 0 rfl) ?_
  refine lv_iload_n hx hb dL_law_929 rfl (lv_at hl 3 rfl) ?_
  refine lv_iconst (v := 1) hx hb dL_law_930 (by decide) ?_
  refine lv_iadd hx hb dL_law_931 ?_
  refine va_sld hx hb hX hbl hbA hS hb1 dL_law_932 ?_
  refine vp_callSi (W.runV (C := RX6) (As := [.int (xs (nI i + 1).toNatClampNeg)]) (rest := [.int r1]) ⟨hx, hb, hml, hown, hts⟩ (cX6_count_ok l D cI cII qm w (xs (nI i + 1).toNatClampNeg) _ h) (cwV 1 hts gL_law_X6_count rfl rfl rfl (by decide +kernel) ⟨Nat.le_of_ble_eq_true rfl, Nat.le_of_ble_eq_true rfl⟩) (z_preV hK hPm rfl rfl) rfl rfl hl.1 rfl (lv_room (Nat.le_of_ble_eq_true rfl)) dL_law_933 ⟨Nat.le_of_ble_eq_true rfl, Nat.le_of_ble_eq_true rfl⟩) (fun r2 h => ?_)
  refine lv_icmp_eq (tgt := 941) hx hb dL_law_936 (by decide) (fun _ => ?_) (fun cc => absurd h cc)
  exact lw_tail C0 ih hI ⟨hPx, hPm, hD, hS⟩ hl
