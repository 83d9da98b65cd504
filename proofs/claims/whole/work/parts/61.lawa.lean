set_option maxHeartbeats 4000000 in
set_option maxRecDepth 100000 in
theorem lw_case0 {p : Program} {l : Launch} {e : Env} {s : State} {m : MethodId} {below : List Frame} {meth : Method} {c : Code} {b L : Nat} {xs : Nat → Int32} (C0 : lw_At p s m meth c b L xs) (hL : L ≤ 3072) {D : va_G} {cI cII : ClassId} (hK : va_K D vwCl (tz cI cII) s) {q : Nat → Nat → Nat} {qm : Nat → Nat} {i : Nat} (hi : i + 6 ≤ L) (ih : lw_L p l e s m b below meth c D cI cII q qm (i + 6)) {u : XS} {w : MS} (hI : Inv u w) {H : Heap} {locs : List Loc} (hH : lw_H D cI cII q qm s u w H locs) {ls : Array Slot} (hl : lv_has ls 4 [(0, .ref b), (1, .ref (q 0 0)), (2, .ref (qm 0)), (3, .int (nI i))]) : lw_W p l e s m b below meth c H locs (F0 m 144 ls []) := by
  obtain ⟨hx, hb, hr, hml, hown, hts0, hX, hbl, hlocks, hgv⟩ := id C0
  have hts : ∀ w ∈ wsL_law, w.before #[Value.ref b] s = true := fun w h => hts0 w (wsL_law_in w h)
  have hbA : ¬ (fun x : Nat => s.heap.size ≤ x) b := Nat.not_le.mpr hbl
  obtain ⟨hPx, hPm, hD, hS⟩ := hH
  have hk5 : ∀ k, k < 6 → vp_in (nI i + nI k) L := fun k hk => by rw [nI_add]; exact vp_in_nI (by omega) (by omega)
  have hb1 : vp_in (nI i + 1) L := hk5 1 (by omega)
  have hb2 : vp_in (nI i + 2) L := hk5 2 (by omega)
  have hb3 : vp_in (nI i + 3) L := hk5 3 (by omega)
  have hb4 : vp_in (nI i + 4) L := hk5 4 (by omega)
  have hb5 : vp_in (nI i + 5) L := hk5 5 (by omega)
  have hDx := z_Dapp_l hD
  have hDm := z_Dapp_r hD
  refine lv_aload_n hx hb dL_law_144 rfl (lv_at hl 1 rfl) ?_
  refine lv_aload_n hx hb dL_law_145 rfl (lv_at hl 0 rfl) ?_
  refine lv_iload_n hx hb dL_law_146 rfl (lv_at hl 3 rfl) ?_
  refine lv_iconst (v := 1) hx hb dL_law_147 (by decide) ?_
  refine lv_iadd hx hb dL_law_148 ?_
  refine va_sld hx hb hX hbl hbA hS hb1 dL_law_149 ?_
  have h := pr_weeks hI (xs (nI i + 1).toNatClampNeg)
  refine va_calli (va_runV (C := RX5) (As := [.int (xs (nI i + 1).toNatClampNeg)]) (rest := []) ⟨hx, hb, hml, hown, hts⟩ (cX5_weeks_ok l D cI cII q u (xs (nI i + 1).toNatClampNeg) _ h) (cwV 1 hts gL_law_X5_weeks rfl rfl rfl (by decide +kernel) ⟨Nat.le_of_ble_eq_true rfl, Nat.le_of_ble_eq_true rfl⟩) (z_preVm hK hPx hDx rfl rfl) rfl rfl hl.1 rfl (lv_room (Nat.le_of_ble_eq_true rfl)) dL_law_150 ⟨Nat.le_of_ble_eq_true rfl, Nat.le_of_ble_eq_true rfl⟩) hS (fun x9 _ h9 => z_sub hDx x9 h9) (z_sub hDx) (fun r1 u1 t H1 locs ht hvm h hB hz1 hk1 hS => ?_)
  have hB : va_P D vwCl (wX cI cII q u1) t.heap := hB
  rw [ht] at hB
  have hPm : va_P D vwCl (wM cI qm w) H1 := z_kept hPm hk1 (fun k y hk => z_apart' hD hk)
  have hPx := hB
  have hD : va_D (fun x : Nat => s.heap.size ≤ x) (wX cI cII q u1 ++ wM cI qm w) := z_Dmap hD rfl
  have hDx := z_Dapp_l hD
  have hDm := z_Dapp_r hD
  refine lv_aload_n hx hb dL_law_153 rfl (lv_at hl 2 rfl) ?_
  refine lv_aload_n hx hb dL_law_154 rfl (lv_at hl 0 rfl) ?_
  refine lv_iload_n hx hb dL_law_155 rfl (lv_at hl 3 rfl) ?_
  refine lv_iconst (v := 1) hx hb dL_law_156 (by decide) ?_
  refine lv_iadd hx hb dL_law_157 ?_
  refine va_sld hx hb hX hbl hbA hS hb1 dL_law_158 ?_
  refine va_calli (va_runV (C := RX6) (As := [.int (xs (nI i + 1).toNatClampNeg)]) (rest := [.int r1]) ⟨hx, hb, hml, hown, hts⟩ (cX6_weeks_ok l D cI cII qm w (xs (nI i + 1).toNatClampNeg) _ h) (cwV 1 hts gL_law_X6_weeks rfl rfl rfl (by decide +kernel) ⟨Nat.le_of_ble_eq_true rfl, Nat.le_of_ble_eq_true rfl⟩) (z_preVm hK hPm hDm rfl rfl) rfl rfl hl.1 rfl (lv_room (Nat.le_of_ble_eq_true rfl)) dL_law_159 ⟨Nat.le_of_ble_eq_true rfl, Nat.le_of_ble_eq_true rfl⟩) hS (fun x9 _ h9 => z_sub hDm x9 h9) (z_sub hDm) (fun r2 w1 t H1 locs ht hvm h hB hz1 hk1 hS => ?_)
  have hB : va_P D vwCl (wM cI qm w1) t.heap := hB
  rw [ht] at hB
  have hPx : va_P D vwCl (wX cI cII q u1) H1 := z_kept hPx hk1 (fun k y hk => z_apart hD hk)
  have hPm := hB
  have hD : va_D (fun x : Nat => s.heap.size ≤ x) (wX cI cII q u1 ++ wM cI qm w1) := z_Dmap hD rfl
  have hDx := z_Dapp_l hD
  have hDm := z_Dapp_r hD
  refine lv_icmp_eq (tgt := 941) hx hb dL_law_162 (by decide) (fun _ => ?_) (fun cc => absurd h.1 cc)
  exact lw_tail C0 ih h.2 ⟨hPx, hPm, hD, hS⟩ hl

set_option maxHeartbeats 4000000 in
set_option maxRecDepth 100000 in
theorem lw_case1 {p : Program} {l : Launch} {e : Env} {s : State} {m : MethodId} {below : List Frame} {meth : Method} {c : Code} {b L : Nat} {xs : Nat → Int32} (C0 : lw_At p s m meth c b L xs) (hL : L ≤ 3072) {D : va_G} {cI cII : ClassId} (hK : va_K D vwCl (tz cI cII) s) {q : Nat → Nat → Nat} {qm : Nat → Nat} {i : Nat} (hi : i + 6 ≤ L) (ih : lw_L p l e s m b below meth c D cI cII q qm (i + 6)) {u : XS} {w : MS} (hI : Inv u w) {H : Heap} {locs : List Loc} (hH : lw_H D cI cII q qm s u w H locs) {ls : Array Slot} (hl : lv_has ls 4 [(0, .ref b), (1, .ref (q 0 0)), (2, .ref (qm 0)), (3, .int (nI i))]) : lw_W p l e s m b below meth c H locs (F0 m 167 ls []) := by
  obtain ⟨hx, hb, hr, hml, hown, hts0, hX, hbl, hlocks, hgv⟩ := id C0
  have hts : ∀ w ∈ wsL_law, w.before #[Value.ref b] s = true := fun w h => hts0 w (wsL_law_in w h)
  have hbA : ¬ (fun x : Nat => s.heap.size ≤ x) b := Nat.not_le.mpr hbl
  obtain ⟨hPx, hPm, hD, hS⟩ := hH
  have hk5 : ∀ k, k < 6 → vp_in (nI i + nI k) L := fun k hk => by rw [nI_add]; exact vp_in_nI (by omega) (by omega)
  have hb1 : vp_in (nI i + 1) L := hk5 1 (by omega)
  have hb2 : vp_in (nI i + 2) L := hk5 2 (by omega)
  have hb3 : vp_in (nI i + 3) L := hk5 3 (by omega)
  have hb4 : vp_in (nI i + 4) L := hk5 4 (by omega)
  have hb5 : vp_in (nI i + 5) L := hk5 5 (by omega)
  have hDx := z_Dapp_l hD
  have hDm := z_Dapp_r hD
  refine lv_aload_n hx hb dL_law_167 rfl (lv_at hl 1 rfl) ?_
  refine lv_aload_n hx hb dL_law_168 rfl (lv_at hl 0 rfl) ?_
  refine lv_iload_n hx hb dL_law_169 rfl (lv_at hl 3 rfl) ?_
  refine lv_iconst (v := 1) hx hb dL_law_170 (by decide) ?_
  refine lv_iadd hx hb dL_law_171 ?_
  refine va_sld hx hb hX hbl hbA hS hb1 dL_law_172 ?_
  refine lv_aload_n hx hb dL_law_173 rfl (lv_at hl 0 rfl) ?_
  refine lv_iload_n hx hb dL_law_174 rfl (lv_at hl 3 rfl) ?_
  refine lv_iconst (v := 2) hx hb dL_law_175 (by decide) ?_
  refine lv_iadd hx hb dL_law_176 ?_
  refine va_sld hx hb hX hbl hbA hS hb2 dL_law_177 ?_
  refine lv_aload_n hx hb dL_law_178 rfl (lv_at hl 0 rfl) ?_
  refine lv_iload_n hx hb dL_law_179 rfl (lv_at hl 3 rfl) ?_
  refine lv_iconst (v := 3) hx hb dL_law_180 (by decide) ?_
  refine lv_iadd hx hb dL_law_181 ?_
  refine va_sld hx hb hX hbl hbA hS hb3 dL_law_182 ?_
  refine lv_aload_n hx hb dL_law_183 rfl (lv_at hl 0 rfl) ?_
  refine lv_iload_n hx hb dL_law_184 rfl (lv_at hl 3 rfl) ?_
  refine lv_iconst (v := 4) hx hb dL_law_185 (by decide) ?_
  refine lv_iadd hx hb dL_law_186 ?_
  refine va_sld hx hb hX hbl hbA hS hb4 dL_law_187 ?_
  refine lv_aload_n hx hb dL_law_188 rfl (lv_at hl 0 rfl) ?_
  refine lv_iload_n hx hb dL_law_189 rfl (lv_at hl 3 rfl) ?_
  refine lv_iconst (v := 5) hx hb dL_law_190 (by decide) ?_
  refine lv_iadd hx hb dL_law_191 ?_
  refine va_sld hx hb hX hbl hbA hS hb5 dL_law_192 ?_
  have h := pr_sale hI (xs (nI i + 1).toNatClampNeg) (xs (nI i + 2).toNatClampNeg) (xs (nI i + 3).toNatClampNeg) (xs (nI i + 4).toNatClampNeg) (xs (nI i + 5).toNatClampNeg)
  refine va_calli (va_runV (C := RX5) (As := [.int (xs (nI i + 1).toNatClampNeg), .int (xs (nI i + 2).toNatClampNeg), .int (xs (nI i + 3).toNatClampNeg), .int (xs (nI i + 4).toNatClampNeg), .int (xs (nI i + 5).toNatClampNeg)]) (rest := []) ⟨hx, hb, hml, hown, hts⟩ (cX5_sale_ok l D cI cII q u (xs (nI i + 1).toNatClampNeg) (xs (nI i + 2).toNatClampNeg) (xs (nI i + 3).toNatClampNeg) (xs (nI i + 4).toNatClampNeg) (xs (nI i + 5).toNatClampNeg) _ h) (cwV 5 hts gL_law_X5_sale rfl rfl rfl (by decide +kernel) ⟨Nat.le_of_ble_eq_true rfl, Nat.le_of_ble_eq_true rfl⟩) (z_preVm hK hPx hDx rfl rfl) rfl rfl hl.1 rfl (lv_room (Nat.le_of_ble_eq_true rfl)) dL_law_193 ⟨Nat.le_of_ble_eq_true rfl, Nat.le_of_ble_eq_true rfl⟩) hS (fun x9 _ h9 => z_sub hDx x9 h9) (z_sub hDx) (fun r1 u1 t H1 locs ht hvm h hB hz1 hk1 hS => ?_)
  have hB : va_P D vwCl (wX cI cII q u1) t.heap := hB
  rw [ht] at hB
  have hPm : va_P D vwCl (wM cI qm w) H1 := z_kept hPm hk1 (fun k y hk => z_apart' hD hk)
  have hPx := hB
  have hD : va_D (fun x : Nat => s.heap.size ≤ x) (wX cI cII q u1 ++ wM cI qm w) := z_Dmap hD rfl
  have hDx := z_Dapp_l hD
  have hDm := z_Dapp_r hD
  refine lv_aload_n hx hb dL_law_196 rfl (lv_at hl 2 rfl) ?_
  refine lv_aload_n hx hb dL_law_197 rfl (lv_at hl 0 rfl) ?_
  refine lv_iload_n hx hb dL_law_198 rfl (lv_at hl 3 rfl) ?_
  refine lv_iconst (v := 1) hx hb dL_law_199 (by decide) ?_
  refine lv_iadd hx hb dL_law_200 ?_
  refine va_sld hx hb hX hbl hbA hS hb1 dL_law_201 ?_
  refine lv_aload_n hx hb dL_law_202 rfl (lv_at hl 0 rfl) ?_
  refine lv_iload_n hx hb dL_law_203 rfl (lv_at hl 3 rfl) ?_
  refine lv_iconst (v := 2) hx hb dL_law_204 (by decide) ?_
  refine lv_iadd hx hb dL_law_205 ?_
  refine va_sld hx hb hX hbl hbA hS hb2 dL_law_206 ?_
  refine lv_aload_n hx hb dL_law_207 rfl (lv_at hl 0 rfl) ?_
  refine lv_iload_n hx hb dL_law_208 rfl (lv_at hl 3 rfl) ?_
  refine lv_iconst (v := 3) hx hb dL_law_209 (by decide) ?_
  refine lv_iadd hx hb dL_law_210 ?_
  refine va_sld hx hb hX hbl hbA hS hb3 dL_law_211 ?_
  refine lv_aload_n hx hb dL_law_212 rfl (lv_at hl 0 rfl) ?_
  refine lv_iload_n hx hb dL_law_213 rfl (lv_at hl 3 rfl) ?_
  refine lv_iconst (v := 4) hx hb dL_law_214 (by decide) ?_
  refine lv_iadd hx hb dL_law_215 ?_
  refine va_sld hx hb hX hbl hbA hS hb4 dL_law_216 ?_
  refine lv_aload_n hx hb dL_law_217 rfl (lv_at hl 0 rfl) ?_
  refine lv_iload_n hx hb dL_law_218 rfl (lv_at hl 3 rfl) ?_
  refine lv_iconst (v := 5) hx hb dL_law_219 (by decide) ?_
  refine lv_iadd hx hb dL_law_220 ?_
  refine va_sld hx hb hX hbl hbA hS hb5 dL_law_221 ?_
  refine va_calli (va_runV (C := RX6) (As := [.int (xs (nI i + 1).toNatClampNeg), .int (xs (nI i + 2).toNatClampNeg), .int (xs (nI i + 3).toNatClampNeg), .int (xs (nI i + 4).toNatClampNeg), .int (xs (nI i + 5).toNatClampNeg)]) (rest := [.int r1]) ⟨hx, hb, hml, hown, hts⟩ (cX6_sale_ok l D cI cII qm w (xs (nI i + 1).toNatClampNeg) (xs (nI i + 2).toNatClampNeg) (xs (nI i + 3).toNatClampNeg) (xs (nI i + 4).toNatClampNeg) (xs (nI i + 5).toNatClampNeg) _ h) (cwV 5 hts gL_law_X6_sale rfl rfl rfl (by decide +kernel) ⟨Nat.le_of_ble_eq_true rfl, Nat.le_of_ble_eq_true rfl⟩) (z_preVm hK hPm hDm rfl rfl) rfl rfl hl.1 rfl (lv_room (Nat.le_of_ble_eq_true rfl)) dL_law_222 ⟨Nat.le_of_ble_eq_true rfl, Nat.le_of_ble_eq_true rfl⟩) hS (fun x9 _ h9 => z_sub hDm x9 h9) (z_sub hDm) (fun r2 w1 t H1 locs ht hvm h hB hz1 hk1 hS => ?_)
  have hB : va_P D vwCl (wM cI qm w1) t.heap := hB
  rw [ht] at hB
  have hPx : va_P D vwCl (wX cI cII q u1) H1 := z_kept hPx hk1 (fun k y hk => z_apart hD hk)
  have hPm := hB
  have hD : va_D (fun x : Nat => s.heap.size ≤ x) (wX cI cII q u1 ++ wM cI qm w1) := z_Dmap hD rfl
  have hDx := z_Dapp_l hD
  have hDm := z_Dapp_r hD
  refine lv_icmp_eq (tgt := 941) hx hb dL_law_225 (by decide) (fun _ => ?_) (fun cc => absurd h.1 cc)
  exact lw_tail C0 ih h.2 ⟨hPx, hPm, hD, hS⟩ hl

set_option maxHeartbeats 4000000 in
set_option maxRecDepth 100000 in
theorem lw_case2 {p : Program} {l : Launch} {e : Env} {s : State} {m : MethodId} {below : List Frame} {meth : Method} {c : Code} {b L : Nat} {xs : Nat → Int32} (C0 : lw_At p s m meth c b L xs) (hL : L ≤ 3072) {D : va_G} {cI cII : ClassId} (hK : va_K D vwCl (tz cI cII) s) {q : Nat → Nat → Nat} {qm : Nat → Nat} {i : Nat} (hi : i + 6 ≤ L) (ih : lw_L p l e s m b below meth c D cI cII q qm (i + 6)) {u : XS} {w : MS} (hI : Inv u w) {H : Heap} {locs : List Loc} (hH : lw_H D cI cII q qm s u w H locs) {ls : Array Slot} (hl : lv_has ls 4 [(0, .ref b), (1, .ref (q 0 0)), (2, .ref (qm 0)), (3, .int (nI i))]) : lw_W p l e s m b below meth c H locs (F0 m 230 ls []) := by
  obtain ⟨hx, hb, hr, hml, hown, hts0, hX, hbl, hlocks, hgv⟩ := id C0
  have hts : ∀ w ∈ wsL_law, w.before #[Value.ref b] s = true := fun w h => hts0 w (wsL_law_in w h)
  have hbA : ¬ (fun x : Nat => s.heap.size ≤ x) b := Nat.not_le.mpr hbl
  obtain ⟨hPx, hPm, hD, hS⟩ := hH
  have hk5 : ∀ k, k < 6 → vp_in (nI i + nI k) L := fun k hk => by rw [nI_add]; exact vp_in_nI (by omega) (by omega)
  have hb1 : vp_in (nI i + 1) L := hk5 1 (by omega)
  have hb2 : vp_in (nI i + 2) L := hk5 2 (by omega)
  have hb3 : vp_in (nI i + 3) L := hk5 3 (by omega)
  have hb4 : vp_in (nI i + 4) L := hk5 4 (by omega)
  have hb5 : vp_in (nI i + 5) L := hk5 5 (by omega)
  have hDx := z_Dapp_l hD
  have hDm := z_Dapp_r hD
  refine lv_aload_n hx hb dL_law_230 rfl (lv_at hl 1 rfl) ?_
  refine lv_aload_n hx hb dL_law_231 rfl (lv_at hl 0 rfl) ?_
  refine lv_iload_n hx hb dL_law_232 rfl (lv_at hl 3 rfl) ?_
  refine lv_iconst (v := 1) hx hb dL_law_233 (by decide) ?_
  refine lv_iadd hx hb dL_law_234 ?_
  refine va_sld hx hb hX hbl hbA hS hb1 dL_law_235 ?_
  have h := pr_strike hI (xs (nI i + 1).toNatClampNeg)
  refine va_calli (va_runV (C := RX5) (As := [.int (xs (nI i + 1).toNatClampNeg)]) (rest := []) ⟨hx, hb, hml, hown, hts⟩ (cX5_strike_ok l D cI cII q u (xs (nI i + 1).toNatClampNeg) _ h) (cwV 1 hts gL_law_X5_strike rfl rfl rfl (by decide +kernel) ⟨Nat.le_of_ble_eq_true rfl, Nat.le_of_ble_eq_true rfl⟩) (z_preVm hK hPx hDx rfl rfl) rfl rfl hl.1 rfl (lv_room (Nat.le_of_ble_eq_true rfl)) dL_law_236 ⟨Nat.le_of_ble_eq_true rfl, Nat.le_of_ble_eq_true rfl⟩) hS (fun x9 _ h9 => z_sub hDx x9 h9) (z_sub hDx) (fun r1 u1 t H1 locs ht hvm h hB hz1 hk1 hS => ?_)
  have hB : va_P D vwCl (wX cI cII q u1) t.heap := hB
  rw [ht] at hB
  have hPm : va_P D vwCl (wM cI qm w) H1 := z_kept hPm hk1 (fun k y hk => z_apart' hD hk)
  have hPx := hB
  have hD : va_D (fun x : Nat => s.heap.size ≤ x) (wX cI cII q u1 ++ wM cI qm w) := z_Dmap hD rfl
  have hDx := z_Dapp_l hD
  have hDm := z_Dapp_r hD
  refine lv_aload_n hx hb dL_law_239 rfl (lv_at hl 2 rfl) ?_
  refine lv_aload_n hx hb dL_law_240 rfl (lv_at hl 0 rfl) ?_
  refine lv_iload_n hx hb dL_law_241 rfl (lv_at hl 3 rfl) ?_
  refine lv_iconst (v := 1) hx hb dL_law_242 (by decide) ?_
  refine lv_iadd hx hb dL_law_243 ?_
  refine va_sld hx hb hX hbl hbA hS hb1 dL_law_244 ?_
  refine va_calli (va_runV (C := RX6) (As := [.int (xs (nI i + 1).toNatClampNeg)]) (rest := [.int r1]) ⟨hx, hb, hml, hown, hts⟩ (cX6_strike_ok l D cI cII qm w (xs (nI i + 1).toNatClampNeg) _ h) (cwV 1 hts gL_law_X6_strike rfl rfl rfl (by decide +kernel) ⟨Nat.le_of_ble_eq_true rfl, Nat.le_of_ble_eq_true rfl⟩) (z_preVm hK hPm hDm rfl rfl) rfl rfl hl.1 rfl (lv_room (Nat.le_of_ble_eq_true rfl)) dL_law_245 ⟨Nat.le_of_ble_eq_true rfl, Nat.le_of_ble_eq_true rfl⟩) hS (fun x9 _ h9 => z_sub hDm x9 h9) (z_sub hDm) (fun r2 w1 t H1 locs ht hvm h hB hz1 hk1 hS => ?_)
  have hB : va_P D vwCl (wM cI qm w1) t.heap := hB
  rw [ht] at hB
  have hPx : va_P D vwCl (wX cI cII q u1) H1 := z_kept hPx hk1 (fun k y hk => z_apart hD hk)
  have hPm := hB
  have hD : va_D (fun x : Nat => s.heap.size ≤ x) (wX cI cII q u1 ++ wM cI qm w1) := z_Dmap hD rfl
  have hDx := z_Dapp_l hD
  have hDm := z_Dapp_r hD
  refine lv_icmp_eq (tgt := 941) hx hb dL_law_248 (by decide) (fun _ => ?_) (fun cc => absurd h.1 cc)
  exact lw_tail C0 ih h.2 ⟨hPx, hPm, hD, hS⟩ hl

set_option maxHeartbeats 4000000 in
set_option maxRecDepth 100000 in
theorem lw_case3 {p : Program} {l : Launch} {e : Env} {s : State} {m : MethodId} {below : List Frame} {meth : Method} {c : Code} {b L : Nat} {xs : Nat → Int32} (C0 : lw_At p s m meth c b L xs) (hL : L ≤ 3072) {D : va_G} {cI cII : ClassId} (hK : va_K D vwCl (tz cI cII) s) {q : Nat → Nat → Nat} {qm : Nat → Nat} {i : Nat} (hi : i + 6 ≤ L) (ih : lw_L p l e s m b below meth c D cI cII q qm (i + 6)) {u : XS} {w : MS} (hI : Inv u w) {H : Heap} {locs : List Loc} (hH : lw_H D cI cII q qm s u w H locs) {ls : Array Slot} (hl : lv_has ls 4 [(0, .ref b), (1, .ref (q 0 0)), (2, .ref (qm 0)), (3, .int (nI i))]) : lw_W p l e s m b below meth c H locs (F0 m 253 ls []) := by
  obtain ⟨hx, hb, hr, hml, hown, hts0, hX, hbl, hlocks, hgv⟩ := id C0
  have hts : ∀ w ∈ wsL_law, w.before #[Value.ref b] s = true := fun w h => hts0 w (wsL_law_in w h)
  have hbA : ¬ (fun x : Nat => s.heap.size ≤ x) b := Nat.not_le.mpr hbl
  obtain ⟨hPx, hPm, hD, hS⟩ := hH
  have hk5 : ∀ k, k < 6 → vp_in (nI i + nI k) L := fun k hk => by rw [nI_add]; exact vp_in_nI (by omega) (by omega)
  have hb1 : vp_in (nI i + 1) L := hk5 1 (by omega)
  have hb2 : vp_in (nI i + 2) L := hk5 2 (by omega)
  have hb3 : vp_in (nI i + 3) L := hk5 3 (by omega)
  have hb4 : vp_in (nI i + 4) L := hk5 4 (by omega)
  have hb5 : vp_in (nI i + 5) L := hk5 5 (by omega)
  have hDx := z_Dapp_l hD
  have hDm := z_Dapp_r hD
  refine lv_aload_n hx hb dL_law_253 rfl (lv_at hl 1 rfl) ?_
  refine lv_aload_n hx hb dL_law_254 rfl (lv_at hl 0 rfl) ?_
  refine lv_iload_n hx hb dL_law_255 rfl (lv_at hl 3 rfl) ?_
  refine lv_iconst (v := 1) hx hb dL_law_256 (by decide) ?_
  refine lv_iadd hx hb dL_law_257 ?_
  refine va_sld hx hb hX hbl hbA hS hb1 dL_law_258 ?_
  refine lv_aload_n hx hb dL_law_259 rfl (lv_at hl 0 rfl) ?_
  refine lv_iload_n hx hb dL_law_260 rfl (lv_at hl 3 rfl) ?_
  refine lv_iconst (v := 2) hx hb dL_law_261 (by decide) ?_
  refine lv_iadd hx hb dL_law_262 ?_
  refine va_sld hx hb hX hbl hbA hS hb2 dL_law_263 ?_
  have h := pr_sold hI (xs (nI i + 1).toNatClampNeg) (xs (nI i + 2).toNatClampNeg)
  refine vp_callSi (W.runV (C := RX5) (As := [.int (xs (nI i + 1).toNatClampNeg), .int (xs (nI i + 2).toNatClampNeg)]) (rest := []) ⟨hx, hb, hml, hown, hts⟩ (cX5_sold_ok l D cI cII q u (xs (nI i + 1).toNatClampNeg) (xs (nI i + 2).toNatClampNeg) _ h) (cwV 2 hts gL_law_X5_sold rfl rfl rfl (by decide +kernel) ⟨Nat.le_of_ble_eq_true rfl, Nat.le_of_ble_eq_true rfl⟩) (z_preV hK hPx rfl rfl) rfl rfl hl.1 rfl (lv_room (Nat.le_of_ble_eq_true rfl)) dL_law_264 ⟨Nat.le_of_ble_eq_true rfl, Nat.le_of_ble_eq_true rfl⟩) (fun r1 h => ?_)
  refine lv_aload_n hx hb dL_law_267 rfl (lv_at hl 2 rfl) ?_
  refine lv_aload_n hx hb dL_law_268 rfl (lv_at hl 0 rfl) ?_
  refine lv_iload_n hx hb dL_law_269 rfl (lv_at hl 3 rfl) ?_
  refine lv_iconst (v := 1) hx hb dL_law_270 (by decide) ?_
  refine lv_iadd hx hb dL_law_271 ?_
  refine va_sld hx hb hX hbl hbA hS hb1 dL_law_272 ?_
  refine lv_aload_n hx hb dL_law_273 rfl (lv_at hl 0 rfl) ?_
  refine lv_iload_n hx hb dL_law_274 rfl (lv_at hl 3 rfl) ?_
  refine lv_iconst (v := 2) hx hb dL_law_275 (by decide) ?_
  refine lv_iadd hx hb dL_law_276 ?_
  refine va_sld hx hb hX hbl hbA hS hb2 dL_law_277 ?_
  refine vp_callSi (W.runV (C := RX6) (As := [.int (xs (nI i + 1).toNatClampNeg), .int (xs (nI i + 2).toNatClampNeg)]) (rest := [.int r1]) ⟨hx, hb, hml, hown, hts⟩ (cX6_sold_ok l D cI cII qm w (xs (nI i + 1).toNatClampNeg) (xs (nI i + 2).toNatClampNeg) _ h) (cwV 2 hts gL_law_X6_sold rfl rfl rfl (by decide +kernel) ⟨Nat.le_of_ble_eq_true rfl, Nat.le_of_ble_eq_true rfl⟩) (z_preV hK hPm rfl rfl) rfl rfl hl.1 rfl (lv_room (Nat.le_of_ble_eq_true rfl)) dL_law_278 ⟨Nat.le_of_ble_eq_true rfl, Nat.le_of_ble_eq_true rfl⟩) (fun r2 h => ?_)
  refine lv_icmp_eq (tgt := 941) hx hb dL_law_281 (by decide) (fun _ => ?_) (fun cc => absurd h cc)
  exact lw_tail C0 ih hI ⟨hPx, hPm, hD, hS⟩ hl

set_option maxHeartbeats 4000000 in
set_option maxRecDepth 100000 in
theorem lw_case4 {p : Program} {l : Launch} {e : Env} {s : State} {m : MethodId} {below : List Frame} {meth : Method} {c : Code} {b L : Nat} {xs : Nat → Int32} (C0 : lw_At p s m meth c b L xs) (hL : L ≤ 3072) {D : va_G} {cI cII : ClassId} (hK : va_K D vwCl (tz cI cII) s) {q : Nat → Nat → Nat} {qm : Nat → Nat} {i : Nat} (hi : i + 6 ≤ L) (ih : lw_L p l e s m b below meth c D cI cII q qm (i + 6)) {u : XS} {w : MS} (hI : Inv u w) {H : Heap} {locs : List Loc} (hH : lw_H D cI cII q qm s u w H locs) {ls : Array Slot} (hl : lv_has ls 4 [(0, .ref b), (1, .ref (q 0 0)), (2, .ref (qm 0)), (3, .int (nI i))]) : lw_W p l e s m b below meth c H locs (F0 m 286 ls []) := by
  obtain ⟨hx, hb, hr, hml, hown, hts0, hX, hbl, hlocks, hgv⟩ := id C0
  have hts : ∀ w ∈ wsL_law, w.before #[Value.ref b] s = true := fun w h => hts0 w (wsL_law_in w h)
  have hbA : ¬ (fun x : Nat => s.heap.size ≤ x) b := Nat.not_le.mpr hbl
  obtain ⟨hPx, hPm, hD, hS⟩ := hH
  have hk5 : ∀ k, k < 6 → vp_in (nI i + nI k) L := fun k hk => by rw [nI_add]; exact vp_in_nI (by omega) (by omega)
  have hb1 : vp_in (nI i + 1) L := hk5 1 (by omega)
  have hb2 : vp_in (nI i + 2) L := hk5 2 (by omega)
  have hb3 : vp_in (nI i + 3) L := hk5 3 (by omega)
  have hb4 : vp_in (nI i + 4) L := hk5 4 (by omega)
  have hb5 : vp_in (nI i + 5) L := hk5 5 (by omega)
  have hDx := z_Dapp_l hD
  have hDm := z_Dapp_r hD
  refine lv_aload_n hx hb dL_law_286 rfl (lv_at hl 1 rfl) ?_
  refine lv_aload_n hx hb dL_law_287 rfl (lv_at hl 0 rfl) ?_
  refine lv_iload_n hx hb dL_law_288 rfl (lv_at hl 3 rfl) ?_
  refine lv_iconst (v := 1) hx hb dL_law_289 (by decide) ?_
  refine lv_iadd hx hb dL_law_290 ?_
  refine va_sld hx hb hX hbl hbA hS hb1 dL_law_291 ?_
  refine lv_aload_n hx hb dL_law_292 rfl (lv_at hl 0 rfl) ?_
  refine lv_iload_n hx hb dL_law_293 rfl (lv_at hl 3 rfl) ?_
  refine lv_iconst (v := 2) hx hb dL_law_294 (by decide) ?_
  refine lv_iadd hx hb dL_law_295 ?_
  refine va_sld hx hb hX hbl hbA hS hb2 dL_law_296 ?_
  refine lv_aload_n hx hb dL_law_297 rfl (lv_at hl 0 rfl) ?_
  refine lv_iload_n hx hb dL_law_298 rfl (lv_at hl 3 rfl) ?_
  refine lv_iconst (v := 3) hx hb dL_law_299 (by decide) ?_
  refine lv_iadd hx hb dL_law_300 ?_
  refine va_sld hx hb hX hbl hbA hS hb3 dL_law_301 ?_
  have h := pr_weekly hI (xs (nI i + 1).toNatClampNeg) (xs (nI i + 2).toNatClampNeg) (xs (nI i + 3).toNatClampNeg)
  refine vp_callSi (W.runV (C := RX5) (As := [.int (xs (nI i + 1).toNatClampNeg), .int (xs (nI i + 2).toNatClampNeg), .int (xs (nI i + 3).toNatClampNeg)]) (rest := []) ⟨hx, hb, hml, hown, hts⟩ (cX5_weekly_ok l D cI cII q u (xs (nI i + 1).toNatClampNeg) (xs (nI i + 2).toNatClampNeg) (xs (nI i + 3).toNatClampNeg) _ h) (cwV 3 hts gL_law_X5_weekly rfl rfl rfl (by decide +kernel) ⟨Nat.le_of_ble_eq_true rfl, Nat.le_of_ble_eq_true rfl⟩) (z_preV hK hPx rfl rfl) rfl rfl hl.1 rfl (lv_room (Nat.le_of_ble_eq_true rfl)) dL_law_302 ⟨Nat.le_of_ble_eq_true rfl, Nat.le_of_ble_eq_true rfl⟩) (fun r1 h => ?_)
  refine lv_aload_n hx hb dL_law_305 rfl (lv_at hl 2 rfl) ?_
  refine lv_aload_n hx hb dL_law_306 rfl (lv_at hl 0 rfl) ?_
  refine lv_iload_n hx hb dL_law_307 rfl (lv_at hl 3 rfl) ?_
  refine lv_iconst (v := 1) hx hb dL_law_308 (by decide) ?_
  refine lv_iadd hx hb dL_law_309 ?_
  refine va_sld hx hb hX hbl hbA hS hb1 dL_law_310 ?_
  refine lv_aload_n hx hb dL_law_311 rfl (lv_at hl 0 rfl) ?_
  refine lv_iload_n hx hb dL_law_312 rfl (lv_at hl 3 rfl) ?_
  refine lv_iconst (v := 2) hx hb dL_law_313 (by decide) ?_
  refine lv_iadd hx hb dL_law_314 ?_
  refine va_sld hx hb hX hbl hbA hS hb2 dL_law_315 ?_
  refine lv_aload_n hx hb dL_law_316 rfl (lv_at hl 0 rfl) ?_
  refine lv_iload_n hx hb dL_law_317 rfl (lv_at hl 3 rfl) ?_
  refine lv_iconst (v := 3) hx hb dL_law_318 (by decide) ?_
  refine lv_iadd hx hb dL_law_319 ?_
  refine va_sld hx hb hX hbl hbA hS hb3 dL_law_320 ?_
  refine vp_callSi (W.runV (C := RX6) (As := [.int (xs (nI i + 1).toNatClampNeg), .int (xs (nI i + 2).toNatClampNeg), .int (xs (nI i + 3).toNatClampNeg)]) (rest := [.int r1]) ⟨hx, hb, hml, hown, hts⟩ (cX6_weekly_ok l D cI cII qm w (xs (nI i + 1).toNatClampNeg) (xs (nI i + 2).toNatClampNeg) (xs (nI i + 3).toNatClampNeg) _ h) (cwV 3 hts gL_law_X6_weekly rfl rfl rfl (by decide +kernel) ⟨Nat.le_of_ble_eq_true rfl, Nat.le_of_ble_eq_true rfl⟩) (z_preV hK hPm rfl rfl) rfl rfl hl.1 rfl (lv_room (Nat.le_of_ble_eq_true rfl)) dL_law_321 ⟨Nat.le_of_ble_eq_true rfl, Nat.le_of_ble_eq_true rfl⟩) (fun r2 h => ?_)
  refine lv_icmp_eq (tgt := 941) hx hb dL_law_324 (by decide) (fun _ => ?_) (fun cc => absurd h cc)
  exact lw_tail C0 ih hI ⟨hPx, hPm, hD, hS⟩ hl

set_option maxHeartbeats 4000000 in
set_option maxRecDepth 100000 in
theorem lw_case5 {p : Program} {l : Launch} {e : Env} {s : State} {m : MethodId} {below : List Frame} {meth : Method} {c : Code} {b L : Nat} {xs : Nat → Int32} (C0 : lw_At p s m meth c b L xs) (hL : L ≤ 3072) {D : va_G} {cI cII : ClassId} (hK : va_K D vwCl (tz cI cII) s) {q : Nat → Nat → Nat} {qm : Nat → Nat} {i : Nat} (hi : i + 6 ≤ L) (ih : lw_L p l e s m b below meth c D cI cII q qm (i + 6)) {u : XS} {w : MS} (hI : Inv u w) {H : Heap} {locs : List Loc} (hH : lw_H D cI cII q qm s u w H locs) {ls : Array Slot} (hl : lv_has ls 4 [(0, .ref b), (1, .ref (q 0 0)), (2, .ref (qm 0)), (3, .int (nI i))]) : lw_W p l e s m b below meth c H locs (F0 m 329 ls []) := by
  obtain ⟨hx, hb, hr, hml, hown, hts0, hX, hbl, hlocks, hgv⟩ := id C0
  have hts : ∀ w ∈ wsL_law, w.before #[Value.ref b] s = true := fun w h => hts0 w (wsL_law_in w h)
  have hbA : ¬ (fun x : Nat => s.heap.size ≤ x) b := Nat.not_le.mpr hbl
  obtain ⟨hPx, hPm, hD, hS⟩ := hH
  have hk5 : ∀ k, k < 6 → vp_in (nI i + nI k) L := fun k hk => by rw [nI_add]; exact vp_in_nI (by omega) (by omega)
  have hb1 : vp_in (nI i + 1) L := hk5 1 (by omega)
  have hb2 : vp_in (nI i + 2) L := hk5 2 (by omega)
  have hb3 : vp_in (nI i + 3) L := hk5 3 (by omega)
  have hb4 : vp_in (nI i + 4) L := hk5 4 (by omega)
  have hb5 : vp_in (nI i + 5) L := hk5 5 (by omega)
  have hDx := z_Dapp_l hD
  have hDm := z_Dapp_r hD
  refine lv_aload_n hx hb dL_law_329 rfl (lv_at hl 1 rfl) ?_
  refine lv_aload_n hx hb dL_law_330 rfl (lv_at hl 0 rfl) ?_
  refine lv_iload_n hx hb dL_law_331 rfl (lv_at hl 3 rfl) ?_
  refine lv_iconst (v := 1) hx hb dL_law_332 (by decide) ?_
  refine lv_iadd hx hb dL_law_333 ?_
  refine va_sld hx hb hX hbl hbA hS hb1 dL_law_334 ?_
  refine lv_aload_n hx hb dL_law_335 rfl (lv_at hl 0 rfl) ?_
  refine lv_iload_n hx hb dL_law_336 rfl (lv_at hl 3 rfl) ?_
  refine lv_iconst (v := 2) hx hb dL_law_337 (by decide) ?_
  refine lv_iadd hx hb dL_law_338 ?_
  refine va_sld hx hb hX hbl hbA hS hb2 dL_law_339 ?_
  have h := pr_average hI (xs (nI i + 1).toNatClampNeg) (xs (nI i + 2).toNatClampNeg)
  refine vp_callSi (W.runV (C := RX5) (As := [.int (xs (nI i + 1).toNatClampNeg), .int (xs (nI i + 2).toNatClampNeg)]) (rest := []) ⟨hx, hb, hml, hown, hts⟩ (cX5_average_ok l D cI cII q u (xs (nI i + 1).toNatClampNeg) (xs (nI i + 2).toNatClampNeg) _ h) (cwV 2 hts gL_law_X5_average rfl rfl rfl (by decide +kernel) ⟨Nat.le_of_ble_eq_true rfl, Nat.le_of_ble_eq_true rfl⟩) (z_preV hK hPx rfl rfl) rfl rfl hl.1 rfl (lv_room (Nat.le_of_ble_eq_true rfl)) dL_law_340 ⟨Nat.le_of_ble_eq_true rfl, Nat.le_of_ble_eq_true rfl⟩) (fun r1 h => ?_)
  refine lv_aload_n hx hb dL_law_343 rfl (lv_at hl 2 rfl) ?_
  refine lv_aload_n hx hb dL_law_344 rfl (lv_at hl 0 rfl) ?_
  refine lv_iload_n hx hb dL_law_345 rfl (lv_at hl 3 rfl) ?_
  refine lv_iconst (v := 1) hx hb dL_law_346 (by decide) ?_
  refine lv_iadd hx hb dL_law_347 ?_
  refine va_sld hx hb hX hbl hbA hS hb1 dL_law_348 ?_
  refine lv_aload_n hx hb dL_law_349 rfl (lv_at hl 0 rfl) ?_
  refine lv_iload_n hx hb dL_law_350 rfl (lv_at hl 3 rfl) ?_
  refine lv_iconst (v := 2) hx hb dL_law_351 (by decide) ?_
  refine lv_iadd hx hb dL_law_352 ?_
  refine va_sld hx hb hX hbl hbA hS hb2 dL_law_353 ?_
  refine vp_callSi (W.runV (C := RX6) (As := [.int (xs (nI i + 1).toNatClampNeg), .int (xs (nI i + 2).toNatClampNeg)]) (rest := [.int r1]) ⟨hx, hb, hml, hown, hts⟩ (cX6_average_ok l D cI cII qm w (xs (nI i + 1).toNatClampNeg) (xs (nI i + 2).toNatClampNeg) _ h) (cwV 2 hts gL_law_X6_average rfl rfl rfl (by decide +kernel) ⟨Nat.le_of_ble_eq_true rfl, Nat.le_of_ble_eq_true rfl⟩) (z_preV hK hPm rfl rfl) rfl rfl hl.1 rfl (lv_room (Nat.le_of_ble_eq_true rfl)) dL_law_354 ⟨Nat.le_of_ble_eq_true rfl, Nat.le_of_ble_eq_true rfl⟩) (fun r2 h => ?_)
  refine lv_icmp_eq (tgt := 941) hx hb dL_law_357 (by decide) (fun _ => ?_) (fun cc => absurd h cc)
  exact lw_tail C0 ih hI ⟨hPx, hPm, hD, hS⟩ hl

set_option maxHeartbeats 4000000 in
set_option maxRecDepth 100000 in
theorem lw_case6 {p : Program} {l : Launch} {e : Env} {s : State} {m : MethodId} {below : List Frame} {meth : Method} {c : Code} {b L : Nat} {xs : Nat → Int32} (C0 : lw_At p s m meth c b L xs) (hL : L ≤ 3072) {D : va_G} {cI cII : ClassId} (hK : va_K D vwCl (tz cI cII) s) {q : Nat → Nat → Nat} {qm : Nat → Nat} {i : Nat} (hi : i + 6 ≤ L) (ih : lw_L p l e s m b below meth c D cI cII q qm (i + 6)) {u : XS} {w : MS} (hI : Inv u w) {H : Heap} {locs : List Loc} (hH : lw_H D cI cII q qm s u w H locs) {ls : Array Slot} (hl : lv_has ls 4 [(0, .ref b), (1, .ref (q 0 0)), (2, .ref (qm 0)), (3, .int (nI i))]) : lw_W p l e s m b below meth c H locs (F0 m 362 ls []) := by
  obtain ⟨hx, hb, hr, hml, hown, hts0, hX, hbl, hlocks, hgv⟩ := id C0
  have hts : ∀ w ∈ wsL_law, w.before #[Value.ref b] s = true := fun w h => hts0 w (wsL_law_in w h)
  have hbA : ¬ (fun x : Nat => s.heap.size ≤ x) b := Nat.not_le.mpr hbl
  obtain ⟨hPx, hPm, hD, hS⟩ := hH
  have hk5 : ∀ k, k < 6 → vp_in (nI i + nI k) L := fun k hk => by rw [nI_add]; exact vp_in_nI (by omega) (by omega)
  have hb1 : vp_in (nI i + 1) L := hk5 1 (by omega)
  have hb2 : vp_in (nI i + 2) L := hk5 2 (by omega)
  have hb3 : vp_in (nI i + 3) L := hk5 3 (by omega)
  have hb4 : vp_in (nI i + 4) L := hk5 4 (by omega)
  have hb5 : vp_in (nI i + 5) L := hk5 5 (by omega)
  have hDx := z_Dapp_l hD
  have hDm := z_Dapp_r hD
  refine lv_aload_n hx hb dL_law_362 rfl (lv_at hl 1 rfl) ?_
  refine lv_aload_n hx hb dL_law_363 rfl (lv_at hl 0 rfl) ?_
  refine lv_iload_n hx hb dL_law_364 rfl (lv_at hl 3 rfl) ?_
  refine lv_iconst (v := 1) hx hb dL_law_365 (by decide) ?_
  refine lv_iadd hx hb dL_law_366 ?_
  refine va_sld hx hb hX hbl hbA hS hb1 dL_law_367 ?_
  refine lv_aload_n hx hb dL_law_368 rfl (lv_at hl 0 rfl) ?_
  refine lv_iload_n hx hb dL_law_369 rfl (lv_at hl 3 rfl) ?_
  refine lv_iconst (v := 2) hx hb dL_law_370 (by decide) ?_
  refine lv_iadd hx hb dL_law_371 ?_
  refine va_sld hx hb hX hbl hbA hS hb2 dL_law_372 ?_
  have h := pr_towns hI (xs (nI i + 1).toNatClampNeg) (xs (nI i + 2).toNatClampNeg)
  refine vp_callSi (W.runV (C := RX5) (As := [.int (xs (nI i + 1).toNatClampNeg), .int (xs (nI i + 2).toNatClampNeg)]) (rest := []) ⟨hx, hb, hml, hown, hts⟩ (cX5_towns_ok l D cI cII q u (xs (nI i + 1).toNatClampNeg) (xs (nI i + 2).toNatClampNeg) _ h) (cwV 2 hts gL_law_X5_towns rfl rfl rfl (by decide +kernel) ⟨Nat.le_of_ble_eq_true rfl, Nat.le_of_ble_eq_true rfl⟩) (z_preV hK hPx rfl rfl) rfl rfl hl.1 rfl (lv_room (Nat.le_of_ble_eq_true rfl)) dL_law_373 ⟨Nat.le_of_ble_eq_true rfl, Nat.le_of_ble_eq_true rfl⟩) (fun r1 h => ?_)
  refine lv_aload_n hx hb dL_law_376 rfl (lv_at hl 2 rfl) ?_
  refine lv_aload_n hx hb dL_law_377 rfl (lv_at hl 0 rfl) ?_
  refine lv_iload_n hx hb dL_law_378 rfl (lv_at hl 3 rfl) ?_
  refine lv_iconst (v := 1) hx hb dL_law_379 (by decide) ?_
  refine lv_iadd hx hb dL_law_380 ?_
  refine va_sld hx hb hX hbl hbA hS hb1 dL_law_381 ?_
  refine lv_aload_n hx hb dL_law_382 rfl (lv_at hl 0 rfl) ?_
  refine lv_iload_n hx hb dL_law_383 rfl (lv_at hl 3 rfl) ?_
  refine lv_iconst (v := 2) hx hb dL_law_384 (by decide) ?_
  refine lv_iadd hx hb dL_law_385 ?_
  refine va_sld hx hb hX hbl hbA hS hb2 dL_law_386 ?_
  refine vp_callSi (W.runV (C := RX6) (As := [.int (xs (nI i + 1).toNatClampNeg), .int (xs (nI i + 2).toNatClampNeg)]) (rest := [.int r1]) ⟨hx, hb, hml, hown, hts⟩ (cX6_towns_ok l D cI cII qm w (xs (nI i + 1).toNatClampNeg) (xs (nI i + 2).toNatClampNeg) _ h) (cwV 2 hts gL_law_X6_towns rfl rfl rfl (by decide +kernel) ⟨Nat.le_of_ble_eq_true rfl, Nat.le_of_ble_eq_true rfl⟩) (z_preV hK hPm rfl rfl) rfl rfl hl.1 rfl (lv_room (Nat.le_of_ble_eq_true rfl)) dL_law_387 ⟨Nat.le_of_ble_eq_true rfl, Nat.le_of_ble_eq_true rfl⟩) (fun r2 h => ?_)
  refine lv_icmp_eq (tgt := 941) hx hb dL_law_390 (by decide) (fun _ => ?_) (fun cc => absurd h cc)
  exact lw_tail C0 ih hI ⟨hPx, hPm, hD, hS⟩ hl

set_option maxHeartbeats 4000000 in
set_option maxRecDepth 100000 in
theorem lw_case7 {p : Program} {l : Launch} {e : Env} {s : State} {m : MethodId} {below : List Frame} {meth : Method} {c : Code} {b L : Nat} {xs : Nat → Int32} (C0 : lw_At p s m meth c b L xs) (hL : L ≤ 3072) {D : va_G} {cI cII : ClassId} (hK : va_K D vwCl (tz cI cII) s) {q : Nat → Nat → Nat} {qm : Nat → Nat} {i : Nat} (hi : i + 6 ≤ L) (ih : lw_L p l e s m b below meth c D cI cII q qm (i + 6)) {u : XS} {w : MS} (hI : Inv u w) {H : Heap} {locs : List Loc} (hH : lw_H D cI cII q qm s u w H locs) {ls : Array Slot} (hl : lv_has ls 4 [(0, .ref b), (1, .ref (q 0 0)), (2, .ref (qm 0)), (3, .int (nI i))]) : lw_W p l e s m b below meth c H locs (F0 m 395 ls []) := by
  obtain ⟨hx, hb, hr, hml, hown, hts0, hX, hbl, hlocks, hgv⟩ := id C0
  have hts : ∀ w ∈ wsL_law, w.before #[Value.ref b] s = true := fun w h => hts0 w (wsL_law_in w h)
  have hbA : ¬ (fun x : Nat => s.heap.size ≤ x) b := Nat.not_le.mpr hbl
  obtain ⟨hPx, hPm, hD, hS⟩ := hH
  have hk5 : ∀ k, k < 6 → vp_in (nI i + nI k) L := fun k hk => by rw [nI_add]; exact vp_in_nI (by omega) (by omega)
  have hb1 : vp_in (nI i + 1) L := hk5 1 (by omega)
  have hb2 : vp_in (nI i + 2) L := hk5 2 (by omega)
  have hb3 : vp_in (nI i + 3) L := hk5 3 (by omega)
  have hb4 : vp_in (nI i + 4) L := hk5 4 (by omega)
  have hb5 : vp_in (nI i + 5) L := hk5 5 (by omega)
  have hDx := z_Dapp_l hD
  have hDm := z_Dapp_r hD
  refine lv_aload_n hx hb dL_law_395 rfl (lv_at hl 1 rfl) ?_
  refine lv_aload_n hx hb dL_law_396 rfl (lv_at hl 0 rfl) ?_
  refine lv_iload_n hx hb dL_law_397 rfl (lv_at hl 3 rfl) ?_
  refine lv_iconst (v := 1) hx hb dL_law_398 (by decide) ?_
  refine lv_iadd hx hb dL_law_399 ?_
  refine va_sld hx hb hX hbl hbA hS hb1 dL_law_400 ?_
  refine lv_aload_n hx hb dL_law_401 rfl (lv_at hl 0 rfl) ?_
  refine lv_iload_n hx hb dL_law_402 rfl (lv_at hl 3 rfl) ?_
  refine lv_iconst (v := 2) hx hb dL_law_403 (by decide) ?_
  refine lv_iadd hx hb dL_law_404 ?_
  refine va_sld hx hb hX hbl hbA hS hb2 dL_law_405 ?_
  have h := pr_scale hI (xs (nI i + 1).toNatClampNeg) (xs (nI i + 2).toNatClampNeg)
  refine va_calli (va_runV (C := RX5) (As := [.int (xs (nI i + 1).toNatClampNeg), .int (xs (nI i + 2).toNatClampNeg)]) (rest := []) ⟨hx, hb, hml, hown, hts⟩ (cX5_scale_ok l D cI cII q u (xs (nI i + 1).toNatClampNeg) (xs (nI i + 2).toNatClampNeg) _ h) (cwV 2 hts gL_law_X5_scale rfl rfl rfl (by decide +kernel) ⟨Nat.le_of_ble_eq_true rfl, Nat.le_of_ble_eq_true rfl⟩) (z_preVm hK hPx hDx rfl rfl) rfl rfl hl.1 rfl (lv_room (Nat.le_of_ble_eq_true rfl)) dL_law_406 ⟨Nat.le_of_ble_eq_true rfl, Nat.le_of_ble_eq_true rfl⟩) hS (fun x9 _ h9 => z_sub hDx x9 h9) (z_sub hDx) (fun r1 u1 t H1 locs ht hvm h hB hz1 hk1 hS => ?_)
  have hB : va_P D vwCl (wX cI cII q u1) t.heap := hB
  rw [ht] at hB
  have hPm : va_P D vwCl (wM cI qm w) H1 := z_kept hPm hk1 (fun k y hk => z_apart' hD hk)
  have hPx := hB
  have hD : va_D (fun x : Nat => s.heap.size ≤ x) (wX cI cII q u1 ++ wM cI qm w) := z_Dmap hD rfl
  have hDx := z_Dapp_l hD
  have hDm := z_Dapp_r hD
  refine lv_aload_n hx hb dL_law_409 rfl (lv_at hl 2 rfl) ?_
  refine lv_aload_n hx hb dL_law_410 rfl (lv_at hl 0 rfl) ?_
  refine lv_iload_n hx hb dL_law_411 rfl (lv_at hl 3 rfl) ?_
  refine lv_iconst (v := 1) hx hb dL_law_412 (by decide) ?_
  refine lv_iadd hx hb dL_law_413 ?_
  refine va_sld hx hb hX hbl hbA hS hb1 dL_law_414 ?_
  refine lv_aload_n hx hb dL_law_415 rfl (lv_at hl 0 rfl) ?_
  refine lv_iload_n hx hb dL_law_416 rfl (lv_at hl 3 rfl) ?_
  refine lv_iconst (v := 2) hx hb dL_law_417 (by decide) ?_
  refine lv_iadd hx hb dL_law_418 ?_
  refine va_sld hx hb hX hbl hbA hS hb2 dL_law_419 ?_
  refine va_calli (va_runV (C := RX6) (As := [.int (xs (nI i + 1).toNatClampNeg), .int (xs (nI i + 2).toNatClampNeg)]) (rest := [.int r1]) ⟨hx, hb, hml, hown, hts⟩ (cX6_scale_ok l D cI cII qm w (xs (nI i + 1).toNatClampNeg) (xs (nI i + 2).toNatClampNeg) _ h) (cwV 2 hts gL_law_X6_scale rfl rfl rfl (by decide +kernel) ⟨Nat.le_of_ble_eq_true rfl, Nat.le_of_ble_eq_true rfl⟩) (z_preVm hK hPm hDm rfl rfl) rfl rfl hl.1 rfl (lv_room (Nat.le_of_ble_eq_true rfl)) dL_law_420 ⟨Nat.le_of_ble_eq_true rfl, Nat.le_of_ble_eq_true rfl⟩) hS (fun x9 _ h9 => z_sub hDm x9 h9) (z_sub hDm) (fun r2 w1 t H1 locs ht hvm h hB hz1 hk1 hS => ?_)
  have hB : va_P D vwCl (wM cI qm w1) t.heap := hB
  rw [ht] at hB
  have hPx : va_P D vwCl (wX cI cII q u1) H1 := z_kept hPx hk1 (fun k y hk => z_apart hD hk)
  have hPm := hB
  have hD : va_D (fun x : Nat => s.heap.size ≤ x) (wX cI cII q u1 ++ wM cI qm w1) := z_Dmap hD rfl
  have hDx := z_Dapp_l hD
  have hDm := z_Dapp_r hD
  refine lv_icmp_eq (tgt := 941) hx hb dL_law_423 (by decide) (fun _ => ?_) (fun cc => absurd h.1 cc)
  exact lw_tail C0 ih h.2 ⟨hPx, hPm, hD, hS⟩ hl

set_option maxHeartbeats 4000000 in
set_option maxRecDepth 100000 in
theorem lw_case8 {p : Program} {l : Launch} {e : Env} {s : State} {m : MethodId} {below : List Frame} {meth : Method} {c : Code} {b L : Nat} {xs : Nat → Int32} (C0 : lw_At p s m meth c b L xs) (hL : L ≤ 3072) {D : va_G} {cI cII : ClassId} (hK : va_K D vwCl (tz cI cII) s) {q : Nat → Nat → Nat} {qm : Nat → Nat} {i : Nat} (hi : i + 6 ≤ L) (ih : lw_L p l e s m b below meth c D cI cII q qm (i + 6)) {u : XS} {w : MS} (hI : Inv u w) {H : Heap} {locs : List Loc} (hH : lw_H D cI cII q qm s u w H locs) {ls : Array Slot} (hl : lv_has ls 4 [(0, .ref b), (1, .ref (q 0 0)), (2, .ref (qm 0)), (3, .int (nI i))]) : lw_W p l e s m b below meth c H locs (F0 m 428 ls []) := by
  obtain ⟨hx, hb, hr, hml, hown, hts0, hX, hbl, hlocks, hgv⟩ := id C0
  have hts : ∀ w ∈ wsL_law, w.before #[Value.ref b] s = true := fun w h => hts0 w (wsL_law_in w h)
  have hbA : ¬ (fun x : Nat => s.heap.size ≤ x) b := Nat.not_le.mpr hbl
  obtain ⟨hPx, hPm, hD, hS⟩ := hH
  have hk5 : ∀ k, k < 6 → vp_in (nI i + nI k) L := fun k hk => by rw [nI_add]; exact vp_in_nI (by omega) (by omega)
  have hb1 : vp_in (nI i + 1) L := hk5 1 (by omega)
  have hb2 : vp_in (nI i + 2) L := hk5 2 (by omega)
  have hb3 : vp_in (nI i + 3) L := hk5 3 (by omega)
  have hb4 : vp_in (nI i + 4) L := hk5 4 (by omega)
  have hb5 : vp_in (nI i + 5) L := hk5 5 (by omega)
  have hDx := z_Dapp_l hD
  have hDm := z_Dapp_r hD
  refine lv_aload_n hx hb dL_law_428 rfl (lv_at hl 1 rfl) ?_
  refine lv_aload_n hx hb dL_law_429 rfl (lv_at hl 0 rfl) ?_
  refine lv_iload_n hx hb dL_law_430 rfl (lv_at hl 3 rfl) ?_
  refine lv_iconst (v := 1) hx hb dL_law_431 (by decide) ?_
  refine lv_iadd hx hb dL_law_432 ?_
  refine va_sld hx hb hX hbl hbA hS hb1 dL_law_433 ?_
  refine lv_aload_n hx hb dL_law_434 rfl (lv_at hl 0 rfl) ?_
  refine lv_iload_n hx hb dL_law_435 rfl (lv_at hl 3 rfl) ?_
  refine lv_iconst (v := 2) hx hb dL_law_436 (by decide) ?_
  refine lv_iadd hx hb dL_law_437 ?_
  refine va_sld hx hb hX hbl hbA hS hb2 dL_law_438 ?_
  refine lv_aload_n hx hb dL_law_439 rfl (lv_at hl 0 rfl) ?_
  refine lv_iload_n hx hb dL_law_440 rfl (lv_at hl 3 rfl) ?_
  refine lv_iconst (v := 3) hx hb dL_law_441 (by decide) ?_
  refine lv_iadd hx hb dL_law_442 ?_
  refine va_sld hx hb hX hbl hbA hS hb3 dL_law_443 ?_
  have h := pr_step hI (xs (nI i + 1).toNatClampNeg) (xs (nI i + 2).toNatClampNeg) (xs (nI i + 3).toNatClampNeg)
  refine va_calli (va_runV (C := RX5) (As := [.int (xs (nI i + 1).toNatClampNeg), .int (xs (nI i + 2).toNatClampNeg), .int (xs (nI i + 3).toNatClampNeg)]) (rest := []) ⟨hx, hb, hml, hown, hts⟩ (cX5_step_ok l D cI cII q u (xs (nI i + 1).toNatClampNeg) (xs (nI i + 2).toNatClampNeg) (xs (nI i + 3).toNatClampNeg) _ h) (cwV 3 hts gL_law_X5_step rfl rfl rfl (by decide +kernel) ⟨Nat.le_of_ble_eq_true rfl, Nat.le_of_ble_eq_true rfl⟩) (z_preVm hK hPx hDx rfl rfl) rfl rfl hl.1 rfl (lv_room (Nat.le_of_ble_eq_true rfl)) dL_law_444 ⟨Nat.le_of_ble_eq_true rfl, Nat.le_of_ble_eq_true rfl⟩) hS (fun x9 _ h9 => z_sub hDx x9 h9) (z_sub hDx) (fun r1 u1 t H1 locs ht hvm h hB hz1 hk1 hS => ?_)
  have hB : va_P D vwCl (wX cI cII q u1) t.heap := hB
  rw [ht] at hB
  have hPm : va_P D vwCl (wM cI qm w) H1 := z_kept hPm hk1 (fun k y hk => z_apart' hD hk)
  have hPx := hB
  have hD : va_D (fun x : Nat => s.heap.size ≤ x) (wX cI cII q u1 ++ wM cI qm w) := z_Dmap hD rfl
  have hDx := z_Dapp_l hD
  have hDm := z_Dapp_r hD
  refine lv_aload_n hx hb dL_law_447 rfl (lv_at hl 2 rfl) ?_
  refine lv_aload_n hx hb dL_law_448 rfl (lv_at hl 0 rfl) ?_
  refine lv_iload_n hx hb dL_law_449 rfl (lv_at hl 3 rfl) ?_
  refine lv_iconst (v := 1) hx hb dL_law_450 (by decide) ?_
  refine lv_iadd hx hb dL_law_451 ?_
  refine va_sld hx hb hX hbl hbA hS hb1 dL_law_452 ?_
  refine lv_aload_n hx hb dL_law_453 rfl (lv_at hl 0 rfl) ?_
  refine lv_iload_n hx hb dL_law_454 rfl (lv_at hl 3 rfl) ?_
  refine lv_iconst (v := 2) hx hb dL_law_455 (by decide) ?_
  refine lv_iadd hx hb dL_law_456 ?_
  refine va_sld hx hb hX hbl hbA hS hb2 dL_law_457 ?_
  refine lv_aload_n hx hb dL_law_458 rfl (lv_at hl 0 rfl) ?_
  refine lv_iload_n hx hb dL_law_459 rfl (lv_at hl 3 rfl) ?_
  refine lv_iconst (v := 3) hx hb dL_law_460 (by decide) ?_
  refine lv_iadd hx hb dL_law_461 ?_
  refine va_sld hx hb hX hbl hbA hS hb3 dL_law_462 ?_
  refine va_calli (va_runV (C := RX6) (As := [.int (xs (nI i + 1).toNatClampNeg), .int (xs (nI i + 2).toNatClampNeg), .int (xs (nI i + 3).toNatClampNeg)]) (rest := [.int r1]) ⟨hx, hb, hml, hown, hts⟩ (cX6_step_ok l D cI cII qm w (xs (nI i + 1).toNatClampNeg) (xs (nI i + 2).toNatClampNeg) (xs (nI i + 3).toNatClampNeg) _ h) (cwV 3 hts gL_law_X6_step rfl rfl rfl (by decide +kernel) ⟨Nat.le_of_ble_eq_true rfl, Nat.le_of_ble_eq_true rfl⟩) (z_preVm hK hPm hDm rfl rfl) rfl rfl hl.1 rfl (lv_room (Nat.le_of_ble_eq_true rfl)) dL_law_463 ⟨Nat.le_of_ble_eq_true rfl, Nat.le_of_ble_eq_true rfl⟩) hS (fun x9 _ h9 => z_sub hDm x9 h9) (z_sub hDm) (fun r2 w1 t H1 locs ht hvm h hB hz1 hk1 hS => ?_)
  have hB : va_P D vwCl (wM cI qm w1) t.heap := hB
  rw [ht] at hB
  have hPx : va_P D vwCl (wX cI cII q u1) H1 := z_kept hPx hk1 (fun k y hk => z_apart hD hk)
  have hPm := hB
  have hD : va_D (fun x : Nat => s.heap.size ≤ x) (wX cI cII q u1 ++ wM cI qm w1) := z_Dmap hD rfl
  have hDx := z_Dapp_l hD
  have hDm := z_Dapp_r hD
  refine lv_icmp_eq (tgt := 941) hx hb dL_law_466 (by decide) (fun _ => ?_) (fun cc => absurd h.1 cc)
  exact lw_tail C0 ih h.2 ⟨hPx, hPm, hD, hS⟩ hl

set_option maxHeartbeats 4000000 in
set_option maxRecDepth 100000 in
theorem lw_case9 {p : Program} {l : Launch} {e : Env} {s : State} {m : MethodId} {below : List Frame} {meth : Method} {c : Code} {b L : Nat} {xs : Nat → Int32} (C0 : lw_At p s m meth c b L xs) (hL : L ≤ 3072) {D : va_G} {cI cII : ClassId} (hK : va_K D vwCl (tz cI cII) s) {q : Nat → Nat → Nat} {qm : Nat → Nat} {i : Nat} (hi : i + 6 ≤ L) (ih : lw_L p l e s m b below meth c D cI cII q qm (i + 6)) {u : XS} {w : MS} (hI : Inv u w) {H : Heap} {locs : List Loc} (hH : lw_H D cI cII q qm s u w H locs) {ls : Array Slot} (hl : lv_has ls 4 [(0, .ref b), (1, .ref (q 0 0)), (2, .ref (qm 0)), (3, .int (nI i))]) : lw_W p l e s m b below meth c H locs (F0 m 471 ls []) := by
  obtain ⟨hx, hb, hr, hml, hown, hts0, hX, hbl, hlocks, hgv⟩ := id C0
  have hts : ∀ w ∈ wsL_law, w.before #[Value.ref b] s = true := fun w h => hts0 w (wsL_law_in w h)
  have hbA : ¬ (fun x : Nat => s.heap.size ≤ x) b := Nat.not_le.mpr hbl
  obtain ⟨hPx, hPm, hD, hS⟩ := hH
  have hk5 : ∀ k, k < 6 → vp_in (nI i + nI k) L := fun k hk => by rw [nI_add]; exact vp_in_nI (by omega) (by omega)
  have hb1 : vp_in (nI i + 1) L := hk5 1 (by omega)
  have hb2 : vp_in (nI i + 2) L := hk5 2 (by omega)
  have hb3 : vp_in (nI i + 3) L := hk5 3 (by omega)
  have hb4 : vp_in (nI i + 4) L := hk5 4 (by omega)
  have hb5 : vp_in (nI i + 5) L := hk5 5 (by omega)
  have hDx := z_Dapp_l hD
  have hDm := z_Dapp_r hD
  refine lv_aload_n hx hb dL_law_471 rfl (lv_at hl 1 rfl) ?_
  refine lv_aload_n hx hb dL_law_472 rfl (lv_at hl 0 rfl) ?_
  refine lv_iload_n hx hb dL_law_473 rfl (lv_at hl 3 rfl) ?_
  refine lv_iconst (v := 1) hx hb dL_law_474 (by decide) ?_
  refine lv_iadd hx hb dL_law_475 ?_
  refine va_sld hx hb hX hbl hbA hS hb1 dL_law_476 ?_
  refine lv_aload_n hx hb dL_law_477 rfl (lv_at hl 0 rfl) ?_
  refine lv_iload_n hx hb dL_law_478 rfl (lv_at hl 3 rfl) ?_
  refine lv_iconst (v := 2) hx hb dL_law_479 (by decide) ?_
  refine lv_iadd hx hb dL_law_480 ?_
  refine va_sld hx hb hX hbl hbA hS hb2 dL_law_481 ?_
  refine lv_aload_n hx hb dL_law_482 rfl (lv_at hl 0 rfl) ?_
  refine lv_iload_n hx hb dL_law_483 rfl (lv_at hl 3 rfl) ?_
  refine lv_iconst (v := 3) hx hb dL_law_484 (by decide) ?_
  refine lv_iadd hx hb dL_law_485 ?_
  refine va_sld hx hb hX hbl hbA hS hb3 dL_law_486 ?_
  refine lv_aload_n hx hb dL_law_487 rfl (lv_at hl 0 rfl) ?_
  refine lv_iload_n hx hb dL_law_488 rfl (lv_at hl 3 rfl) ?_
  refine lv_iconst (v := 4) hx hb dL_law_489 (by decide) ?_
  refine lv_iadd hx hb dL_law_490 ?_
  refine va_sld hx hb hX hbl hbA hS hb4 dL_law_491 ?_
  have h := pr_hang hI (xs (nI i + 1).toNatClampNeg) (xs (nI i + 2).toNatClampNeg) (xs (nI i + 3).toNatClampNeg) (xs (nI i + 4).toNatClampNeg)
  refine va_calli (va_runV (C := RX5) (As := [.int (xs (nI i + 1).toNatClampNeg), .int (xs (nI i + 2).toNatClampNeg), .int (xs (nI i + 3).toNatClampNeg), .int (xs (nI i + 4).toNatClampNeg)]) (rest := []) ⟨hx, hb, hml, hown, hts⟩ (cX5_hang_ok l D cI cII q u (xs (nI i + 1).toNatClampNeg) (xs (nI i + 2).toNatClampNeg) (xs (nI i + 3).toNatClampNeg) (xs (nI i + 4).toNatClampNeg) _ h) (cwV 4 hts gL_law_X5_hang rfl rfl rfl (by decide +kernel) ⟨Nat.le_of_ble_eq_true rfl, Nat.le_of_ble_eq_true rfl⟩) (z_preVm hK hPx hDx rfl rfl) rfl rfl hl.1 rfl (lv_room (Nat.le_of_ble_eq_true rfl)) dL_law_492 ⟨Nat.le_of_ble_eq_true rfl, Nat.le_of_ble_eq_true rfl⟩) hS (fun x9 _ h9 => z_sub hDx x9 h9) (z_sub hDx) (fun r1 u1 t H1 locs ht hvm h hB hz1 hk1 hS => ?_)
  have hB : va_P D vwCl (wX cI cII q u1) t.heap := hB
  rw [ht] at hB
  have hPm : va_P D vwCl (wM cI qm w) H1 := z_kept hPm hk1 (fun k y hk => z_apart' hD hk)
  have hPx := hB
  have hD : va_D (fun x : Nat => s.heap.size ≤ x) (wX cI cII q u1 ++ wM cI qm w) := z_Dmap hD rfl
  have hDx := z_Dapp_l hD
  have hDm := z_Dapp_r hD
  refine lv_aload_n hx hb dL_law_495 rfl (lv_at hl 2 rfl) ?_
  refine lv_aload_n hx hb dL_law_496 rfl (lv_at hl 0 rfl) ?_
  refine lv_iload_n hx hb dL_law_497 rfl (lv_at hl 3 rfl) ?_
  refine lv_iconst (v := 1) hx hb dL_law_498 (by decide) ?_
  refine lv_iadd hx hb dL_law_499 ?_
  refine va_sld hx hb hX hbl hbA hS hb1 dL_law_500 ?_
  refine lv_aload_n hx hb dL_law_501 rfl (lv_at hl 0 rfl) ?_
  refine lv_iload_n hx hb dL_law_502 rfl (lv_at hl 3 rfl) ?_
  refine lv_iconst (v := 2) hx hb dL_law_503 (by decide) ?_
  refine lv_iadd hx hb dL_law_504 ?_
  refine va_sld hx hb hX hbl hbA hS hb2 dL_law_505 ?_
  refine lv_aload_n hx hb dL_law_506 rfl (lv_at hl 0 rfl) ?_
  refine lv_iload_n hx hb dL_law_507 rfl (lv_at hl 3 rfl) ?_
  refine lv_iconst (v := 3) hx hb dL_law_508 (by decide) ?_
  refine lv_iadd hx hb dL_law_509 ?_
  refine va_sld hx hb hX hbl hbA hS hb3 dL_law_510 ?_
  refine lv_aload_n hx hb dL_law_511 rfl (lv_at hl 0 rfl) ?_
  refine lv_iload_n hx hb dL_law_512 rfl (lv_at hl 3 rfl) ?_
  refine lv_iconst (v := 4) hx hb dL_law_513 (by decide) ?_
  refine lv_iadd hx hb dL_law_514 ?_
  refine va_sld hx hb hX hbl hbA hS hb4 dL_law_515 ?_
  refine va_calli (va_runV (C := RX6) (As := [.int (xs (nI i + 1).toNatClampNeg), .int (xs (nI i + 2).toNatClampNeg), .int (xs (nI i + 3).toNatClampNeg), .int (xs (nI i + 4).toNatClampNeg)]) (rest := [.int r1]) ⟨hx, hb, hml, hown, hts⟩ (cX6_hang_ok l D cI cII qm w (xs (nI i + 1).toNatClampNeg) (xs (nI i + 2).toNatClampNeg) (xs (nI i + 3).toNatClampNeg) (xs (nI i + 4).toNatClampNeg) _ h) (cwV 4 hts gL_law_X6_hang rfl rfl rfl (by decide +kernel) ⟨Nat.le_of_ble_eq_true rfl, Nat.le_of_ble_eq_true rfl⟩) (z_preVm hK hPm hDm rfl rfl) rfl rfl hl.1 rfl (lv_room (Nat.le_of_ble_eq_true rfl)) dL_law_516 ⟨Nat.le_of_ble_eq_true rfl, Nat.le_of_ble_eq_true rfl⟩) hS (fun x9 _ h9 => z_sub hDm x9 h9) (z_sub hDm) (fun r2 w1 t H1 locs ht hvm h hB hz1 hk1 hS => ?_)
  have hB : va_P D vwCl (wM cI qm w1) t.heap := hB
  rw [ht] at hB
  have hPx : va_P D vwCl (wX cI cII q u1) H1 := z_kept hPx hk1 (fun k y hk => z_apart hD hk)
  have hPm := hB
  have hD : va_D (fun x : Nat => s.heap.size ≤ x) (wX cI cII q u1 ++ wM cI qm w1) := z_Dmap hD rfl
  have hDx := z_Dapp_l hD
  have hDm := z_Dapp_r hD
  refine lv_icmp_eq (tgt := 941) hx hb dL_law_519 (by decide) (fun _ => ?_) (fun cc => absurd h.1 cc)
  exact lw_tail C0 ih h.2 ⟨hPx, hPm, hD, hS⟩ hl

set_option maxHeartbeats 4000000 in
set_option maxRecDepth 100000 in
theorem lw_case10 {p : Program} {l : Launch} {e : Env} {s : State} {m : MethodId} {below : List Frame} {meth : Method} {c : Code} {b L : Nat} {xs : Nat → Int32} (C0 : lw_At p s m meth c b L xs) (hL : L ≤ 3072) {D : va_G} {cI cII : ClassId} (hK : va_K D vwCl (tz cI cII) s) {q : Nat → Nat → Nat} {qm : Nat → Nat} {i : Nat} (hi : i + 6 ≤ L) (ih : lw_L p l e s m b below meth c D cI cII q qm (i + 6)) {u : XS} {w : MS} (hI : Inv u w) {H : Heap} {locs : List Loc} (hH : lw_H D cI cII q qm s u w H locs) {ls : Array Slot} (hl : lv_has ls 4 [(0, .ref b), (1, .ref (q 0 0)), (2, .ref (qm 0)), (3, .int (nI i))]) : lw_W p l e s m b below meth c H locs (F0 m 524 ls []) := by
  obtain ⟨hx, hb, hr, hml, hown, hts0, hX, hbl, hlocks, hgv⟩ := id C0
  have hts : ∀ w ∈ wsL_law, w.before #[Value.ref b] s = true := fun w h => hts0 w (wsL_law_in w h)
  have hbA : ¬ (fun x : Nat => s.heap.size ≤ x) b := Nat.not_le.mpr hbl
  obtain ⟨hPx, hPm, hD, hS⟩ := hH
  have hk5 : ∀ k, k < 6 → vp_in (nI i + nI k) L := fun k hk => by rw [nI_add]; exact vp_in_nI (by omega) (by omega)
  have hb1 : vp_in (nI i + 1) L := hk5 1 (by omega)
  have hb2 : vp_in (nI i + 2) L := hk5 2 (by omega)
  have hb3 : vp_in (nI i + 3) L := hk5 3 (by omega)
  have hb4 : vp_in (nI i + 4) L := hk5 4 (by omega)
  have hb5 : vp_in (nI i + 5) L := hk5 5 (by omega)
  have hDx := z_Dapp_l hD
  have hDm := z_Dapp_r hD
  refine lv_aload_n hx hb dL_law_524 rfl (lv_at hl 1 rfl) ?_
  refine lv_aload_n hx hb dL_law_525 rfl (lv_at hl 0 rfl) ?_
  refine lv_iload_n hx hb dL_law_526 rfl (lv_at hl 3 rfl) ?_
  refine lv_iconst (v := 1) hx hb dL_law_527 (by decide) ?_
  refine lv_iadd hx hb dL_law_528 ?_
  refine va_sld hx hb hX hbl hbA hS hb1 dL_law_529 ?_
  have h := pr_unhang hI (xs (nI i + 1).toNatClampNeg)
  refine va_calli (va_runV (C := RX5) (As := [.int (xs (nI i + 1).toNatClampNeg)]) (rest := []) ⟨hx, hb, hml, hown, hts⟩ (cX5_unhang_ok l D cI cII q u (xs (nI i + 1).toNatClampNeg) _ h) (cwV 1 hts gL_law_X5_unhang rfl rfl rfl (by decide +kernel) ⟨Nat.le_of_ble_eq_true rfl, Nat.le_of_ble_eq_true rfl⟩) (z_preVm hK hPx hDx rfl rfl) rfl rfl hl.1 rfl (lv_room (Nat.le_of_ble_eq_true rfl)) dL_law_530 ⟨Nat.le_of_ble_eq_true rfl, Nat.le_of_ble_eq_true rfl⟩) hS (fun x9 _ h9 => z_sub hDx x9 h9) (z_sub hDx) (fun r1 u1 t H1 locs ht hvm h hB hz1 hk1 hS => ?_)
  have hB : va_P D vwCl (wX cI cII q u1) t.heap := hB
  rw [ht] at hB
  have hPm : va_P D vwCl (wM cI qm w) H1 := z_kept hPm hk1 (fun k y hk => z_apart' hD hk)
  have hPx := hB
  have hD : va_D (fun x : Nat => s.heap.size ≤ x) (wX cI cII q u1 ++ wM cI qm w) := z_Dmap hD rfl
  have hDx := z_Dapp_l hD
  have hDm := z_Dapp_r hD
  refine lv_aload_n hx hb dL_law_533 rfl (lv_at hl 2 rfl) ?_
  refine lv_aload_n hx hb dL_law_534 rfl (lv_at hl 0 rfl) ?_
  refine lv_iload_n hx hb dL_law_535 rfl (lv_at hl 3 rfl) ?_
  refine lv_iconst (v := 1) hx hb dL_law_536 (by decide) ?_
  refine lv_iadd hx hb dL_law_537 ?_
  refine va_sld hx hb hX hbl hbA hS hb1 dL_law_538 ?_
  refine va_calli (va_runV (C := RX6) (As := [.int (xs (nI i + 1).toNatClampNeg)]) (rest := [.int r1]) ⟨hx, hb, hml, hown, hts⟩ (cX6_unhang_ok l D cI cII qm w (xs (nI i + 1).toNatClampNeg) _ h) (cwV 1 hts gL_law_X6_unhang rfl rfl rfl (by decide +kernel) ⟨Nat.le_of_ble_eq_true rfl, Nat.le_of_ble_eq_true rfl⟩) (z_preVm hK hPm hDm rfl rfl) rfl rfl hl.1 rfl (lv_room (Nat.le_of_ble_eq_true rfl)) dL_law_539 ⟨Nat.le_of_ble_eq_true rfl, Nat.le_of_ble_eq_true rfl⟩) hS (fun x9 _ h9 => z_sub hDm x9 h9) (z_sub hDm) (fun r2 w1 t H1 locs ht hvm h hB hz1 hk1 hS => ?_)
  have hB : va_P D vwCl (wM cI qm w1) t.heap := hB
  rw [ht] at hB
  have hPx : va_P D vwCl (wX cI cII q u1) H1 := z_kept hPx hk1 (fun k y hk => z_apart hD hk)
  have hPm := hB
  have hD : va_D (fun x : Nat => s.heap.size ≤ x) (wX cI cII q u1 ++ wM cI qm w1) := z_Dmap hD rfl
  have hDx := z_Dapp_l hD
  have hDm := z_Dapp_r hD
  refine lv_icmp_eq (tgt := 941) hx hb dL_law_542 (by decide) (fun _ => ?_) (fun cc => absurd h.1 cc)
  exact lw_tail C0 ih h.2 ⟨hPx, hPm, hD, hS⟩ hl

set_option maxHeartbeats 4000000 in
set_option maxRecDepth 100000 in
theorem lw_case11 {p : Program} {l : Launch} {e : Env} {s : State} {m : MethodId} {below : List Frame} {meth : Method} {c : Code} {b L : Nat} {xs : Nat → Int32} (C0 : lw_At p s m meth c b L xs) (hL : L ≤ 3072) {D : va_G} {cI cII : ClassId} (hK : va_K D vwCl (tz cI cII) s) {q : Nat → Nat → Nat} {qm : Nat → Nat} {i : Nat} (hi : i + 6 ≤ L) (ih : lw_L p l e s m b below meth c D cI cII q qm (i + 6)) {u : XS} {w : MS} (hI : Inv u w) {H : Heap} {locs : List Loc} (hH : lw_H D cI cII q qm s u w H locs) {ls : Array Slot} (hl : lv_has ls 4 [(0, .ref b), (1, .ref (q 0 0)), (2, .ref (qm 0)), (3, .int (nI i))]) : lw_W p l e s m b below meth c H locs (F0 m 547 ls []) := by
  obtain ⟨hx, hb, hr, hml, hown, hts0, hX, hbl, hlocks, hgv⟩ := id C0
  have hts : ∀ w ∈ wsL_law, w.before #[Value.ref b] s = true := fun w h => hts0 w (wsL_law_in w h)
  have hbA : ¬ (fun x : Nat => s.heap.size ≤ x) b := Nat.not_le.mpr hbl
  obtain ⟨hPx, hPm, hD, hS⟩ := hH
  have hk5 : ∀ k, k < 6 → vp_in (nI i + nI k) L := fun k hk => by rw [nI_add]; exact vp_in_nI (by omega) (by omega)
  have hb1 : vp_in (nI i + 1) L := hk5 1 (by omega)
  have hb2 : vp_in (nI i + 2) L := hk5 2 (by omega)
  have hb3 : vp_in (nI i + 3) L := hk5 3 (by omega)
  have hb4 : vp_in (nI i + 4) L := hk5 4 (by omega)
  have hb5 : vp_in (nI i + 5) L := hk5 5 (by omega)
  have hDx := z_Dapp_l hD
  have hDm := z_Dapp_r hD
  refine lv_aload_n hx hb dL_law_547 rfl (lv_at hl 1 rfl) ?_
  refine lv_aload_n hx hb dL_law_548 rfl (lv_at hl 0 rfl) ?_
  refine lv_iload_n hx hb dL_law_549 rfl (lv_at hl 3 rfl) ?_
  refine lv_iconst (v := 1) hx hb dL_law_550 (by decide) ?_
  refine lv_iadd hx hb dL_law_551 ?_
  refine va_sld hx hb hX hbl hbA hS hb1 dL_law_552 ?_
  refine lv_aload_n hx hb dL_law_553 rfl (lv_at hl 0 rfl) ?_
  refine lv_iload_n hx hb dL_law_554 rfl (lv_at hl 3 rfl) ?_
  refine lv_iconst (v := 2) hx hb dL_law_555 (by decide) ?_
  refine lv_iadd hx hb dL_law_556 ?_
  refine va_sld hx hb hX hbl hbA hS hb2 dL_law_557 ?_
  have h := pr_force hI (xs (nI i + 1).toNatClampNeg) (xs (nI i + 2).toNatClampNeg)
  refine vp_callSi (W.runV (C := RX5) (As := [.int (xs (nI i + 1).toNatClampNeg), .int (xs (nI i + 2).toNatClampNeg)]) (rest := []) ⟨hx, hb, hml, hown, hts⟩ (cX5_force_ok l D cI cII q u (xs (nI i + 1).toNatClampNeg) (xs (nI i + 2).toNatClampNeg) _ h) (cwV 2 hts gL_law_X5_force rfl rfl rfl (by decide +kernel) ⟨Nat.le_of_ble_eq_true rfl, Nat.le_of_ble_eq_true rfl⟩) (z_preV hK hPx rfl rfl) rfl rfl hl.1 rfl (lv_room (Nat.le_of_ble_eq_true rfl)) dL_law_558 ⟨Nat.le_of_ble_eq_true rfl, Nat.le_of_ble_eq_true rfl⟩) (fun r1 h => ?_)
  refine lv_aload_n hx hb dL_law_561 rfl (lv_at hl 2 rfl) ?_
  refine lv_aload_n hx hb dL_law_562 rfl (lv_at hl 0 rfl) ?_
  refine lv_iload_n hx hb dL_law_563 rfl (lv_at hl 3 rfl) ?_
  refine lv_iconst (v := 1) hx hb dL_law_564 (by decide) ?_
  refine lv_iadd hx hb dL_law_565 ?_
  refine va_sld hx hb hX hbl hbA hS hb1 dL_law_566 ?_
  refine lv_aload_n hx hb dL_law_567 rfl (lv_at hl 0 rfl) ?_
  refine lv_iload_n hx hb dL_law_568 rfl (lv_at hl 3 rfl) ?_
  refine lv_iconst (v := 2) hx hb dL_law_569 (by decide) ?_
  refine lv_iadd hx hb dL_law_570 ?_
  refine va_sld hx hb hX hbl hbA hS hb2 dL_law_571 ?_
  refine vp_callSi (W.runV (C := RX6) (As := [.int (xs (nI i + 1).toNatClampNeg), .int (xs (nI i + 2).toNatClampNeg)]) (rest := [.int r1]) ⟨hx, hb, hml, hown, hts⟩ (cX6_force_ok l D cI cII qm w (xs (nI i + 1).toNatClampNeg) (xs (nI i + 2).toNatClampNeg) _ h) (cwV 2 hts gL_law_X6_force rfl rfl rfl (by decide +kernel) ⟨Nat.le_of_ble_eq_true rfl, Nat.le_of_ble_eq_true rfl⟩) (z_preV hK hPm rfl rfl) rfl rfl hl.1 rfl (lv_room (Nat.le_of_ble_eq_true rfl)) dL_law_572 ⟨Nat.le_of_ble_eq_true rfl, Nat.le_of_ble_eq_true rfl⟩) (fun r2 h => ?_)
  refine lv_icmp_eq (tgt := 941) hx hb dL_law_575 (by decide) (fun _ => ?_) (fun cc => absurd h cc)
  exact lw_tail C0 ih hI ⟨hPx, hPm, hD, hS⟩ hl
