/-! pairs: the calls that change the state -/
theorem zu_s {f : Nat → Int32} {k : Nat} {x : Int32} : upd f k x k = x := pk_us
theorem zu_n {f : Nat → Int32} {k j : Nat} {x : Int32} (h : j ≠ k) : upd f k x j = f j := pk_un h
theorem z_vn {A : RS} {j b : Nat} {f : Nat → Int32} (h : b ≠ j) : va_up A j f b = A b := if_neg h
theorem z_vs {A : RS} {j : Nat} {f : Nat → Int32} : va_up A j f j = f := if_pos rfl
theorem pr_strike {u : XS} {w : MS} (h : Inv u w) (k : Int32) : wpX5_strike u k (fun r1 u' => wpX6_strike w k (fun r2 w' => r1 = r2 ∧ Inv u' w')) := by
  have hinv := h
  obtain ⟨nr, ns, nc, nl, wk, hsc, hr, hs, hh, hc, hl⟩ := h
  obtain ⟨e9, ez, e0, e1, e2, e3, e4, e5, e6, h60, hk⟩ := hr
  unfold wpX5_strike wpX6_strike
  simp only [e_has3, e_in, z_b0]
  rw [e9, ez, z_cnt (by omega)]
  by_cases c : k < 0 ∨ nI nr ≤ k
  · exact ⟨fun q => absurd c q, fun _ => ⟨fun q => absurd c q, fun _ => ⟨by trivial, hinv⟩⟩⟩
  obtain ⟨j, hj, rfl⟩ := z_ix (by omega) c
  have hv : vp_in (nI j) 60 := vp_in_nI (by omega) (by omega)
  have cl : (nI j).toNatClampNeg = j := nI_clamp (by omega)
  rw [cl, e6]
  refine ⟨fun _ => ⟨hv, fun c2 => ⟨fun _ => ⟨hv, fun _ => ⟨by trivial, ?_⟩, fun q => absurd c2 q⟩, fun q => absurd q c⟩, fun c2 => ⟨fun _ => ⟨hv, fun q => absurd q c2, fun _ => ⟨by trivial, hinv⟩⟩, fun q => absurd q c⟩⟩, fun q => absurd q c⟩
  refine ⟨nr, ns, nc, nl, wk, hsc, ?_, hs, hh, hc, hl⟩
  refine ⟨e9, ez, e0, e1, e2, e3, e4, e5, ?_, h60, fun i hi => ?_⟩
  · show upd (w.1 6) j (u.2.2.2.2.2.1 0) = upd (w.1 6) j (w.2.1 0)
    rw [hsc.1, hsc.2.1]
  · obtain ⟨a0, a1, a2, a3, a4, a5⟩ := hk i hi
    refine ⟨a0, a1, a2, a3, a4, ?_⟩
    show upd (w.1 6) j (w.2.1 0) i = -1 ∨ ∃ s, s ≤ wk ∧ upd (w.1 6) j (w.2.1 0) i = nI s
    by_cases q : i = j
    · subst q
      exact Or.inr ⟨wk, Nat.le_refl _, by rw [zu_s]; exact hsc.2.1⟩
    · rw [zu_n q]; exact a5
theorem pr_sale {u : XS} {w : MS} (h : Inv u w) (t g v q p : Int32) : wpX5_sale u t g v q p (fun r1 u' => wpX6_sale w t g v q p (fun r2 w' => r1 = r2 ∧ Inv u' w')) := by
  have hinv := h
  obtain ⟨nr, ns, nc, nl, wk, hsc, hr, hs, hh, hc, hl⟩ := h
  obtain ⟨e9, ez, e0, e1, e2, e3, e4, e5, e6, h60, hk⟩ := hr
  have hwk := hsc.2.2.1
  unfold wpX5_sale wpX6_sale
  simp only [e_nog, e_out, e_isg, e_in, z_b0, z_b1]
  rw [hsc.1, hsc.2.1, e9, ez]
  by_cases c1 : t < 0 ∨ 9 < t
  · simp [c1, hinv]
  by_cases c2 : g < 0 ∨ 2 < g
  · simp [c1, c2, hinv]
  by_cases c3 : v < 0 ∨ nI wk < v
  · simp [c1, c2, c3, hinv]
  by_cases c4 : q < 1 ∨ 1000 < q
  · simp [c1, c2, c3, c4, hinv]
  by_cases c5 : p < 1 ∨ 2000 < p
  · simp [c1, c2, c3, c4, c5, hinv]
  have full : (nI nr < 60) ↔ nr ≠ 60 := by
    have e : (60 : Int32) = nI 60 := rfl
    rw [e, nI_ltI (by omega) (by omega)]
    omega
  have full2 : (nI nr = 60) ↔ nr = 60 := by
    have e : (60 : Int32) = nI 60 := rfl
    rw [e, nI_eq (by omega) (by omega)]
  simp only [c1, c2, c3, c4, c5, full, full2, not_false_eq_true, not_true_eq_false, forall_const, false_imp_iff, true_imp_iff, and_true, true_and, ne_eq]
  refine ⟨fun c6 => ?_, fun c6 => ⟨fun q => absurd q c6, fun _ => hinv⟩⟩
  have hv : vp_in (nI nr) 60 := vp_in_nI (by omega) (by omega)
  unfold wpX3_add
  rw [e9]
  refine ⟨hv, fun _ => ⟨hv, ?_, ?_⟩, fun q => absurd q c6⟩
  · rw [nI_1, nI_pred]
  · have cl : (nI nr).toNatClampNeg = nr := nI_clamp (by omega)
    rw [cl, nI_1]
    refine ⟨nr + 1, ns, nc, nl, wk, hsc, ?_, hs, hh, hc, hl⟩
    obtain ⟨T, hT, rfl⟩ := z_rg (M := 9) (by omega) c1
    obtain ⟨V, hV, rfl⟩ := z_rg (M := wk) (by omega) c3
    obtain ⟨Q, hQ1, hQ2, rfl⟩ := z_rgl (L := 1) (M := 1000) (by omega) (by omega) c4
    obtain ⟨P, hP1, hP2, rfl⟩ := z_rgl (L := 1) (M := 2000) (by omega) (by omega) c5
    refine ⟨rfl, rfl, ?_, ?_, ?_, ?_, ?_, ?_, ?_, by omega, fun i hi => ?_⟩
    · show upd (u.1 0) nr _ = upd (w.1 0) nr _; rw [e0]
    · show upd (u.1 1) nr _ = upd (w.1 1) nr _; rw [e1]
    · show upd (u.1 2) nr _ = upd (w.1 2) nr _; rw [e2]
    · show upd (u.1 3) nr _ = upd (w.1 3) nr _; rw [e3]
    · show upd (u.1 4) nr _ = upd (w.1 4) nr _; rw [e4]
    · show upd (u.1 5) nr _ = upd (w.1 5) nr _; rw [e5]
    · show upd (u.1 6) nr _ = upd (w.1 6) nr _; rw [e6]
    · show (∃ x, x < 10 ∧ upd (w.1 0) nr (nI T) i = nI x) ∧ (∃ v, v ≤ wk ∧ upd (w.1 2) nr (nI V) i = nI v) ∧ (∃ q, 1 ≤ q ∧ q ≤ 1000 ∧ upd (w.1 3) nr (nI Q) i = nI q) ∧ (∃ p, p ≤ 2000 ∧ upd (w.1 4) nr (nI P) i = nI p) ∧ (∃ s, s ≤ wk ∧ upd (w.1 5) nr (nI wk) i = nI s) ∧ (upd (w.1 6) nr (-1) i = -1 ∨ ∃ s, s ≤ wk ∧ upd (w.1 6) nr (-1) i = nI s)
      by_cases z : i = nr
      · subst z
        simp only [zu_s]
        exact ⟨⟨T, by omega, rfl⟩, ⟨V, hV, rfl⟩, ⟨Q, hQ1, hQ2, rfl⟩, ⟨P, hP2, rfl⟩, ⟨wk, Nat.le_refl _, rfl⟩, Or.inl (by trivial)⟩
      · simp only [zu_n z]
        exact hk i (by omega)
theorem z_full {n N : Nat} (hn : n ≤ N) (hN : N < 2 ^ 30) : ((nI n < nI N) ↔ n ≠ N) ∧ ((nI n = nI N) ↔ n = N) := by
  rw [nI_ltI (by omega) (by omega), nI_eq (by omega) (by omega)]
  omega
theorem upd_same {f : Nat → Int32} {k : Nat} {x : Int32} (h : f k = x) : upd f k x = f := by
  funext j
  unfold upd
  by_cases q : j = k
  · rw [if_pos q, q, h]
  · rw [if_neg q]
theorem pr_scale {u : XS} {w : MS} (h : Inv u w) (g v : Int32) : wpX5_scale u g v (fun r1 u' => wpX6_scale w g v (fun r2 w' => r1 = r2 ∧ Inv u' w')) := by
  have hinv := h
  obtain ⟨nr, ns, nc, nl, wk, hsc, hr, hs, hh, hc, hl⟩ := h
  obtain ⟨e9, ez, h8, e0, e1, e2, e3, hz3, hst, hrow⟩ := hs
  unfold wpX5_scale wpX6_scale
  simp only [e_nog, e_out, e_isg, e_in, z_b0, z_b1]
  rw [hsc.1, hsc.2.1, e9, ez]
  by_cases c1 : g < 0 ∨ 2 < g
  · simp [c1, hinv]
  by_cases c2 : v < nI wk ∨ 200 < v
  · simp [c1, c2, hinv]
  obtain ⟨full, full2⟩ := z_full h8 (by omega)
  have e8 : (8 : Int32) = nI 8 := rfl
  rw [← e8] at full full2
  simp only [c1, c2, full, full2, not_false_eq_true, not_true_eq_false, forall_const, false_imp_iff, true_imp_iff, and_true, true_and, ne_eq]
  refine ⟨fun c6 => ?_, fun c6 => ⟨fun q => absurd q c6, fun _ => hinv⟩⟩
  have hv : vp_in (nI ns) 8 := vp_in_nI (by omega) (by omega)
  unfold wpX4_add
  rw [e9]
  refine ⟨hv, fun _ => ⟨hv, ?_, ?_⟩, fun q => absurd q c6⟩
  · rw [nI_1, nI_pred]
  · have cl : (nI ns).toNatClampNeg = ns := nI_clamp (by omega)
    rw [cl, nI_1]
    refine ⟨nr, ns + 1, nc, nl, wk, hsc, hr, ?_, hh, hc, hl⟩
    have em : upd (w.1 10) ns 0 = w.1 10 := upd_same (hz3 ns (Nat.le_refl _))
    refine ⟨rfl, rfl, by omega, ?_, ?_, ?_, ?_, ?_, ?_, ?_⟩
    · show upd (u.2.1 0) ns _ = upd (w.1 7) ns _; rw [e0]
    · show upd (u.2.1 1) ns _ = upd (w.1 8) ns _; rw [e1]
    · show upd (u.2.1 2) ns _ = upd (w.1 9) ns _; rw [e2]
    · show u.2.1 3 = upd (w.1 10) ns 0; rw [em]; exact e3
    · show ∀ k, ns + 1 ≤ k → upd (w.1 10) ns 0 k = 0
      rw [em]
      exact fun k hk => hz3 k (by omega)
    · show ∀ k, k < ns + 1 → ∃ j, j ≤ 8 ∧ upd (w.1 10) ns 0 k = nI j
      rw [em]
      intro k hk
      by_cases q : k = ns
      · exact ⟨0, by omega, by rw [q]; exact hz3 ns (Nat.le_refl _)⟩
      · exact hst k (by omega)
    · intro k i hk hi
      show va_up (va_up (va_up (va_up u.2.1 0 _) 1 _) 2 _) 9 _ (10 + k) i = w.1 11 (8 * k + i) ∧ va_up (va_up (va_up (va_up u.2.1 0 _) 1 _) 2 _) 9 _ (20 + k) i = w.1 12 (8 * k + i)
      rw [z_vn (show 10 + k ≠ 9 by omega), z_vn (show 10 + k ≠ 2 by omega), z_vn (show 10 + k ≠ 1 by omega), z_vn (show 10 + k ≠ 0 by omega), z_vn (show 20 + k ≠ 9 by omega), z_vn (show 20 + k ≠ 2 by omega), z_vn (show 20 + k ≠ 1 by omega), z_vn (show 20 + k ≠ 0 by omega)]
      exact hrow k i hk hi
theorem pr_cargo {u : XS} {w : MS} (h : Inv u w) (g q : Int32) : wpX5_cargo u g q (fun r1 u' => wpX6_cargo w g q (fun r2 w' => r1 = r2 ∧ Inv u' w')) := by
  have hinv := h
  obtain ⟨nr, ns, nc, nl, wk, hsc, hr, hs, hh, hc, hl⟩ := h
  obtain ⟨e9, ez, h20, e0, e1, e2, e3, e4, e5, hz2, hgr⟩ := hc
  unfold wpX5_cargo wpX6_cargo
  simp only [e_nog, e_out, e_isg, e_in, z_b0, z_b1]
  rw [hsc.1, hsc.2.1, e9, ez]
  by_cases c1 : g < 0 ∨ 2 < g
  · simp [c1, hinv]
  by_cases c2 : q < 1 ∨ 10000 < q
  · simp [c1, c2, hinv]
  obtain ⟨full, full2⟩ := z_full h20 (by omega)
  have e8 : (20 : Int32) = nI 20 := rfl
  rw [← e8] at full full2
  simp only [c1, c2, full, full2, not_false_eq_true, not_true_eq_false, forall_const, false_imp_iff, true_imp_iff, and_true, true_and, ne_eq]
  refine ⟨fun c6 => ?_, fun c6 => ⟨fun q => absurd q c6, fun _ => hinv⟩⟩
  have hv : vp_in (nI nc) 20 := vp_in_nI (by omega) (by omega)
  unfold wpX0_add
  rw [e9]
  refine ⟨hv, fun _ => ⟨hv, ?_, ?_⟩, fun q => absurd q c6⟩
  · rw [nI_1, nI_pred]
  · have cl : (nI nc).toNatClampNeg = nc := nI_clamp (by omega)
    rw [cl, nI_1]
    obtain ⟨G, hG, rfl⟩ := z_rg (M := 2) (by omega) c1
    refine ⟨nr, ns, nc + 1, nl, wk, hsc, hr, hs, hh, ?_, hl⟩
    obtain ⟨z1, z2, z3⟩ := hz2 nc (Nat.le_refl _)
    have em1 : upd (w.1 18) nc 0 = w.1 18 := upd_same z1
    have em2 : upd (w.1 19) nc 0 = w.1 19 := upd_same z2
    have em3 : upd (w.1 20) nc 0 = w.1 20 := upd_same z3
    refine ⟨rfl, rfl, by omega, ?_, ?_, ?_, ?_, ?_, ?_, ?_, ?_⟩
    · show upd (u.2.2.2.1 0) nc _ = upd (w.1 16) nc _; rw [e0]
    · show upd (u.2.2.2.1 1) nc _ = upd (w.1 17) nc _; rw [e1]
    · show u.2.2.2.1 2 = upd (w.1 18) nc 0; rw [em1]; exact e2
    · show u.2.2.2.1 3 = upd (w.1 19) nc 0; rw [em2]; exact e3
    · show u.2.2.2.1 4 = upd (w.1 20) nc 0; rw [em3]; exact e4
    · show upd (u.2.2.2.1 5) nc _ = upd (w.1 21) nc _; rw [e5]
    · show ∀ k, nc + 1 ≤ k → upd (w.1 18) nc 0 k = 0 ∧ upd (w.1 19) nc 0 k = 0 ∧ upd (w.1 20) nc 0 k = 0
      rw [em1, em2, em3]
      exact fun k hk => hz2 k (by omega)
    · show ∀ k, k < nc + 1 → ∃ g, g < 3 ∧ upd (w.1 16) nc (nI G) k = nI g
      intro k hk
      by_cases q : k = nc
      · rw [q, zu_s]; exact ⟨G, by omega, rfl⟩
      · rw [zu_n q]; exact hgr k (by omega)
theorem pr_spoil {u : XS} {w : MS} (h : Inv u w) (v : Int32) : wpX5_spoil u v (fun r1 u' => wpX6_spoil w v (fun r2 w' => r1 = r2 ∧ Inv u' w')) := by
  have hinv := h
  obtain ⟨nr, ns, nc, nl, wk, hsc, hr, hs, hh, hc, hl⟩ := h
  unfold wpX5_spoil wpX6_spoil
  simp only [e_out, e_in, z_b0, z_b1]
  by_cases c1 : v < 0 ∨ 100 < v
  · simp [c1, hinv]
  refine ⟨fun _ => ⟨fun _ => ⟨hsc.2.2.2.1, ?_⟩, fun q => absurd q c1⟩, fun q => absurd c1 q⟩
  exact ⟨nr, ns, nc, nl, wk, ⟨hsc.1, hsc.2.1, hsc.2.2.1, rfl, hsc.2.2.2.2.1, hsc.2.2.2.2.2.1, hsc.2.2.2.2.2.2⟩, hr, hs, hh, hc, hl⟩
theorem pr_ship {u : XS} {w : MS} (h : Inv u w) (k n : Int32) : wpX5_ship u k n (fun r1 u' => wpX6_ship w k n (fun r2 w' => r1 = r2 ∧ Inv u' w')) := by
  have hinv := h
  obtain ⟨nr, ns, nc, nl, wk, hsc, hr, hs, hh, hc, hl⟩ := h
  obtain ⟨e9, ez, h20, e0, e1, e2, e3, e4, e5, hz2, hgr⟩ := hc
  unfold wpX5_ship wpX6_ship
  simp only [e_has0, e_isC, e_out, e_in, z_b0, z_b1]
  rw [e9, ez, z_cnt (by omega)]
  by_cases c1 : k < 0 ∨ nI nc ≤ k
  · simp [c1, hinv]
  by_cases c2 : n < 1 ∨ 10000 < n
  · simp [c1, c2, hinv]
  obtain ⟨j, hj, rfl⟩ := z_ix (by omega) c1
  have hv : vp_in (nI j) 20 := vp_in_nI (by omega) (by omega)
  have cl : (nI j).toNatClampNeg = j := nI_clamp (by omega)
  rw [cl, e1, e3]
  refine ⟨fun q => absurd q c1, fun _ => ⟨fun _ => ⟨hv, fun c3 => ⟨fun q => absurd q c1, fun _ => ⟨fun _ => ⟨hv, fun _ => ⟨rfl, ?_⟩, fun q => absurd c3 q⟩, fun q => absurd q c2⟩⟩, fun c3 => ⟨fun q => absurd q c1, fun _ => ⟨fun _ => ⟨hv, fun q => absurd q c3, fun _ => ⟨by trivial, hinv⟩⟩, fun q => absurd q c2⟩⟩⟩, fun q => absurd c2 q⟩⟩
  refine ⟨nr, ns, nc, nl, wk, hsc, hr, hs, hh, ⟨e9, ez, h20, e0, rfl, e2, rfl, e4, e5, ?_, hgr⟩, hl⟩
  show ∀ i, nc ≤ i → w.1 18 i = 0 ∧ upd (w.1 19) j _ i = 0 ∧ w.1 20 i = 0
  intro i hi
  rw [zu_n (by omega)]
  exact hz2 i hi
theorem pr_unhang {u : XS} {w : MS} (h : Inv u w) (g : Int32) : wpX5_unhang u g (fun r1 u' => wpX6_unhang w g (fun r2 w' => r1 = r2 ∧ Inv u' w')) := by
  have hinv := h
  obtain ⟨nr, ns, nc, nl, wk, hsc, hr, hs, hh, hc, hl⟩ := h
  unfold wpX5_unhang wpX6_unhang
  simp only [e_nog, e_isg, z_b0, z_b1]
  by_cases c1 : g < 0 ∨ 2 < g
  · simp [c1, hinv]
  obtain ⟨G, hG, rfl⟩ := z_rg (M := 2) (by omega) c1
  have hv : vp_in (nI G) 3 := vp_in_nI (by omega) (by omega)
  have cl : (nI G).toNatClampNeg = G := nI_clamp (by omega)
  unfold wpX1_hangs wpX1_take
  rw [cl]
  rcases hh G (by omega) with ⟨q1, q2⟩ | ⟨j, low, h1, h2, h3, h4, h5, h6, h7, h9⟩
  · have c0 : u.2.2.1 2 G ≤ 0 := by rw [q2]; decide
    refine ⟨fun _ => ⟨hv, fun _ => ⟨fun q => absurd rfl q, fun _ => ⟨fun _ => ⟨hv, fun q => absurd q1 q, fun _ => ⟨by trivial, hinv⟩⟩, fun q => absurd q c1⟩⟩, fun q => absurd c0 q⟩, fun q => absurd c1 q⟩
  · have nm : ¬ w.1 13 G = -1 := by rw [h4]; exact zm1 (by omega)
    have c0 : ¬ u.2.2.1 2 G ≤ 0 := by rw [h7]; exact nI_nle (by omega) (by omega)
    refine ⟨fun _ => ⟨hv, fun q => absurd q c0, fun _ => ⟨fun _ => ⟨hv, fun _ => ⟨hv, fun _ => ⟨by trivial, ?_⟩, fun q => absurd q nm⟩, fun q => absurd q c1⟩, fun q => absurd q (by decide)⟩⟩, fun q => absurd c1 q⟩
    refine ⟨nr, ns, nc, nl, wk, hsc, hr, hs, ?_, hc, hl⟩
    intro i hi
    show (upd (w.1 13) G (-1) i = -1 ∧ upd (u.2.2.1 2) G 0 i = 0) ∨ (∃ j low, j < 3 ∧ 1 ≤ low ∧ low ≤ 100 ∧ upd (w.1 13) G (-1) i = nI j ∧ u.2.2.1 0 i = nI j ∧ u.2.2.1 1 i = w.1 14 i ∧ upd (u.2.2.1 2) G 0 i = nI low ∧ w.1 15 i = nI low)
    by_cases q : i = G
    · rw [q, zu_s, zu_s]; exact Or.inl ⟨rfl, rfl⟩
    · rw [zu_n q, zu_n q]; exact hh i hi
