/-! pairs: both sides at one call, the calls that change nothing -/
theorem zm1 : ∀ {k : Nat}, k < 2 ^ 31 → ¬ nI k = (-1 : Int32) := fun hk q => nI_pos hk (by rw [q]; decide)
theorem pr_sold {u : XS} {w : MS} (h : Inv u w) (k v : Int32) : wpX5_sold u k v (fun r1 => wpX6_sold w k v (fun r2 => r1 = r2)) := by
  obtain ⟨nr, ns, nc, nl, wk, hsc, hr, -⟩ := h
  obtain ⟨e9, ez, e0, e1, e2, e3, e4, e5, e6, h60, -⟩ := hr
  unfold wpX5_sold wpX6_sold
  rw [e_has3, z_b0, e9]
  simp only [e_in, z_b0]
  rw [ez, z_cnt (by omega), e0, e1, e2, e3, e4, e5, e6]
  by_cases c : k < 0 ∨ nI nr ≤ k
  · exact ⟨fun q => absurd c q, fun _ => ⟨fun q => absurd c q, fun _ => by trivial⟩⟩
  · obtain ⟨j, hj, rfl⟩ := z_ix (by omega) c
    have hv : vp_in (nI j) 60 := vp_in_nI (by omega) (by omega)
    refine ⟨fun _ => ?_, fun q => absurd q c⟩
    have nn : ∀ (a b : Int32), a ≠ b → ¬ a = b := fun _ _ h => h
    refine ⟨fun o => ⟨fun _ => ⟨fun _ => by trivial, ?_⟩, fun q => absurd q c⟩, ?_⟩
    · refine ⟨?_, ?_, ?_, ?_, ?_, ?_, ?_⟩ <;> (rintro rfl; exact absurd o (by decide))
    · refine ⟨?_, ?_, ?_, ?_, ?_, ?_, ?_⟩ <;> (rintro rfl; refine ⟨hv, ⟨fun _ => ⟨fun o => absurd o (by decide), ?_⟩, fun q => absurd q c⟩⟩; refine ⟨?_, ?_, ?_, ?_, ?_, ?_, ?_⟩ <;> (intro q; first | exact absurd q (by decide) | exact ⟨hv, rfl⟩))
theorem pr_weekly {u : XS} {w : MS} (h : Inv u w) (g v t : Int32) : wpX5_weekly u g v t (fun r1 => wpX6_weekly w g v t (fun r2 => r1 = r2)) := by
  obtain ⟨nr, ns, nc, nl, wk, hsc, hr, -⟩ := h
  have hR := hr.ro hsc.2.2.1
  have hRa := hr.roa hsc.2.2.1
  have hwi := hr.wi
  unfold wpX5_weekly wpX6_weekly
  simp only [e_nog, e_out, e_isg, e_in, z_b0, z_b1]
  by_cases c1 : g < 0 ∨ 2 < g
  · simp [c1]
  by_cases c2 : v < 0 ∨ 200 < v
  · simp [c1, c2]
  by_cases c3 : t < 0 ∨ 200 < t
  · simp [c1, c2, c3]
  refine ⟨fun q => absurd c1 q, fun _ => ⟨fun q => absurd c2 q, fun _ => ⟨fun _ => ?_, fun q => absurd c3 q⟩⟩⟩
  have hv : v ≤ 300 := by
    have := Int32.not_lt.mp (fun q => c2 (Or.inr q))
    have := Int32.le_iff_toInt_le.mp this
    refine Int32.le_iff_toInt_le.mpr ?_
    have e2 : (200 : Int32).toInt = 200 := by decide
    have e3 : (300 : Int32).toInt = 300 := by decide
    omega
  refine s_weeklyKnown hRa hr.1 g v t (-1) hv ?_
  refine ⟨fun q => absurd q c1, fun _ => ⟨fun q => absurd q c2, fun _ => ⟨fun q => absurd q c3, fun _ => ?_⟩⟩⟩
  refine s_weeklyAt hR hr.2.1 g v t hv ?_
  rw [hwi, hsc.2.2.2.2.1]
theorem pr_average {u : XS} {w : MS} (h : Inv u w) (g t : Int32) : wpX5_average u g t (fun r1 => wpX6_average w g t (fun r2 => r1 = r2)) := by
  obtain ⟨nr, ns, nc, nl, wk, hsc, hr, -⟩ := h
  have hR := hr.ro hsc.2.2.1
  have hRa := hr.roa hsc.2.2.1
  have hwi := hr.wi
  unfold wpX5_average wpX6_average
  simp only [e_nog, e_out, e_isg, e_in, z_b0, z_b1]
  by_cases c1 : g < 0 ∨ 2 < g
  · simp [c1]
  by_cases c2 : t < 0 ∨ 220 < t
  · simp [c1, c2]
  refine ⟨fun q => absurd c1 q, fun _ => ⟨fun _ => ?_, fun q => absurd c2 q⟩⟩
  obtain ⟨T, hT, rfl⟩ := z_rg (M := 220) (by omega) c2
  refine s_averageKnown hRa hr.1 g (-1) (by omega) ?_
  refine ⟨fun q => absurd q c1, fun _ => ⟨fun q => absurd q c2, fun _ => ?_⟩⟩
  refine s_averageAt hR hr.2.1 g (nI T) (by omega) ?_
  rw [hwi, hsc.2.2.2.2.1]
theorem zT_congr {a b : RS} {w t : Int32} (h0 : a 0 = b 0) (h2 : a 2 = b 2) (h5 : a 5 = b 5) (h6 : a 6 = b 6) : ∀ k, zT a w t k = zT b w t k := by
  intro k
  induction k with
  | zero => rfl
  | succ k ih => unfold zT KN; rw [ih, h0, h2, h5, h6]
theorem pr_towns {u : XS} {w : MS} (h : Inv u w) (v t : Int32) : wpX5_towns u v t (fun r1 => wpX6_towns w v t (fun r2 => r1 = r2)) := by
  obtain ⟨nr, ns, nc, nl, wk, hsc, hr, -⟩ := h
  obtain ⟨e9, ez, e0, e1, e2, e3, e4, e5, e6, h60, hk⟩ := hr
  unfold wpX5_towns wpX6_towns
  simp only [e_out, e_in, z_b0, z_b1]
  by_cases c1 : v < 0 ∨ 200 < v
  · simp [c1]
  by_cases c2 : t < 0 ∨ 200 < t
  · simp [c1, c2]
  refine ⟨fun q => absurd c1 q, fun _ => ⟨fun _ => ?_, fun q => absurd c2 q⟩⟩
  unfold wpX3_townsKnown
  refine ⟨nr + 1, zTk_loop h60 e9 v t _ ?_ nr 0 (by omega)⟩
  show wpJ6_bitCount_0f7a4 _ _
  rw [e_bc, zT_congr e0 e2 e5 e6]
  refine ⟨fun q => absurd q c1, fun _ => ⟨fun _ => ⟨nr + 1, zTa_loop h60 ez hsc.2.2.2.2.1 v t _ ⟨11, zBS_loop _ _ ?_ 10 0 rfl⟩ nr 0 (by omega)⟩, fun q => absurd q c2⟩⟩
  obtain ⟨X, hX, eX⟩ := zT_small (a := w.1) (w := v) (t := t) (n := nr) (fun k hk' => (hk k hk').1) nr (Nat.le_refl _)
  show zBC _ = zBS _ 10
  rw [eX]
  exact zBC_eq hX
theorem pr_force {u : XS} {w : MS} (h : Inv u w) (g t : Int32) : wpX5_force u g t (fun r1 => wpX6_force w g t (fun r2 => r1 = r2)) := by
  obtain ⟨nr, ns, nc, nl, wk, hsc, hr, hs, -⟩ := h
  obtain ⟨hn, hz, h8, e0, e1, e2, e3, hz3, hst, hrow⟩ := hs
  unfold wpX5_force wpX6_force
  simp only [e_nog, e_out, e_isg, e_in, z_b0, z_b1]
  by_cases c1 : g < 0 ∨ 2 < g
  · simp [c1]
  by_cases c2 : t < 0 ∨ 220 < t
  · simp [c1, c2]
  refine ⟨fun q => absurd c1 q, fun _ => ⟨fun _ => ?_, fun q => absurd c2 q⟩⟩
  refine s_inForce h8 hn g t ?_
  refine ⟨fun q => absurd q c1, fun _ => ⟨fun q => absurd q c2, fun _ => ?_⟩⟩
  refine s_forceAt h8 hz g t ?_
  rw [e0, e1, e3]
theorem pr_duty {u : XS} {w : MS} (h : Inv u w) (g t : Int32) : wpX5_duty u g t (fun r1 => wpX6_duty w g t (fun r2 => r1 = r2)) := by
  obtain ⟨nr, ns, nc, nl, wk, hI⟩ := h
  have hI0 := hI
  obtain ⟨hsc, hr, hs, hh, -, -⟩ := hI
  have hR := hr.ro hsc.2.2.1
  obtain ⟨hn, hz, h8, e0, e1, e2, e3, hz3, hst, hrow⟩ := hs
  unfold wpX5_duty wpX6_duty
  simp only [e_nog, e_out, e_isg, e_in, z_b0, z_b1]
  by_cases c1 : g < 0 ∨ 2 < g
  · simp [c1]
  by_cases c2 : t < 0 ∨ 220 < t
  · simp [c1, c2]
  refine ⟨fun q => absurd c1 q, fun _ => ⟨fun _ => ?_, fun q => absurd c2 q⟩⟩
  obtain ⟨T, hT, rfl⟩ := z_rg (M := 220) (by omega) c2
  obtain ⟨G, hG, rfl⟩ := z_rg (M := 2) (by omega) c1
  refine s_dutyAtX hI0 (by omega) (-1) (Or.inl rfl) (by omega) ?_
  refine ⟨fun q => absurd q c1, fun _ => ⟨fun q => absurd q c2, fun _ => ?_⟩⟩
  refine s_dutyAtM hR hr.2.1 h8 hz hst (Or.inl hsc.2.2.2.2.2.1) hh (by omega) (nI T) (by omega) ?_
  rw [hsc.2.2.2.2.1, hsc.2.2.2.2.2.1]
theorem pr_bond {u : XS} {w : MS} (h : Inv u w) (k v : Int32) : wpX5_bond u k v (fun r1 => wpX6_bond w k v (fun r2 => r1 = r2)) := by
  obtain ⟨nr, ns, nc, nl, wk, hsc, hr, hs, hh, hc, hl⟩ := h
  obtain ⟨hn, hz, h20, e0, e1, e2, e3, e4, e5, -⟩ := hc
  unfold wpX5_bond wpX6_bond
  rw [e_has0, z_b0, hn]
  simp only [e_isC, z_b0]
  rw [hz, z_cnt (by omega), e0, e1, e2, e3, e4, e5]
  by_cases c : k < 0 ∨ nI nc ≤ k
  · exact ⟨fun q => absurd c q, fun _ => ⟨fun q => absurd c q, fun _ => by trivial⟩⟩
  · obtain ⟨j, hj, rfl⟩ := z_ix (by omega) c
    have hv : vp_in (nI j) 20 := vp_in_nI (by omega) (by omega)
    refine ⟨fun _ => ?_, fun q => absurd q c⟩
    refine ⟨fun o => ⟨fun _ => ⟨fun _ => by trivial, ?_⟩, fun q => absurd q c⟩, ?_⟩
    · refine ⟨?_, ?_, ?_, ?_, ?_, ?_⟩ <;> (rintro rfl; exact absurd o (by decide))
    · refine ⟨?_, ?_, ?_, ?_, ?_, ?_⟩ <;> (rintro rfl; refine ⟨hv, ⟨fun _ => ⟨fun o => absurd o (by decide), ?_⟩, fun q => absurd q c⟩⟩; refine ⟨?_, ?_, ?_, ?_, ?_, ?_⟩ <;> (intro q; first | exact absurd q (by decide) | exact ⟨hv, rfl⟩))
theorem pr_chest {u : XS} {w : MS} (h : Inv u w) : wpX5_chest u (fun r1 => wpX6_chest w (fun r2 => r1 = r2)) := by
  obtain ⟨nr, ns, nc, nl, wk, hsc, -⟩ := h
  unfold wpX5_chest wpX6_chest
  exact hsc.2.2.2.2.2.2
/-- how many are struck: of n -/
def zSt (st : Nat → Int32) : Nat → Int32
  | 0 => 0
  | k + 1 => if st k = -1 then zSt st k else zSt st k + 1
theorem zStk_loop {a : RS} {n : Nat} (h60 : n ≤ 60) (hn : a 9 0 = nI n) (K : Int32 → Int32 → Prop) (hK : K (nI n) (zSt (a 6) n)) :
    ∀ d k, k + d = n → wpX3_struckOnes_L4 a K (d + 1) (nI k) (zSt (a 6) k) := by
  intro d
  induction d with
  | zero =>
    intro k hk
    obtain rfl : k = n := by omega
    rw [wpX3_struckOnes_L4, hn]
    exact ⟨fun _ => hK, fun c => absurd (nI_le (Nat.le_refl k) (by omega)) c⟩
  | succ d ih =>
    intro k hk
    have go := ih (k + 1) (by omega)
    unfold zSt at go
    rw [wpX3_struckOnes_L4, hn, nI_clamp (by omega), nI_1]
    refine ⟨fun c => absurd c (nI_ge (by omega) (by omega)), fun _ => ⟨vp_in_nI (by omega) (by omega), fun c => ?_, fun c => ?_⟩⟩
    · rw [if_pos c] at go; exact go
    · rw [if_neg c] at go; exact go
theorem z_add0 (x : Int32) : x + 0 = x := Int32.add_zero x
theorem zSta_loop {w : MS} {n : Nat} (h60 : n ≤ 60) (hn : w.2.1 1 = nI n) (K : Int32 → Int32 → Prop) (hK : K (nI n) (zSt (w.1 6) n)) :
    ∀ d k, k + d = n → wpX6_count_L52 w K (d + 1) (nI k) (zSt (w.1 6) k) := by
  intro d
  induction d with
  | zero =>
    intro k hk
    obtain rfl : k = n := by omega
    rw [wpX6_count_L52, hn]
    exact ⟨fun _ => hK, fun c => absurd (nI_le (Nat.le_refl k) (by omega)) c⟩
  | succ d ih =>
    intro k hk
    have go := ih (k + 1) (by omega)
    unfold zSt at go
    rw [wpX6_count_L52, hn, nI_clamp (by omega), nI_1, z_add0]
    refine ⟨fun c => absurd c (nI_ge (by omega) (by omega)), fun _ => ⟨vp_in_nI (by omega) (by omega), fun c => ?_, fun c => ?_⟩⟩
    · rw [if_pos c] at go; exact go
    · rw [if_neg c] at go; exact go
theorem pr_count {u : XS} {w : MS} (h : Inv u w) (v : Int32) : wpX5_count u v (fun r1 => wpX6_count w v (fun r2 => r1 = r2)) := by
  obtain ⟨nr, ns, nc, nl, wk, hsc, hr, hs, hh, hc, hl⟩ := h
  have one : ∀ (r1 : Int32), (v.toInt < 0 ∨ 5 < v.toInt → r1 = -2) → (v = 0 → r1 = nI wk) → (v = 1 → r1 = nI nr) → (v = 2 → r1 = zSt (w.1 6) nr) → (v = 3 → r1 = nI ns) → (v = 4 → r1 = nI nc) → (v = 5 → r1 = nI nl) → wpX6_count w v (fun r2 => r1 = r2) := fun r1 a b c d e f g => by
    unfold wpX6_count
    rw [hsc.2.1, hr.2.1, hs.2.1, hc.2.1, hl.2.1]
    exact ⟨a, b, c, fun q => ⟨nr + 1, zSta_loop hr.2.2.2.2.2.2.2.2.2.1 hr.2.1 _ (d q) nr 0 (by omega)⟩, e, f, g⟩
  have e6 := hr.2.2.2.2.2.2.2.2.1
  unfold wpX5_count
  rw [hsc.1, hr.1, hs.1, hc.1, hl.1]
  refine ⟨fun o => one _ (fun _ => rfl) ?_ ?_ ?_ ?_ ?_ ?_, fun o => one _ (fun q => ?_) (fun _ => rfl) ?_ ?_ ?_ ?_ ?_, fun o => one _ (fun q => ?_) ?_ (fun _ => rfl) ?_ ?_ ?_ ?_, fun o => ?_, fun o => one _ (fun q => ?_) ?_ ?_ ?_ (fun _ => rfl) ?_ ?_, fun o => one _ (fun q => ?_) ?_ ?_ ?_ ?_ (fun _ => rfl) ?_, fun o => one _ (fun q => ?_) ?_ ?_ ?_ ?_ ?_ (fun _ => rfl)⟩
  case refine_19 =>
    unfold wpX3_struckOnes
    refine ⟨nr + 1, zStk_loop hr.2.2.2.2.2.2.2.2.2.1 hr.1 _ (one _ (fun q => ?_) ?_ ?_ (fun _ => by rw [e6]) ?_ ?_ ?_) nr 0 (by omega)⟩
    all_goals first | (subst o; exact absurd q (by decide)) | (intro q; rw [q] at o; exact absurd o (by decide))
  all_goals first | (subst o; exact absurd q (by decide)) | (intro q; rw [q] at o; exact absurd o (by decide))
