/-! pairs: letOut, weeks -/
theorem pr_letOut {u : XS} {w : MS} (h : Inv u w) (k n : Int32) : wpX5_letOut u k n (fun r1 u' => wpX6_letOut w k n (fun r2 w' => r1 = r2 ∧ Inv u' w')) := by
  have hinv := h
  obtain ⟨nr, ns, nc, nl, wk, hI⟩ := h
  have hI0 := hI
  obtain ⟨hsc, hr, hs, hh, hc, hl⟩ := hI
  have hR := hr.ro hsc.2.2.1
  obtain ⟨sn, sz, s8, se0, se1, se2, se3, shz3, sst, srow⟩ := hs
  obtain ⟨e9, ez, h20, e0, e1, e2, e3, e4, e5, hz2, hgr⟩ := hc
  obtain ⟨ln, lz, l100, le0, le1, le2, lk⟩ := hl
  have hwk := hsc.2.2.1
  by_cases c1 : k < 0 ∨ nI nc ≤ k
  · unfold wpX5_letOut wpX6_letOut
    simp only [e_has0, e_isC, z_b0]
    rw [e9, ez, z_cnt (by omega)]
    simp [c1, hinv]
  by_cases c2 : n < 1 ∨ 10000 < n
  · unfold wpX5_letOut wpX6_letOut
    simp only [e_has0, e_isC, e_out, e_in, z_b0, z_b1]
    rw [e9, ez, z_cnt (by omega)]
    simp [c1, c2, hinv]
  obtain ⟨j, hj, rfl⟩ := z_ix (by omega) c1
  obtain ⟨g, hg, eg⟩ := hgr j hj
  have hv : vp_in (nI j) 20 := vp_in_nI (by omega) (by omega)
  have cl : (nI j).toNatClampNeg = j := nI_clamp (by omega)
  have cll : (nI nl).toNatClampNeg = nl := nI_clamp (by omega)
  obtain ⟨full, full2⟩ := z_full l100 (by omega)
  have ex : (100 : Int32) = nI 100 := rfl
  rw [← ex] at full full2
  have model : ∀ (r1 : Int64) (u' : XS), (w.1 17 j < n → r1 = -3 ∧ u' = u) → (n ≤ w.1 17 j → nl = 100 → r1 = -4 ∧ u' = u) →
      (n ≤ w.1 17 j → nl ≠ 100 → r1 = n.toInt64 * (zDt w ns nr g (nI wk) (nI wk) (-1) (-1)).toInt64 ∧ Inv u' (va_up (va_up (va_up (va_up (va_up w.1 17 (upd (w.1 17) j (w.1 17 j - n))) 18 (upd (w.1 18) j (w.1 18 j + n))) 22 (upd (w.1 22) nl (nI g))) 23 (upd (w.1 23) nl (nI wk))) 24 (upd (w.1 24) nl n), upd w.2.1 5 (nI (nl + 1)), w.2.2 + n.toInt64 * (zDt w ns nr g (nI wk) (nI wk) (-1) (-1)).toInt64)) →
      wpX6_letOut w (nI j) n (fun r2 w' => r1 = r2 ∧ Inv u' w') := by
    intro r1 u' a1 a2 a3
    unfold wpX6_letOut
    simp only [e_isC, e_in, z_b0]
    rw [ez, z_cnt (by omega), cl, lz, hsc.2.1]
    refine ⟨fun q => absurd q c1, fun _ => ⟨fun _ => ⟨hv, fun d1 => ⟨fun d2 => ?_, fun d2 => ?_⟩, fun d1 => ?_⟩, fun q => absurd q c2⟩⟩
    · have m100 : nl ≠ 100 := fun q => d2 (full2.mpr q)
      rw [eg]
      refine s_dutyAtM hR hr.2.1 s8 sz sst (Or.inl hsc.2.2.2.2.2.1) hh hg (nI wk) (by omega) ?_
      rw [hsc.2.2.2.2.1, hsc.2.2.2.2.2.1]
      obtain ⟨b1, b2⟩ := a3 d1 m100
      have hv2 : vp_in (nI nl) 100 := vp_in_nI (by omega) (by omega)
      intro w9 h9 w10 h10
      have a9 : w9.1 = va_up w.1 17 (upd (w.1 17) j (w.1 17 j - n)) := by rw [h9]
      have b9 : w9.2.1 = w.2.1 := by rw [h9]
      have c9 : w9.2.2 = w.2.2 := by rw [h9]
      have a10 : w10.1 = va_up (va_up w.1 17 (upd (w.1 17) j (w.1 17 j - n))) 18 (upd (w.1 18) j (w.1 18 j + n)) := by
        rw [h10]
        show va_up w9.1 18 (upd (w9.1 18) j (w9.1 18 j + n)) = _
        rw [a9, z_vn (show 18 ≠ 17 by decide)]
      have b10 : w10.2.1 = w.2.1 := by rw [h10]; exact b9
      have c10 : w10.2.2 = w.2.2 := by rw [h10]; exact c9
      have x16 : w10.1 16 = w.1 16 := by rw [a10, z_vn (show 16 ≠ 18 by decide), z_vn (show 16 ≠ 17 by decide)]
      have x22 : w10.1 22 = w.1 22 := by rw [a10, z_vn (show 22 ≠ 18 by decide), z_vn (show 22 ≠ 17 by decide)]
      rw [b10, x16, x22, lz, eg, cll]
      refine ⟨hv2, ?_⟩
      intro w12 h12
      have a12 : w12.1 = va_up w10.1 22 (upd (w.1 22) nl (nI g)) := by rw [h12]
      have b12 : w12.2.1 = w.2.1 := by rw [h12]
      have c12 : w12.2.2 = w.2.2 := by rw [h12]; exact c10
      have x23 : w12.1 23 = w.1 23 := by rw [a12, z_vn (show 23 ≠ 22 by decide), a10, z_vn (show 23 ≠ 18 by decide), z_vn (show 23 ≠ 17 by decide)]
      rw [b12, x23, lz, hsc.2.1, cll]
      refine ⟨hv2, ?_⟩
      intro w14 h14
      have a14 : w14.1 = va_up w12.1 23 (upd (w.1 23) nl (nI wk)) := by rw [h14]
      have b14 : w14.2.1 = w.2.1 := by rw [h14]
      have c14 : w14.2.2 = w.2.2 := by rw [h14]; exact c12
      have x24 : w14.1 24 = w.1 24 := by rw [a14, z_vn (show 24 ≠ 23 by decide), a12, z_vn (show 24 ≠ 22 by decide), a10, z_vn (show 24 ≠ 18 by decide), z_vn (show 24 ≠ 17 by decide)]
      rw [b14, x24, lz, cll]
      refine ⟨hv2, ?_⟩
      intro w16 h16
      have a16 : w16.1 = va_up w14.1 24 (upd (w.1 24) nl n) := by rw [h16]
      have b16 : w16.2.1 = w.2.1 := by rw [h16]
      have c16 : w16.2.2 = w.2.2 := by rw [h16]; exact c14
      rw [a16, b16, c16, a14, a12, a10, lz, nI_1]
      exact ⟨b1, b2⟩
    · obtain ⟨b1, b2⟩ := a2 d1 (full2.mp d2)
      exact ⟨b1, by rw [b2]; exact hinv⟩
    · obtain ⟨b1, b2⟩ := a1 (Int32.not_le.mp d1)
      exact ⟨b1, by rw [b2]; exact hinv⟩
  obtain ⟨post, hpost⟩ : ∃ post : Int64 → XS → Prop, post = (fun (r1 : Int64) (u' : XS) => wpX6_letOut w (nI j) n (fun r2 w' => r1 = r2 ∧ Inv u' w')) := ⟨_, rfl⟩
  rw [← hpost]
  have model' : ∀ (r1 : Int64) (u' : XS), (w.1 17 j < n → r1 = -3 ∧ u' = u) → (n ≤ w.1 17 j → nl = 100 → r1 = -4 ∧ u' = u) →
      (n ≤ w.1 17 j → nl ≠ 100 → r1 = n.toInt64 * (zDt w ns nr g (nI wk) (nI wk) (-1) (-1)).toInt64 ∧ Inv u' (va_up (va_up (va_up (va_up (va_up w.1 17 (upd (w.1 17) j (w.1 17 j - n))) 18 (upd (w.1 18) j (w.1 18 j + n))) 22 (upd (w.1 22) nl (nI g))) 23 (upd (w.1 23) nl (nI wk))) 24 (upd (w.1 24) nl n), upd w.2.1 5 (nI (nl + 1)), w.2.2 + n.toInt64 * (zDt w ns nr g (nI wk) (nI wk) (-1) (-1)).toInt64)) →
      post r1 u' := fun r1 u' a1 a2 a3 => by rw [hpost]; exact model r1 u' a1 a2 a3
  unfold wpX5_letOut
  simp only [e_has0, e_out, z_b0, z_b1]
  rw [e9, cl, e0, e1, eg, ln, hsc.1]
  refine ⟨fun q => absurd q c1, fun _ => ⟨fun _ => ⟨hv, fun d1 => ⟨fun d2 => ?_, fun d2 => ?_⟩, fun d1 => ?_⟩, fun q => absurd c2 q⟩⟩
  · have m100 : nl ≠ 100 := full.mp d2
    refine s_dutyAtX hI0 hg (-1) (Or.inl rfl) (by omega) ?_
    unfold wpX2_add
    rw [ln, cll, nI_1]
    refine ⟨vp_in_nI (by omega) (by omega), ?_⟩
    refine model' _ _ (fun q => absurd q (Int32.not_lt.mpr d1)) (fun _ q => absurd q m100) (fun _ _ => ⟨rfl, ?_⟩)
    refine ⟨nr, ns, nc, nl + 1, wk, ⟨hsc.1, hsc.2.1, hsc.2.2.1, hsc.2.2.2.1, hsc.2.2.2.2.1, hsc.2.2.2.2.2.1, ?_⟩, hr, ⟨sn, sz, s8, se0, se1, se2, se3, shz3, sst, srow⟩, hh, ⟨e9, ez, h20, e0, ?_, ?_, e3, e4, e5, ?_, hgr⟩, ⟨rfl, rfl, by omega, ?_, ?_, ?_, ?_⟩⟩
    · show u.2.2.2.2.2.2 + _ = w.2.2 + _
      rw [hsc.2.2.2.2.2.2]
    · rfl
    · show upd (u.2.2.2.1 2) j (u.2.2.2.1 2 j + n) = upd (w.1 18) j (w.1 18 j + n)
      rw [e2]
    · show ∀ i, nc ≤ i → upd (w.1 18) j (w.1 18 j + n) i = 0 ∧ w.1 19 i = 0 ∧ w.1 20 i = 0
      intro i hi
      rw [zu_n (by omega)]
      exact hz2 i hi
    · show upd (u.2.2.2.2.1 0) nl (nI g) = upd (w.1 22) nl (nI g)
      rw [le0]
    · show upd (u.2.2.2.2.1 1) nl n = upd (w.1 24) nl n
      rw [le1]
    · show upd (u.2.2.2.2.1 2) nl (nI wk) = upd (w.1 23) nl (nI wk)
      rw [le2]
    · show ∀ i, i < nl + 1 → (∃ g', g' < 3 ∧ upd (w.1 22) nl (nI g) i = nI g') ∧ (∃ v, v ≤ wk ∧ upd (w.1 23) nl (nI wk) i = nI v)
      intro i hi
      by_cases q : i = nl
      · rw [q, zu_s, zu_s]; exact ⟨⟨g, hg, rfl⟩, ⟨wk, Nat.le_refl _, rfl⟩⟩
      · rw [zu_n q, zu_n q]; exact lk i (by omega)
  · have m100 : nl = 100 := Decidable.byContradiction (fun q => d2 (full.mpr q))
    exact model' _ _ (fun q => absurd q (Int32.not_lt.mpr d1)) (fun _ _ => ⟨rfl, rfl⟩) (fun _ q => absurd m100 q)
  · exact model' _ _ (fun _ => ⟨rfl, rfl⟩) (fun q => absurd q d1) (fun q => absurd q d1)
/-! weeks -/
def zSb (sp : Int32) (b : Nat → Int32) : Nat → Nat → Int32
  | 0 => b
  | k + 1 => upd (zSb sp b k) k (zSb sp b k k - (zSb sp b k k * sp) / 1000)
def zSs (sp : Int32) (b s : Nat → Int32) : Nat → Nat → Int32
  | 0 => s
  | k + 1 => upd (zSs sp b s k) k (zSs sp b s k k + (zSb sp b k k * sp) / 1000)
theorem zSs_out {sp : Int32} {b s : Nat → Int32} {i : Nat} : ∀ k, k ≤ i → zSs sp b s k i = s i := by
  intro k
  induction k with
  | zero => intro _; rfl
  | succ k ih => intro h; unfold zSs; rw [zu_n (by omega)]; exact ih (by omega)
/-- what all cargoes' spoiling says of a state of the class -/
def zSpX (sp : Int32) (n : Nat) (a a' : RS) : Prop := a' 1 = zSb sp (a 1) n ∧ a' 4 = zSs sp (a 1) (a 4) n ∧ ∀ j, j ≠ 1 → j ≠ 4 → a' j = a j
theorem zSp_loop {a : RS} {n : Nat} (h20 : n ≤ 20) (hn : a 9 0 = nI n) (sp : Int32) (K : Int32 → RS → Prop) (hK : ∀ a', zSpX sp n a a' → K (nI n) a') :
    ∀ d k a', k + d = n → zSpX sp k a a' → wpX0_spoilAll_L2 sp K (d + 1) (nI k) a' := by
  intro d
  induction d with
  | zero =>
    intro k a' hk h
    obtain rfl : k = n := by omega
    rw [wpX0_spoilAll_L2, h.2.2 9 (by decide) (by decide), hn]
    exact ⟨fun _ => hK a' h, fun c => absurd (nI_le (Nat.le_refl k) (by omega)) c⟩
  | succ d ih =>
    intro k a' hk h
    rw [wpX0_spoilAll_L2, h.2.2 9 (by decide) (by decide), hn, nI_clamp (by omega), nI_1]
    refine ⟨fun c => absurd c (nI_ge (by omega) (by omega)), fun _ => ⟨vp_in_nI (by omega) (by omega), ?_⟩⟩
    unfold wpX0_lossOf
    refine ih (k + 1) _ (by omega) ⟨?_, ?_, fun j h1 h4 => ?_⟩
    · rw [z_vn (show 1 ≠ 4 by decide), z_vs, h.1]; rfl
    · rw [z_vs, h.2.1, h.1]; rfl
    · rw [z_vn h4, z_vn h1]; exact h.2.2 j h1 h4
def zSpM (n : Nat) (w w' : MS) : Prop := w'.1 17 = zSb (w.2.1 4) (w.1 17) n ∧ w'.1 20 = zSs (w.2.1 4) (w.1 17) (w.1 20) n ∧ (∀ j, j ≠ 17 → j ≠ 20 → w'.1 j = w.1 j) ∧ w'.2.1 = w.2.1 ∧ w'.2.2 = w.2.2
theorem z_two {A : RS} {F G o : Nat → Int32} {c : Int64} : ((va_up (va_up A 17 F) 20 G, o, c) : MS).1 17 = F := by
  show va_up (va_up A 17 F) 20 G 17 = F
  rw [z_vn (show 17 ≠ 20 by decide), z_vs]
theorem z_two2 {A : RS} {F G o : Nat → Int32} {c : Int64} : ((va_up (va_up A 17 F) 20 G, o, c) : MS).1 20 = G := by
  show va_up (va_up A 17 F) 20 G 20 = G
  rw [z_vs]
theorem z_two3 {A : RS} {F G o : Nat → Int32} {c : Int64} {j : Nat} (h1 : j ≠ 17) (h2 : j ≠ 20) : ((va_up (va_up A 17 F) 20 G, o, c) : MS).1 j = A j := by
  show va_up (va_up A 17 F) 20 G j = A j
  rw [z_vn h2, z_vn h1]
theorem zSm_loop {w : MS} {n : Nat} (h20 : n ≤ 20) (hn : w.2.1 3 = nI n) (K : Int32 → MS → Prop) (hK : ∀ w', zSpM n w w' → K (nI n) w') :
    ∀ d k w', k + d = n → zSpM k w w' → wpX6_weeks_L44 K (d + 1) (nI k) w' := by
  intro d
  induction d with
  | zero =>
    intro k w' hk h
    obtain rfl : k = n := by omega
    rw [wpX6_weeks_L44, h.2.2.2.1, hn]
    exact ⟨fun _ => hK w' h, fun c => absurd (nI_le (Nat.le_refl k) (by omega)) c⟩
  | succ d ih =>
    intro k w' hk h
    obtain ⟨h1, h2, h3, h4, h5⟩ := h
    rw [wpX6_weeks_L44, h4, hn, nI_clamp (by omega), nI_1]
    refine ⟨fun c => absurd c (nI_ge (by omega) (by omega)), fun _ => ⟨vp_in_nI (by omega) (by omega), ?_⟩⟩
    refine ih (k + 1) _ (by omega) ⟨?_, ?_, fun j i17 i20 => ?_, rfl, h5⟩
    · rw [z_two, h1]; rfl
    · rw [z_two2, h1, h2]; rfl
    · rw [z_two3 i17 i20]; exact h3 j i17 i20
/-- bond and spoilt after so many weeks -/
def zYb (sp : Int32) (n : Nat) (b : Nat → Int32) : Nat → Nat → Int32
  | 0 => b
  | d + 1 => zSb sp (zYb sp n b d) n
def zYs (sp : Int32) (n : Nat) (b s : Nat → Int32) : Nat → Nat → Int32
  | 0 => s
  | d + 1 => zSs sp (zYb sp n b d) (zYs sp n b s d) n
theorem zYs_out {sp : Int32} {n : Nat} {b s : Nat → Int32} {i : Nat} (h : n ≤ i) : ∀ d, zYs sp n b s d i = s i := by
  intro d
  induction d with
  | zero => rfl
  | succ d ih => unfold zYs; rw [zSs_out n h]; exact ih
def zYX (n wk : Nat) (u u' : XS) (i : Nat) : Prop := u'.1 = u.1 ∧ u'.2.1 = u.2.1 ∧ u'.2.2.1 = u.2.2.1 ∧ u'.2.2.2.1 1 = zYb (u.2.2.2.2.2.1 1) n (u.2.2.2.1 1) i ∧ u'.2.2.2.1 4 = zYs (u.2.2.2.2.2.1 1) n (u.2.2.2.1 1) (u.2.2.2.1 4) i ∧ (∀ j, j ≠ 1 → j ≠ 4 → u'.2.2.2.1 j = u.2.2.2.1 j) ∧ u'.2.2.2.2.1 = u.2.2.2.2.1 ∧ u'.2.2.2.2.2.1 0 = nI (wk + i) ∧ u'.2.2.2.2.2.1 1 = u.2.2.2.2.2.1 1 ∧ u'.2.2.2.2.2.2 = u.2.2.2.2.2.2
theorem zYX_loop {u : XS} {n wk N : Nat} (h20 : n ≤ 20) (hn : u.2.2.2.1 9 0 = nI n) (hN : N ≤ 200) (K : Int32 → XS → Prop) (hK : ∀ u', zYX n wk u u' N → K (nI N) u') :
    ∀ d i u', i + d = N → zYX n wk u u' i → wpX5_weeks_L27 (nI N) K (d + 1) (nI i) u' := by
  intro d
  induction d with
  | zero =>
    intro i u' hi h
    obtain rfl : i = N := by omega
    rw [wpX5_weeks_L27]
    exact ⟨fun _ => hK u' h, fun c => absurd (nI_le (Nat.le_refl i) (by omega)) c⟩
  | succ d ih =>
    intro i u' hi h
    obtain ⟨h1, h2, h3, h4, h5, h6, h7, h8, h9, h10⟩ := h
    rw [wpX5_weeks_L27, nI_1, h8, h9, nI_1]
    refine ⟨fun c => absurd c (nI_ge (by omega) (by omega)), fun _ => ?_⟩
    unfold wpX0_spoilAll
    have hn' : u'.2.2.2.1 9 0 = nI n := by rw [h6 9 (by decide) (by decide)]; exact hn
    refine ⟨n + 1, zSp_loop h20 hn' _ _ (fun a' ha => ?_) n 0 _ (by omega) ⟨rfl, rfl, fun _ _ _ => rfl⟩⟩
    refine ih (i + 1) _ (by omega) ⟨h1, h2, h3, ?_, ?_, fun j i1 i4 => ?_, h7, rfl, h9, h10⟩
    · show a' 1 = _
      rw [ha.1, h4]; rfl
    · show a' 4 = _
      rw [ha.2.1, h4, h5]; rfl
    · show a' j = _
      rw [ha.2.2 j i1 i4]; exact h6 j i1 i4
def zYM (n wk : Nat) (w w' : MS) (i : Nat) : Prop := w'.1 17 = zYb (w.2.1 4) n (w.1 17) i ∧ w'.1 20 = zYs (w.2.1 4) n (w.1 17) (w.1 20) i ∧ (∀ j, j ≠ 17 → j ≠ 20 → w'.1 j = w.1 j) ∧ w'.2.1 0 = nI (wk + i) ∧ (∀ j, j ≠ 0 → w'.2.1 j = w.2.1 j) ∧ w'.2.2 = w.2.2
theorem zYM_loop {w : MS} {n wk N : Nat} (h20 : n ≤ 20) (hn : w.2.1 3 = nI n) (hN : N ≤ 200) (K : Int32 → MS → Prop) (hK : ∀ w', zYM n wk w w' N → K (nI N) w') :
    ∀ d i w', i + d = N → zYM n wk w w' i → wpX6_weeks_L27 (nI N) K (d + 1) (nI i) w' := by
  intro d
  induction d with
  | zero =>
    intro i w' hi h
    obtain rfl : i = N := by omega
    rw [wpX6_weeks_L27]
    exact ⟨fun _ => hK w' h, fun c => absurd (nI_le (Nat.le_refl i) (by omega)) c⟩
  | succ d ih =>
    intro i w' hi h
    obtain ⟨h1, h2, h3, h4, h5, h6⟩ := h
    rw [wpX6_weeks_L27, nI_1, h4, nI_1]
    refine ⟨fun c => absurd c (nI_ge (by omega) (by omega)), fun _ => ⟨n + 1, ?_⟩⟩
    have hn' : (upd w'.2.1 0 (nI (wk + i + 1))) 3 = nI n := by rw [zu_n (by decide), h5 3 (by decide)]; exact hn
    have hsp : (upd w'.2.1 0 (nI (wk + i + 1))) 4 = w.2.1 4 := by rw [zu_n (by decide)]; exact h5 4 (by decide)
    refine zSm_loop (w := (w'.1, upd w'.2.1 0 (nI (wk + i + 1)), w'.2.2)) h20 hn' _ (fun w2 hw => ?_) n 0 _ (by omega) ⟨rfl, rfl, fun _ _ _ => rfl, rfl, rfl⟩
    obtain ⟨k1, k2, k3, k4, k5⟩ := hw
    refine ih (i + 1) w2 (by omega) ⟨?_, ?_, fun j i17 i20 => ?_, ?_, fun j i0 => ?_, ?_⟩
    · rw [k1]
      show zSb ((upd w'.2.1 0 (nI (wk + i + 1))) 4) (w'.1 17) n = _
      rw [hsp, h1]; rfl
    · rw [k2]
      show zSs ((upd w'.2.1 0 (nI (wk + i + 1))) 4) (w'.1 17) (w'.1 20) n = _
      rw [hsp, h1, h2]; rfl
    · rw [k3 j i17 i20]; exact h3 j i17 i20
    · rw [k4]; exact (zu_s : upd w'.2.1 0 (nI (wk + i + 1)) 0 = _)
    · rw [k4]
      exact (zu_n i0).trans (h5 j i0)
    · rw [k5]; exact h6
theorem pr_weeks {u : XS} {w : MS} (h : Inv u w) (n : Int32) : wpX5_weeks u n (fun r1 u' => wpX6_weeks w n (fun r2 w' => r1 = r2 ∧ Inv u' w')) := by
  have hinv := h
  obtain ⟨nr, ns, nc, nl, wk, hI⟩ := h
  have hI0 := hI
  obtain ⟨hsc, hr, hs, hh, hc, hl⟩ := hI
  have hwk := hsc.2.2.1
  by_cases c1 : n < 1 ∨ 20 < n
  · unfold wpX5_weeks wpX6_weeks
    simp only [e_out, e_in, z_b0, z_b1]
    simp [c1, hinv]
  obtain ⟨N, hN1, hN2, rfl⟩ := z_rgl (L := 1) (M := 20) (by omega) (by omega) c1
  have e200 : (200 : Int32) = nI 200 := rfl
  have le : (nI wk + nI N ≤ 200) ↔ wk + N ≤ 200 := by
    rw [nI_add, e200, nI_leI (by omega) (by omega)]
  by_cases c2 : wk + N ≤ 200
  · unfold wpX5_weeks
    rw [e_out, hsc.1]
    refine ⟨fun q => absurd q (fun q => q (if_neg c1)), fun _ => ⟨fun _ => ⟨N + 1, ?_⟩, fun q => absurd (le.mpr c2) q⟩⟩
    refine zYX_loop (wk := wk) hc.2.2.1 hc.1 (by omega) _ (fun u' hu => ?_) N 0 u (by omega) ⟨rfl, rfl, rfl, rfl, rfl, fun _ _ _ => rfl, rfl, hsc.1, rfl, rfl⟩
    show wpX6_weeks w (nI N) _
    unfold wpX6_weeks
    rw [e_in, hsc.2.1]
    refine ⟨fun q => absurd (z_b0.mp q) c1, fun _ => ⟨fun _ => ⟨N + 1, ?_⟩, fun q => absurd (le.mpr c2) q⟩⟩
    refine zYM_loop (wk := wk) hc.2.2.1 hc.2.1 (by omega) _ (fun w' hw => ?_) N 0 w (by omega) ⟨rfl, rfl, fun _ _ _ => rfl, hsc.2.1, fun _ _ => rfl, rfl⟩
    obtain ⟨a1, a2, a3, a4, a5, a6, a7, a8, a9, a10⟩ := hu
    obtain ⟨b1, b2, b3, b4, b5, b6⟩ := hw
    show u'.2.2.2.2.2.1 0 = w'.2.1 0 ∧ Inv u' w'
    refine ⟨by rw [a8, b4], nr, ns, nc, nl, wk + N, ?_, ?_, ?_, ?_, ?_, ?_⟩
    · refine ⟨a8, b4, c2, ?_, ?_, ?_, ?_⟩
      · rw [a9, b5 4 (by decide)]; exact hsc.2.2.2.1
      · rw [b5 6 (by decide)]; exact hsc.2.2.2.2.1
      · rw [b5 7 (by decide)]; exact hsc.2.2.2.2.2.1
      · rw [a10, b6]; exact hsc.2.2.2.2.2.2
    · rw [a1, b3 0 (by decide) (by decide), b3 1 (by decide) (by decide), b3 2 (by decide) (by decide), b3 3 (by decide) (by decide), b3 4 (by decide) (by decide), b3 5 (by decide) (by decide), b3 6 (by decide) (by decide), b5 1 (by decide)]
      obtain ⟨d1, d2, d3, d4, d5, d6, d7, d8, d9, d10, d11⟩ := hr
      refine ⟨d1, d2, d3, d4, d5, d6, d7, d8, d9, d10, fun k hk => ?_⟩
      obtain ⟨f0, ⟨v, hv, ev⟩, f2, f3, ⟨s, hs', es⟩, f5⟩ := d11 k hk
      refine ⟨f0, ⟨v, by omega, ev⟩, f2, f3, ⟨s, by omega, es⟩, ?_⟩
      rcases f5 with q | ⟨s2, hs2, es2⟩
      · exact Or.inl q
      · exact Or.inr ⟨s2, by omega, es2⟩
    · rw [a2, b3 7 (by decide) (by decide), b3 8 (by decide) (by decide), b3 9 (by decide) (by decide), b3 10 (by decide) (by decide), b3 11 (by decide) (by decide), b3 12 (by decide) (by decide), b5 2 (by decide)]
      exact hs
    · rw [a3, b3 13 (by decide) (by decide), b3 14 (by decide) (by decide), b3 15 (by decide) (by decide)]
      exact hh
    · obtain ⟨d1, d2, d3, e0, e1, e2, e3, e4, e5, hz2, hgr⟩ := hc
      rw [b3 16 (by decide) (by decide), b1, b3 18 (by decide) (by decide), b3 19 (by decide) (by decide), b2, b3 21 (by decide) (by decide), b5 3 (by decide)]
      refine ⟨?_, d2, d3, ?_, ?_, ?_, ?_, ?_, ?_, fun k hk => ?_, hgr⟩
      · rw [a6 9 (by decide) (by decide)]; exact d1
      · rw [a6 0 (by decide) (by decide)]; exact e0
      · rw [a4, e1, hsc.2.2.2.1]
      · rw [a6 2 (by decide) (by decide)]; exact e2
      · rw [a6 3 (by decide) (by decide)]; exact e3
      · rw [a5, e1, e4, hsc.2.2.2.1]
      · rw [a6 5 (by decide) (by decide)]; exact e5
      · obtain ⟨z1, z2, z3⟩ := hz2 k hk
        exact ⟨z1, z2, by rw [zYs_out hk]; exact z3⟩
    · rw [a7, b3 22 (by decide) (by decide), b3 23 (by decide) (by decide), b3 24 (by decide) (by decide), b5 5 (by decide)]
      obtain ⟨d1, d2, d3, d4, d5, d6, d7⟩ := hl
      refine ⟨d1, d2, d3, d4, d5, d6, fun k hk => ?_⟩
      obtain ⟨f1, ⟨v, hv, ev⟩⟩ := d7 k hk
      exact ⟨f1, ⟨v, by omega, ev⟩⟩
  · unfold wpX5_weeks
    rw [e_out, hsc.1]
    refine ⟨fun q => absurd q (fun q => q (if_neg c1)), fun _ => ⟨fun q => absurd (le.mp q) c2, fun _ => ?_⟩⟩
    show wpX6_weeks w (nI N) _
    unfold wpX6_weeks
    rw [e_in, hsc.2.1]
    exact ⟨fun q => absurd (z_b0.mp q) c1, fun _ => ⟨fun q => absurd (le.mp q) c2, fun _ => ⟨rfl, hinv⟩⟩⟩
