/-! pairs: step, letOut, weeks -/
theorem z_ltm1 {p : Int32} (h : ¬ (p < 0 ∨ 2000 < p)) : -1 < p := by
  obtain ⟨P, hP, rfl⟩ := z_rg (M := 2000) (by omega) h
  rw [Int32.lt_iff_toInt_lt, nI_toInt (by omega)]
  have e : (-1 : Int32).toInt = -1 := by decide
  omega
/-- a step more: what the state is then -/
theorem Is.addStep {s s' : RS} {m7 m8 m9 m10 m11 m12 : Nat → Int32} {z : Int32} {n j m : Nat} {p d : Int32} (h : Is s m7 m8 m9 m10 m11 m12 z n) (hj : j < n) (hm : m < 8) (em : m10 j = nI m)
    (h9 : s' 9 = s 9) (h0 : s' 0 = s 0) (h1 : s' 1 = s 1) (h2 : s' 2 = s 2) (h3 : s' 3 = upd (s 3) j (nI (m + 1))) (hr1 : ∀ k, k < 8 → s' (10 + k) = if k = j then upd (s (10 + j)) m p else s (10 + k)) (hr2 : ∀ k, k < 8 → s' (20 + k) = if k = j then upd (s (20 + j)) m d else s (20 + k)) :
    Is s' m7 m8 m9 (upd m10 j (nI (m + 1))) (upd m11 (8 * j + m) p) (upd m12 (8 * j + m) d) z n := by
  obtain ⟨a1, a2, h8, e0, e1, e2, e3, hz3, hst, hrow⟩ := h
  refine ⟨by rw [h9]; exact a1, a2, h8, by rw [h0]; exact e0, by rw [h1]; exact e1, by rw [h2]; exact e2, by rw [h3, e3], fun k hk => ?_, fun k hk => ?_, fun k i hk hi => ?_⟩
  · rw [zu_n (by omega)]; exact hz3 k hk
  · by_cases q : k = j
    · rw [q, zu_s]; exact ⟨m + 1, by omega, rfl⟩
    · rw [zu_n q]; exact hst k hk
  · rw [hr1 k hk, hr2 k hk]
    by_cases q : k = j
    · rw [if_pos q, if_pos q, q]
      by_cases q2 : i = m
      · rw [q2, zu_s, zu_s, zu_s, zu_s]; exact ⟨rfl, rfl⟩
      · rw [zu_n q2, zu_n q2, zu_n (by omega), zu_n (by omega)]
        exact hrow j i (by omega) hi
    · rw [if_neg q, if_neg q, zu_n (by omega), zu_n (by omega)]
      exact hrow k i hk hi
theorem s_lastPrice {a : RS} {j m : Nat} (hj : j < 8) (hm : m ≤ 8) (em : a 3 j = nI m) {post : Int32 → Prop} (h : post (if m = 0 then (-1 : Int32) else a (10 + j) (m - 1))) : wpX4_lastPrice a (nI j) post := by
  unfold wpX4_lastPrice
  rw [nI_clamp (by omega), em]
  refine ⟨vp_in_nI hj (by omega), fun c => ?_, fun c => ?_⟩
  · have m1 : m ≠ 0 := fun q => c (by rw [q]; rfl)
    have e : nI m - 1 = nI (m - 1) := by
      have : m = m - 1 + 1 := by omega
      rw [this, nI_pred]; rfl
    rw [if_neg m1] at h
    rw [e, nI_clamp (by omega)]
    exact ⟨vp_in_nI (by omega) (by omega), h⟩
  · have m0 : m = 0 := (nI_eq (by omega) (by omega)).mp (show nI m = nI 0 from c)
    rw [if_pos m0] at h
    exact h
theorem s_isSettled {a : RS} {j : Nat} (hj : j < 8) {t : Int32} {post : Int32 → Prop} (h : post (if a 1 j ≤ t ∧ a 2 j ≠ t then 1 else 0)) : wpX4_isSettled a (nI j) t post := by
  unfold wpX4_isSettled
  rw [nI_clamp (by omega)]
  refine ⟨vp_in_nI hj (by omega), fun c => ?_, fun c => ⟨fun c2 => ?_, fun c2 => ?_⟩⟩
  · rw [if_neg (fun q => Int32.not_le.mpr c q.1)] at h; exact h
  · rw [if_neg (fun q => q.2 c2)] at h; exact h
  · rw [if_pos ⟨Int32.not_lt.mp c, c2⟩] at h; exact h
theorem s_addStep {a : RS} {j m : Nat} (hj : j < 8) (hm : m < 8) (em : a 3 j = nI m) (p d : Int32) {post : Int32 → RS → Prop}
    (h : ∀ s' : RS, s' 9 = a 9 → s' 0 = a 0 → s' 1 = a 1 → s' 2 = a 2 → s' 3 = upd (a 3) j (nI (m + 1)) → (∀ k, k < 8 → s' (10 + k) = if k = j then upd (a (10 + j)) m p else a (10 + k)) → (∀ k, k < 8 → s' (20 + k) = if k = j then upd (a (20 + j)) m d else a (20 + k)) → post (nI (m + 1)) s') : wpX4_addStep a (nI j) p d post := by
  unfold wpX4_addStep
  have hv : vp_in (nI j) 8 := vp_in_nI hj (by omega)
  have hvm : vp_in (nI m) 8 := vp_in_nI hm (by omega)
  have clm : (nI m).toNatClampNeg = m := nI_clamp (by omega)
  rw [nI_clamp (by omega), em, clm]
  refine ⟨hv, hvm, ?_⟩
  rintro a3 rfl
  have y3 : va_up a (10 + j) (upd (a (10 + j)) m p) 3 j = nI m := by
    rw [z_vn (show 3 ≠ 10 + j by omega)]; exact em
  rw [y3, clm]
  refine ⟨hvm, ?_⟩
  rintro a5 rfl
  have y20 : va_up a (10 + j) (upd (a (10 + j)) m p) (20 + j) = a (20 + j) := z_vn (by omega)
  rw [y20]
  have y5 : va_up (va_up a (10 + j) (upd (a (10 + j)) m p)) (20 + j) (upd (a (20 + j)) m d) 3 = a 3 := by
    rw [z_vn (show 3 ≠ 20 + j by omega), z_vn (show 3 ≠ 10 + j by omega)]
  rw [y5, zu_s, em, nI_1]
  refine h _ ?_ ?_ ?_ ?_ ?_ (fun i hi => ?_) (fun i hi => ?_)
  · rw [z_vn (show 9 ≠ 3 by omega), z_vn (show 9 ≠ 20 + j by omega), z_vn (show 9 ≠ 10 + j by omega)]
  · rw [z_vn (show 0 ≠ 3 by omega), z_vn (show 0 ≠ 20 + j by omega), z_vn (show 0 ≠ 10 + j by omega)]
  · rw [z_vn (show 1 ≠ 3 by omega), z_vn (show 1 ≠ 20 + j by omega), z_vn (show 1 ≠ 10 + j by omega)]
  · rw [z_vn (show 2 ≠ 3 by omega), z_vn (show 2 ≠ 20 + j by omega), z_vn (show 2 ≠ 10 + j by omega)]
  · rw [z_vs]
  · rw [z_vn (show 10 + i ≠ 3 by omega), z_vn (show 10 + i ≠ 20 + j by omega)]
    by_cases q : i = j
    · rw [if_pos q, q, z_vs]
    · rw [if_neg q, z_vn (by omega)]
  · rw [z_vn (show 20 + i ≠ 3 by omega)]
    by_cases q : i = j
    · rw [if_pos q, q, z_vs]
    · rw [if_neg q, z_vn (by omega), z_vn (by omega)]
theorem pr_step {u : XS} {w : MS} (h : Inv u w) (k p d : Int32) : wpX5_step u k p d (fun r1 u' => wpX6_step w k p d (fun r2 w' => r1 = r2 ∧ Inv u' w')) := by
  have hinv := h
  obtain ⟨nr, ns, nc, nl, wk, hsc, hr, hs, hh, hc, hl⟩ := h
  have hs0 := hs
  obtain ⟨e9, ez, h8, e0, e1, e2, e3, hz3, hst, hrow⟩ := hs
  by_cases c1 : k < 0 ∨ nI ns ≤ k
  · unfold wpX5_step wpX6_step
    simp only [e_has4, e_isS, z_b0]
    rw [e9, ez, z_cnt (by omega)]
    simp [c1, hinv]
  by_cases c2 : p < 0 ∨ 2000 < p
  · unfold wpX5_step wpX6_step
    simp only [e_has4, e_isS, e_out, e_in, z_b0, z_b1]
    rw [e9, ez, z_cnt (by omega)]
    simp [c1, c2, hinv]
  by_cases c3 : d < 0 ∨ 2000 < d
  · unfold wpX5_step wpX6_step
    simp only [e_has4, e_isS, e_out, e_in, z_b0, z_b1]
    rw [e9, ez, z_cnt (by omega)]
    simp [c1, c2, c3, hinv]
  obtain ⟨j, hj, rfl⟩ := z_ix (by omega) c1
  obtain ⟨m, hm, em⟩ := hst j hj
  have hv : vp_in (nI j) 8 := vp_in_nI (by omega) (by omega)
  have cl : (nI j).toNatClampNeg = j := nI_clamp (by omega)
  have clm : (nI m).toNatClampNeg = m := nI_clamp (by omega)
  have ex8 : (8 : Int32) = nI 8 := rfl
  -- the model's part: what it answers
  have model : ∀ (r1 : Int32) (u' : XS),
      ((m ≠ 0 ∧ p ≤ w.1 11 (8 * j + (m - 1))) → r1 = -2 ∧ u' = u) →
      (¬ (m ≠ 0 ∧ p ≤ w.1 11 (8 * j + (m - 1))) → (w.1 8 j ≤ nI wk ∧ w.1 9 j ≠ nI wk) → r1 = -3 ∧ u' = u) →
      (¬ (m ≠ 0 ∧ p ≤ w.1 11 (8 * j + (m - 1))) → ¬ (w.1 8 j ≤ nI wk ∧ w.1 9 j ≠ nI wk) → m = 8 → r1 = -4 ∧ u' = u) →
      (¬ (m ≠ 0 ∧ p ≤ w.1 11 (8 * j + (m - 1))) → ¬ (w.1 8 j ≤ nI wk ∧ w.1 9 j ≠ nI wk) → m ≠ 8 → r1 = nI (m + 1) ∧ Inv u' (va_up (va_up (va_up w.1 11 (upd (w.1 11) (8 * j + m) p)) 12 (upd (w.1 12) (8 * j + m) d)) 10 (upd (w.1 10) j (nI (m + 1))), w.2.1, w.2.2)) →
      wpX6_step w (nI j) p d (fun r2 w' => r1 = r2 ∧ Inv u' w') := by
    intro r1 u' a1 a2 a3 a4
    -- the part behind the first test
    have J : ¬ (m ≠ 0 ∧ p ≤ w.1 11 (8 * j + (m - 1))) → wpX6_step_J64 w (nI j) p d (fun r2 w' => r1 = r2 ∧ Inv u' w') := by
      intro hb
      unfold wpX6_step_J64
      rw [cl, em, hsc.2.1, ex8, pk_mul, nI_add]
      have hi : m ≠ 8 → vp_in (nI (8 * j + m)) 64 := fun _ => vp_in_nI (by omega) (by omega)
      have cli : (nI (8 * j + m)).toNatClampNeg = 8 * j + m := nI_clamp (by omega)
      have eqm : (nI m = nI 8) ↔ m = 8 := nI_eq (by omega) (by omega)
      have store : m ≠ 8 → ¬ (w.1 8 j ≤ nI wk ∧ w.1 9 j ≠ nI wk) → (vp_in (nI (8 * j + m)) 64 ∧ (∀ w5 : MS, w5 = (va_up w.1 11 (upd (w.1 11) ((nI (8 * j + m)).toNatClampNeg) (p)), w.2.1, w.2.2) → vp_in ((nI (8 * j)) + (w5.1 10 j)) 64 ∧ (∀ w7 : MS, w7 = (va_up w5.1 12 (upd (w5.1 12) (((nI (8 * j)) + (w5.1 10 j)).toNatClampNeg) (d)), w5.2.1, w5.2.2) → ∀ w8 : MS, w8 = (va_up w7.1 10 (upd (w7.1 10) j (((w7.1 10 j) + 1))), w7.2.1, w7.2.2) → r1 = (w8.1 10 j) ∧ Inv u' w8))) := by
        intro h8' hset
        refine ⟨hi h8', ?_⟩
        rintro w5 rfl
        have x5 : (va_up w.1 11 (upd (w.1 11) ((nI (8 * j + m)).toNatClampNeg) (p)), w.2.1, w.2.2).1 10 j = nI m := em
        rw [x5, nI_add, cli]
        refine ⟨hi h8', ?_⟩
        rintro w7 rfl w8 rfl
        obtain ⟨b1, b2⟩ := a4 hb hset h8'
        have x7 : (va_up (va_up w.1 11 (upd (w.1 11) (8 * j + m) p)) 12 (upd (w.1 12) (8 * j + m) d)) 10 j = nI m := em
        refine ⟨?_, ?_⟩
        · have e : w.1 10 j + 1 = nI (m + 1) := by rw [em, nI_1]
          show r1 = upd (w.1 10) j (w.1 10 j + 1) j
          rw [zu_s, b1, e]
        · have e : w.1 10 j + 1 = nI (m + 1) := by rw [em, nI_1]
          show Inv u' (va_up (va_up (va_up w.1 11 (upd (w.1 11) (8 * j + m) p)) 12 (upd (w.1 12) (8 * j + m) d)) 10 (upd (w.1 10) j (w.1 10 j + 1)), w.2.1, w.2.2)
          rw [e]
          exact b2
      refine ⟨hv, fun d1 => ⟨fun d2 => ?_, fun d2 => ?_⟩, fun d1 => ⟨fun d2 => ⟨fun d3 => ?_, fun d3 => ?_⟩, fun d2 => ?_⟩⟩
      · exact store (fun q => d2 (eqm.mpr q)) (fun q => Int32.not_le.mpr d1 q.1)
      · obtain ⟨b1, b2⟩ := a3 hb (fun q => Int32.not_le.mpr d1 q.1) (eqm.mp d2)
        exact ⟨b1, by rw [b2]; exact hinv⟩
      · exact store (fun q => d3 (eqm.mpr q)) (fun q => q.2 d2)
      · obtain ⟨b1, b2⟩ := a3 hb (fun q => q.2 d2) (eqm.mp d3)
        exact ⟨b1, by rw [b2]; exact hinv⟩
      · obtain ⟨b1, b2⟩ := a2 hb ⟨Int32.not_lt.mp d1, d2⟩
        exact ⟨b1, by rw [b2]; exact hinv⟩
    unfold wpX6_step
    simp only [e_isS, e_in, z_b0]
    rw [ez, z_cnt (by omega), cl, em, ex8, pk_mul, nI_add]
    refine ⟨fun q => absurd q c1, fun _ => ⟨fun q => absurd q c2, fun _ => ⟨fun q => absurd q c3, fun _ => ⟨hv, fun d1 => ?_, fun d1 => ?_⟩⟩⟩⟩
    · refine J (fun q => ?_)
      have : m = 0 := by
        have := (nI_leI (a := m) (b := 0) (by omega) (by omega)).mp d1
        omega
      exact q.1 this
    · have m1 : m ≠ 0 := fun q => d1 (by rw [q]; decide)
      have e : nI (8 * j + m) - 1 = nI (8 * j + (m - 1)) := by
        have : 8 * j + m = 8 * j + (m - 1) + 1 := by omega
        rw [this, nI_pred]
      rw [e, nI_clamp (by omega)]
      refine ⟨vp_in_nI (by omega) (by omega), fun d2 => ?_, fun d2 => ?_⟩
      · exact J (fun q => Int32.not_le.mpr d2 q.2)
      · obtain ⟨b1, b2⟩ := a1 ⟨m1, Int32.not_lt.mp d2⟩
        exact ⟨b1, by rw [b2]; exact hinv⟩
  obtain ⟨post, hpost⟩ : ∃ post : Int32 → XS → Prop, post = (fun (r1 : Int32) (u' : XS) => wpX6_step w (nI j) p d (fun r2 w' => r1 = r2 ∧ Inv u' w')) := ⟨_, rfl⟩
  rw [← hpost]
  have model' : ∀ (r1 : Int32) (u' : XS),
      ((m ≠ 0 ∧ p ≤ w.1 11 (8 * j + (m - 1))) → r1 = -2 ∧ u' = u) →
      (¬ (m ≠ 0 ∧ p ≤ w.1 11 (8 * j + (m - 1))) → (w.1 8 j ≤ nI wk ∧ w.1 9 j ≠ nI wk) → r1 = -3 ∧ u' = u) →
      (¬ (m ≠ 0 ∧ p ≤ w.1 11 (8 * j + (m - 1))) → ¬ (w.1 8 j ≤ nI wk ∧ w.1 9 j ≠ nI wk) → m = 8 → r1 = -4 ∧ u' = u) →
      (¬ (m ≠ 0 ∧ p ≤ w.1 11 (8 * j + (m - 1))) → ¬ (w.1 8 j ≤ nI wk ∧ w.1 9 j ≠ nI wk) → m ≠ 8 → r1 = nI (m + 1) ∧ Inv u' (va_up (va_up (va_up w.1 11 (upd (w.1 11) (8 * j + m) p)) 12 (upd (w.1 12) (8 * j + m) d)) 10 (upd (w.1 10) j (nI (m + 1))), w.2.1, w.2.2)) →
      post r1 u' := fun r1 u' a1 a2 a3 a4 => by rw [hpost]; exact model r1 u' a1 a2 a3 a4
  unfold wpX5_step
  simp only [e_has4, e_out, z_b0, z_b1]
  rw [e9]
  have lt8 : (nI m < 8) ↔ m ≠ 8 := by rw [ex8, nI_ltI (by omega) (by omega)]; omega
  have em' : u.2.1 3 j = nI m := by rw [e3]; exact em
  refine ⟨fun q => absurd q c1, fun _ => ⟨fun q => absurd c2 q, fun _ => ⟨fun q => absurd c3 q, fun _ => ?_⟩⟩⟩
  refine s_lastPrice (by omega) hm em' ?_
  have hprice : ∀ hm0 : m ≠ 0, u.2.1 (10 + j) (m - 1) = w.1 11 (8 * j + (m - 1)) := fun hm0 => (hrow j (m - 1) (by omega) (by omega)).1
  have lastE : (if m = 0 then (-1 : Int32) else u.2.1 (10 + j) (m - 1)) < p ↔ ¬ (m ≠ 0 ∧ p ≤ w.1 11 (8 * j + (m - 1))) := by
    by_cases m0 : m = 0
    · rw [if_pos m0]
      exact ⟨fun _ q => q.1 m0, fun _ => z_ltm1 c2⟩
    · rw [if_neg m0, hprice m0]
      exact ⟨fun q z => Int32.not_le.mpr q z.2, fun q => Int32.not_le.mp (fun z => q ⟨m0, z⟩)⟩
  refine ⟨fun d1 => ?_, fun d1 => ?_⟩
  · have hb := lastE.mp d1
    refine s_isSettled (by omega) ?_
    rw [e1, e2, hsc.1]
    refine ⟨fun d2 => ?_, fun d2 => ?_⟩
    · have hset := z_b1.mp d2
      rw [cl, em']
      refine ⟨hv, fun d3 => ?_, fun d3 => ?_⟩
      · have m8 := lt8.mp d3
        refine s_addStep (by omega) (by omega) em' p d (fun a h9 h0 h1 h2 h3 hr1 hr2 => ?_)
        refine model' _ _ (fun q => absurd q hb) (fun _ q => absurd q hset) (fun _ _ q => absurd q m8) (fun _ _ _ => ⟨rfl, ?_⟩)
        exact ⟨nr, ns, nc, nl, wk, hsc, hr, hs0.addStep hj (by omega) em h9 h0 h1 h2 h3 hr1 hr2, hh, hc, hl⟩
      · have m8 : m = 8 := Decidable.byContradiction (fun q => d3 (lt8.mpr q))
        exact model' _ _ (fun q => absurd q hb) (fun _ q => absurd q hset) (fun _ _ _ => ⟨rfl, rfl⟩) (fun _ _ q => absurd m8 q)
    · have hset : w.1 8 j ≤ nI wk ∧ w.1 9 j ≠ nI wk := Decidable.of_not_not (fun q => d2 (z_b1.mpr q))
      exact model' _ _ (fun q => absurd q hb) (fun _ _ => ⟨rfl, rfl⟩) (fun _ q => absurd hset q) (fun _ q => absurd hset q)
  · have hb : m ≠ 0 ∧ p ≤ w.1 11 (8 * j + (m - 1)) := Decidable.of_not_not (fun q => d1 (lastE.mpr q))
    exact model' _ _ (fun _ => ⟨rfl, rfl⟩) (fun q => absurd hb q) (fun q => absurd hb q) (fun q => absurd hb q)
