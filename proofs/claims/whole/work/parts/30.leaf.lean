/-! pure rows: the small methods, as one answer -/
theorem z_b1 {P : Prop} [Decidable P] : ((if P then (1 : Int32) else 0) = 0) ↔ ¬ P := by
  by_cases h : P
  · rw [if_pos h]; exact ⟨fun e => absurd e (by decide), fun n => absurd h n⟩
  · rw [if_neg h]; exact ⟨fun _ => h, fun _ => rfl⟩
theorem z_b0 {P : Prop} [Decidable P] : ((if P then (0 : Int32) else 1) = 0) ↔ P := by
  by_cases h : P
  · rw [if_pos h]; exact ⟨fun _ => h, fun _ => rfl⟩
  · rw [if_neg h]; exact ⟨fun e => absurd e (by decide), fun n => absurd n h⟩
theorem z_nar1 {P : Prop} [Decidable P] : narrow .boolean (.int (if P then (1 : Int32) else 0)) = .int (if P then (1 : Int32) else 0) := by
  by_cases h : P
  · rw [if_pos h]; decide
  · rw [if_neg h]; decide
theorem z_nar0 {P : Prop} [Decidable P] : narrow .boolean (.int (if P then (0 : Int32) else 1)) = .int (if P then (0 : Int32) else 1) := by
  by_cases h : P
  · rw [if_pos h]; decide
  · rw [if_neg h]; decide
theorem z_le {a b : Int32} : ¬ a < b ↔ b ≤ a := Int32.not_lt
theorem z_nle {a b : Int32} : ¬ a ≤ b ↔ b < a := Int32.not_le
theorem e_out (a b c : Int32) (post : Int32 → Prop) : wpX5_isOutside a b c post ↔ post (if a < b ∨ c < a then 1 else 0) := by
  unfold wpX5_isOutside
  by_cases h1 : a < b
  · simp [h1]
  · by_cases h2 : a ≤ c
    · have h3 : ¬ c < a := Int32.not_lt.mpr h2
      simp [h1, h2, h3]
    · have h3 : c < a := Int32.not_le.mp h2
      simp [h1, h2, h3]
theorem e_nog (g : Int32) (post : Int32 → Prop) : wpX5_isNoGrain g post ↔ post (if g < 0 ∨ 2 < g then 1 else 0) := by
  unfold wpX5_isNoGrain
  rw [e_out]
  exact ⟨fun h => h.2, fun h => ⟨z_nar1, h⟩⟩
theorem e_in (a b c : Int32) (post : Int32 → Prop) : wpX6_in a b c post ↔ post (if a < b ∨ c < a then 0 else 1) := by
  unfold wpX6_in
  by_cases h1 : a < b
  · simp [h1]
  · by_cases h2 : c < a
    · simp [h1, h2]
    · simp [h1, h2]
theorem e_isg (g : Int32) (post : Int32 → Prop) : wpX6_isGrain g post ↔ post (if g < 0 ∨ 2 < g then 0 else 1) := by
  unfold wpX6_isGrain
  rw [e_in]
  exact ⟨fun h => h.2, fun h => ⟨z_nar0, h⟩⟩
theorem e_isS (w : MS) (k : Int32) (post : Int32 → Prop) : wpX6_isScale w k post ↔ post (if k < 0 ∨ w.2.1 2 - 1 < k then 0 else 1) := by
  unfold wpX6_isScale
  rw [e_in]
  exact ⟨fun h => h.2, fun h => ⟨z_nar0, h⟩⟩
theorem e_isC (w : MS) (k : Int32) (post : Int32 → Prop) : wpX6_isCargo w k post ↔ post (if k < 0 ∨ w.2.1 3 - 1 < k then 0 else 1) := by
  unfold wpX6_isCargo
  rw [e_in]
  exact ⟨fun h => h.2, fun h => ⟨z_nar0, h⟩⟩
theorem e_has3 (a : RS) (k : Int32) (post : Int32 → Prop) : wpX3_has a k post ↔ post (if k < 0 ∨ a 9 0 ≤ k then 0 else 1) := by
  unfold wpX3_has
  by_cases h1 : k < 0
  · simp [h1]
  · by_cases h2 : a 9 0 ≤ k
    · simp [h1, h2]
    · simp [h1, h2]
theorem e_has4 (a : RS) (k : Int32) (post : Int32 → Prop) : wpX4_has a k post ↔ post (if k < 0 ∨ a 9 0 ≤ k then 0 else 1) := by
  unfold wpX4_has
  by_cases h1 : k < 0
  · simp [h1]
  · by_cases h2 : a 9 0 ≤ k
    · simp [h1, h2]
    · simp [h1, h2]
theorem e_has0 (a : RS) (k : Int32) (post : Int32 → Prop) : wpX0_has a k post ↔ post (if k < 0 ∨ a 9 0 ≤ k then 0 else 1) := by
  unfold wpX0_has
  by_cases h1 : k < 0
  · simp [h1]
  · by_cases h2 : a 9 0 ≤ k
    · simp [h1, h2]
    · simp [h1, h2]
/-- below a count: the two ways of asking -/
theorem z_cnt {n : Nat} (hn : n < 2 ^ 30) (k : Int32) : (nI n - 1 < k) ↔ nI n ≤ k := by
  cases n with
  | zero =>
    rw [Int32.lt_iff_toInt_lt, Int32.le_iff_toInt_le]
    have e1 : (nI 0 - 1).toInt = -1 := by decide
    have e2 : (nI 0).toInt = 0 := by decide
    rw [e1, e2]
    omega
  | succ n =>
    rw [nI_pred, Int32.lt_iff_toInt_lt, Int32.le_iff_toInt_le, nI_toInt (by omega), nI_toInt (by omega)]
    omega
/-- inside a count: a place -/
theorem z_ix {n : Nat} (hn : n < 2 ^ 30) {k : Int32} (h : ¬ (k < 0 ∨ nI n ≤ k)) : ∃ j : Nat, j < n ∧ k = nI j := by
  have h0 : ¬ k < 0 := fun q => h (Or.inl q)
  obtain ⟨j, hj, rfl⟩ := nI_of h0
  refine ⟨j, ?_, rfl⟩
  rcases Nat.lt_or_ge j n with q | q
  · exact q
  · exact absurd (Or.inr (nI_le q hj)) h
theorem z_rg {M : Nat} (hM : M < 2 ^ 30) {k : Int32} (h : ¬ (k < 0 ∨ nI M < k)) : ∃ j : Nat, j ≤ M ∧ k = nI j := by
  have h0 : ¬ k < 0 := fun q => h (Or.inl q)
  obtain ⟨j, hj, rfl⟩ := nI_of h0
  refine ⟨j, ?_, rfl⟩
  rcases Nat.lt_or_ge M j with q | q
  · exact absurd (Or.inr (nI_lt q hj)) h
  · exact q
theorem z_rgl {L M : Nat} (hL : L < 2 ^ 30) (hM : M < 2 ^ 30) {k : Int32} (h : ¬ (k < nI L ∨ nI M < k)) : ∃ j : Nat, L ≤ j ∧ j ≤ M ∧ k = nI j := by
  have h0 : ¬ k < 0 := fun q => h (Or.inl (Int32.lt_iff_toInt_lt.mpr (by
    have := Int32.lt_iff_toInt_lt.mp q
    rw [nI_toInt (by omega)]
    have e : (0 : Int32).toInt = 0 := by decide
    omega)))
  obtain ⟨j, hj, rfl⟩ := nI_of h0
  refine ⟨j, ?_, ?_, rfl⟩
  · rcases Nat.lt_or_ge j L with q | q
    · exact absurd (Or.inl (nI_lt q (by omega))) h
    · exact q
  · rcases Nat.lt_or_ge M j with q | q
    · exact absurd (Or.inr (nI_lt q hj)) h
    · exact q
