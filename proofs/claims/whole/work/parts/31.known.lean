/-! KNOWN, WEEKLY, THE AVERAGE: both sides over the same rows of returns -/
abbrev KN (a : RS) (k : Nat) (t : Int32) : Prop := a 5 k ≤ t ∧ (a 6 k = -1 ∨ t < a 6 k)
theorem e_kn3 (a : RS) {k : Nat} (hk : k < 60) (t : Int32) (post : Int32 → Prop) : wpX3_isKnown a (nI k) t post ↔ post (if KN a k t then 1 else 0) := by
  unfold wpX3_isKnown
  have hi : vp_in (nI k) 60 := vp_in_nI hk (by omega)
  rw [nI_clamp (by omega)]
  by_cases h1 : t < a 5 k
  · have n1 : ¬ a 5 k ≤ t := Int32.not_le.mpr h1
    simp [KN, h1, hi, n1]
  · have n1 : a 5 k ≤ t := Int32.not_lt.mp h1
    by_cases h2 : a 6 k = -1
    · simp [KN, h1, hi, n1, h2]
    · by_cases h3 : a 6 k ≤ t
      · have n3 : ¬ t < a 6 k := Int32.not_lt.mpr h3
        simp [KN, h1, hi, n1, h2, h3, n3]
      · have n3 : t < a 6 k := Int32.not_le.mp h3
        simp [KN, h1, hi, n1, h2, h3, n3]
theorem e_kn6 (w : MS) {k : Nat} (hk : k < 60) (t : Int32) (post : Int32 → Prop) : wpX6_isKnown w (nI k) t post ↔ post (if nI k ≠ w.2.1 6 ∧ KN w.1 k t then 1 else 0) := by
  unfold wpX6_isKnown
  have hi : vp_in (nI k) 60 := vp_in_nI hk (by omega)
  rw [nI_clamp (by omega)]
  by_cases h0 : nI k = w.2.1 6
  · simp [KN, h0]
  by_cases h1 : t < w.1 5 k
  · have n1 : ¬ w.1 5 k ≤ t := Int32.not_le.mpr h1
    simp [KN, h0, h1, hi, n1]
  · have n1 : w.1 5 k ≤ t := Int32.not_lt.mp h1
    by_cases h2 : w.1 6 k = -1
    · simp [KN, h0, h1, hi, n1, h2]
    · by_cases h3 : w.1 6 k ≤ t
      · have n3 : ¬ t < w.1 6 k := Int32.not_lt.mpr h3
        simp [KN, h0, h1, hi, n1, h2, h3, n3]
      · have n3 : t < w.1 6 k := Int32.not_le.mp h3
        simp [KN, h0, h1, hi, n1, h2, h3, n3]
/-- the rows of returns that are told: n of them -/
def RO (a : RS) (n : Nat) : Prop := n ≤ 60 ∧ ∀ k, k < n → (∃ v, v ≤ 300 ∧ a 2 k = nI v) ∧ (∃ q, 1 ≤ q ∧ q ≤ 1000 ∧ a 3 k = nI q) ∧ (∃ p, p ≤ 3000 ∧ a 4 k = nI p)
abbrev zM (a : RS) (g t wo : Int32) (v k : Nat) : Prop := a 1 k = g ∧ a 2 k = nI v ∧ nI k ≠ wo ∧ KN a k t
def zQ (a : RS) (g t wo : Int32) (v : Nat) : Nat → Nat
  | 0 => 0
  | k + 1 => zQ a g t wo v k + (if zM a g t wo v k then (a 3 k).toNatClampNeg else 0)
def zP (a : RS) (g t wo : Int32) (v : Nat) : Nat → Nat
  | 0 => 0
  | k + 1 => zP a g t wo v k + (if zM a g t wo v k then (a 4 k).toNatClampNeg * (a 3 k).toNatClampNeg else 0)
def zW (a : RS) (g t wo : Int32) (n : Nat) : Nat → Int32
  | 0 => if zQ a g t wo 0 n = 0 then -1 else nI (zP a g t wo 0 n / zQ a g t wo 0 n)
  | v + 1 => if zQ a g t wo (v + 1) n = 0 then zW a g t wo n v else nI (zP a g t wo (v + 1) n / zQ a g t wo (v + 1) n)
/-- WEEKLY for week w -/
def zWI (a : RS) (g t wo : Int32) (n : Nat) (w : Int32) : Int32 := if w < 0 then -1 else zW a g t wo n w.toNatClampNeg
theorem zQ_le {a : RS} {g t wo : Int32} {v n : Nat} (h : RO a n) : ∀ k, k ≤ n → zQ a g t wo v k ≤ 1000 * k ∧ zP a g t wo v k ≤ 3000000 * k := by
  intro k
  induction k with
  | zero => intro _; exact ⟨Nat.le_refl _, Nat.le_refl _⟩
  | succ k ih =>
    intro hk
    obtain ⟨i1, i2⟩ := ih (by omega)
    obtain ⟨-, ⟨q, q1, q2, eq⟩, ⟨p, p2, ep⟩⟩ := h.2 k (by omega)
    unfold zQ zP
    have e1 : (a 3 k).toNatClampNeg = q := by rw [eq]; exact nI_clamp (by omega)
    have e2 : (a 4 k).toNatClampNeg = p := by rw [ep]; exact nI_clamp (by omega)
    rw [e1, e2]
    have e3 : p * q ≤ 3000 * 1000 := Nat.mul_le_mul p2 q2
    split
    · exact ⟨by omega, by omega⟩
    · exact ⟨by omega, by omega⟩
theorem zW_none {a : RS} {g t wo : Int32} {n : Nat} : ∀ W, (∀ v, v ≤ W → zQ a g t wo v n = 0) → zW a g t wo n W = -1 := by
  intro W
  induction W with
  | zero => intro h; unfold zW; rw [if_pos (h 0 (Nat.le_refl _))]
  | succ W ih => intro h; unfold zW; rw [if_pos (h _ (Nat.le_refl _))]; exact ih (fun v hv => h v (by omega))
theorem zW_some {a : RS} {g t wo : Int32} {n v : Nat} (hv : 0 < zQ a g t wo v n) : ∀ W, v ≤ W → (∀ v', v < v' → v' ≤ W → zQ a g t wo v' n = 0) → zW a g t wo n W = nI (zP a g t wo v n / zQ a g t wo v n) := by
  intro W
  induction W with
  | zero =>
    intro h _
    obtain rfl : v = 0 := by omega
    unfold zW; rw [if_neg (by omega)]
  | succ W ih =>
    intro h h2
    unfold zW
    by_cases e : v = W + 1
    · subst e; rw [if_neg (by omega)]
    · rw [if_pos (h2 _ (by omega) (Nat.le_refl _))]
      exact ih (by omega) (fun v' h3 h4 => h2 v' h3 (by omega))
/-! the class: one pass -/
def zWinv (a : RS) (g w t wo : Int32) (k : Nat) (many pence latest : Int32) : Prop :=
  (latest = -1 ∧ many = 0 ∧ pence = 0 ∧ ∀ v, v ≤ 300 → nI v ≤ w → zQ a g t wo v k = 0) ∨
  (∃ v, v ≤ 300 ∧ latest = nI v ∧ nI v ≤ w ∧ many = nI (zQ a g t wo v k) ∧ pence = nI (zP a g t wo v k) ∧ 0 < zQ a g t wo v k ∧ ∀ v', v < v' → v' ≤ 300 → nI v' ≤ w → zQ a g t wo v' k = 0)
/-- a return that is passed over keeps the sums of the weeks up to w and from latest on -/
theorem zWinv_skip {a : RS} {g w t wo : Int32} {k : Nat} {many pence latest : Int32} (h : zWinv a g w t wo k many pence latest) (hno : ∀ v, v ≤ 300 → nI v ≤ w → ¬ nI v < latest → ¬ zM a g t wo v k) : zWinv a g w t wo (k + 1) many pence latest := by
  have eQ : ∀ v, v ≤ 300 → nI v ≤ w → ¬ nI v < latest → zQ a g t wo v (k + 1) = zQ a g t wo v k := fun v h1 h2 h3 => by
    show _ + _ = _
    rw [if_neg (hno v h1 h2 h3)]; rfl
  have eP : ∀ v, v ≤ 300 → nI v ≤ w → ¬ nI v < latest → zP a g t wo v (k + 1) = zP a g t wo v k := fun v h1 h2 h3 => by
    show _ + _ = _
    rw [if_neg (hno v h1 h2 h3)]; rfl
  rcases h with ⟨h1, h2, h3, h4⟩ | ⟨v, hv, h1, h2, h3, h4, h5, h6⟩
  · refine Or.inl ⟨h1, h2, h3, fun v hv hw => ?_⟩
    rw [eQ v hv hw]
    · exact h4 v hv hw
    · rw [h1]
      intro q
      have := Int32.lt_iff_toInt_lt.mp q
      rw [nI_toInt (by omega)] at this
      have e : (-1 : Int32).toInt = -1 := by decide
      omega
  · have nl : ∀ v', v ≤ v' → v' ≤ 300 → ¬ nI v' < latest := fun v' hh h2 => by
      rw [h1]
      exact nI_nlt hh (by omega)
    refine Or.inr ⟨v, hv, h1, h2, ?_, ?_, ?_, fun v' h7 h8 h9 => ?_⟩
    · rw [eQ v hv h2 (nl v (Nat.le_refl _) hv)]; exact h3
    · rw [eP v hv h2 (nl v (Nat.le_refl _) hv)]; exact h4
    · rw [eQ v hv h2 (nl v (Nat.le_refl _) hv)]; exact h5
    · rw [eQ v' h8 h9 (nl v' (by omega) h8)]; exact h6 v' h7 h8 h9
theorem zM_week {a : RS} {g t wo : Int32} {v v' k : Nat} (hv : v < 2 ^ 31) (hv' : v' < 2 ^ 31) (e : a 2 k = nI v) (h : zM a g t wo v' k) : v' = v := ((nI_eq hv hv').mp (e.symm.trans h.2.1)).symm
theorem zWk_loop {a : RS} {n : Nat} (hR : RO a n) (hn : a 9 0 = nI n) (g w t wo : Int32) (K : Int32 → Int32 → Int32 → Int32 → Prop) (hK : ∀ many pence latest, zWinv a g w t wo n many pence latest → K (nI n) many pence latest) :
    ∀ d k many pence latest, k + d = n → zWinv a g w t wo k many pence latest → wpX3_weeklyKnown_L12 a g w t wo K (d + 1) (nI k) many pence latest := by
  have hn60 := hR.1
  intro d
  induction d with
  | zero =>
    intro k many pence latest hk hI
    obtain rfl : k = n := by omega
    rw [wpX3_weeklyKnown_L12, hn]
    exact ⟨fun _ => hK _ _ _ hI, fun c => absurd (nI_le (Nat.le_refl k) (by omega)) c⟩
  | succ d ih =>
    intro k many pence latest hk hI
    have hk60 : k < 60 := by omega
    obtain ⟨⟨v, hv, ev⟩, ⟨q, q1, q2, eq⟩, ⟨p, p2, ep⟩⟩ := hR.2 k (by omega)
    have go : ∀ many pence latest, zWinv a g w t wo (k + 1) many pence latest → wpX3_weeklyKnown_L12 a g w t wo K (d + 1) (nI k + 1) many pence latest := fun many pence latest h => by
      rw [nI_1]; exact ih (k + 1) many pence latest (by omega) h
    rw [wpX3_weeklyKnown_L12, hn, nI_clamp (by omega)]
    refine ⟨fun c => absurd c (nI_ge (by omega) (by omega)), fun _ => ⟨vp_in_nI hk60 (by omega), fun c1 => go _ _ _ (zWinv_skip hI fun v' _ _ _ m => c1 m.1), fun c1 => ⟨fun c2 => go _ _ _ (zWinv_skip hI fun v' h1 h2 _ m => ?_), fun c2 => ⟨fun c3 => go _ _ _ (zWinv_skip hI fun v' h1 h2 h3 m => ?_), fun c3 => ⟨fun c4 => go _ _ _ (zWinv_skip hI fun v' _ _ _ m => m.2.2.1 c4), fun c4 => ?_⟩⟩⟩⟩⟩
    · rw [m.2.1] at c2
      exact absurd h2 (Int32.not_le.mpr c2)
    · rw [m.2.1] at c3
      exact h3 c3
    · rw [e_kn3 a hk60]
      have hvw : nI v ≤ w := by rw [ev] at c2; exact Int32.not_lt.mp c2
      have eq' : (a 3 k).toNatClampNeg = q := by rw [eq]; exact nI_clamp (by omega)
      have ep' : (a 4 k).toNatClampNeg = p := by rw [ep]; exact nI_clamp (by omega)
      refine ⟨fun c5 => ?_, fun c5 => ?_⟩
      · rw [z_b1] at c5
        have hkn : KN a k t := Decidable.of_not_not c5
        have hm : zM a g t wo v k := ⟨c1, ev, c4, hkn⟩
        have sQ : zQ a g t wo v (k + 1) = zQ a g t wo v k + q := by
          show _ + _ = _
          rw [if_pos hm, eq']
        have sP : zP a g t wo v (k + 1) = zP a g t wo v k + p * q := by
          show _ + _ = _
          rw [if_pos hm, eq', ep']
        have oQ : ∀ v', v' < 2 ^ 31 → v' ≠ v → zQ a g t wo v' (k + 1) = zQ a g t wo v' k := fun v' h1 h2 => by
          show _ + _ = _
          rw [if_neg (fun m => h2 (zM_week (by omega) h1 ev m))]; rfl
        refine ⟨fun c6 => ?_, fun c6 => ?_⟩
        · -- the same week
          rw [ev] at c6
          rcases hI with ⟨h1, h2, h3, h4⟩ | ⟨v0, hv0, h1, h2, h3, h4, h5, h6⟩
          · exfalso
            rw [h1] at c6
            have := Int32.le_iff_toInt_le.mp c6
            rw [nI_toInt (by omega)] at this
            have e : (-1 : Int32).toInt = -1 := by decide
            omega
          · rw [h1] at c6 c3
            have e0 : v = v0 := by
              rw [ev] at c3
              have a1 := (nI_leI (by omega) (by omega)).mp c6
              have a2 := (nI_leI (by omega) (by omega)).mp (Int32.not_lt.mp c3)
              omega
            subst e0
            refine go _ _ _ (Or.inr ⟨v, hv0, h1, hvw, ?_, ?_, ?_, fun v' h7 h8 h9 => ?_⟩)
            · rw [h3, sQ, eq, nI_add]
            · rw [h4, sP, eq, ep, pk_mul, nI_add]
            · rw [sQ]; omega
            · rw [oQ v' (by omega) (by omega)]; exact h6 v' h7 h8 h9
        · -- a later week
          rw [ev] at c6
          have zero : ∀ v', v ≤ v' → v' ≤ 300 → nI v' ≤ w → zQ a g t wo v' k = 0 := fun v' h7 h8 h9 => by
            rcases hI with ⟨h1, h2, h3, h4⟩ | ⟨v0, hv0, h1, h2, h3, h4, h5, h6⟩
            · exact h4 v' h8 h9
            · rw [h1] at c6
              have a1 := (nI_ltI (by omega) (by omega)).mp (Int32.not_le.mp c6)
              exact h6 v' (by omega) h8 h9
          have z1 := zero v (Nat.le_refl _) hv hvw
          have zP0 : zP a g t wo v k = 0 := by
            have key : ∀ k, k ≤ n → zQ a g t wo v k = 0 → zP a g t wo v k = 0 := by
              intro k
              induction k with
              | zero => intro _ _; rfl
              | succ k ihk =>
                intro hk h
                obtain ⟨-, ⟨q', q1', q2', eq2⟩, -⟩ := hR.2 k (by omega)
                have e1 : (a 3 k).toNatClampNeg = q' := by rw [eq2]; exact nI_clamp (by omega)
                unfold zQ at h
                unfold zP
                by_cases m : zM a g t wo v k
                · rw [if_pos m, e1] at h; omega
                · rw [if_neg m] at h
                  rw [if_neg m, ihk (by omega) (by omega)]
            exact key k (by omega) z1
          refine go _ _ _ (Or.inr ⟨v, hv, ev, hvw, ?_, ?_, ?_, fun v' h7 h8 h9 => ?_⟩)
          · rw [sQ, z1, eq, ← nI_0, nI_add]
          · rw [sP, zP0, eq, ep, pk_mul, ← nI_0, nI_add]
          · rw [sQ]; omega
          · rw [oQ v' (by omega) (by omega)]; exact zero v' (by omega) h8 h9
      · rw [z_b1] at c5
        exact go _ _ _ (zWinv_skip hI fun v' _ _ _ m => c5 m.2.2.2)
theorem s_weeklyKnown {a : RS} {n : Nat} (hR : RO a n) (hn : a 9 0 = nI n) (g w t wo : Int32) (hw : w ≤ 300) {post : Int32 → Prop} (h : post (zWI a g t wo n w)) : wpX3_weeklyKnown a g w t wo post := by
  have hn60 := hR.1
  unfold wpX3_weeklyKnown
  refine ⟨n + 1, ?_⟩
  have e0 : (0 : Int32) = nI 0 := rfl
  refine zWk_loop hR hn g w t wo _ (fun many pence latest hI => ?_) n 0 0 0 (-1) (by omega) (Or.inl ⟨rfl, rfl, rfl, fun v _ _ => rfl⟩)
  have wN : ¬ w < 0 → ∃ W, W ≤ 300 ∧ w = nI W := fun c => nI_of2 (M := 300) (by decide) c hw
  rcases hI with ⟨h1, h2, h3, h4⟩ | ⟨v, hv, h1, h2, h3, h4, h5, h6⟩
  · refine ⟨fun c => absurd h2 c, fun _ => ?_⟩
    have : zWI a g t wo n w = -1 := by
      unfold zWI
      by_cases c : w < 0
      · rw [if_pos c]
      · rw [if_neg c]
        obtain ⟨W, hW, rfl⟩ := wN c
        rw [nI_clamp (by omega)]
        exact zW_none W (fun v hv => h4 v (by omega) (nI_le hv (by omega)))
    rw [← this]; exact h
  · obtain ⟨b1, b2⟩ := zQ_le (g := g) (t := t) (wo := wo) (v := v) hR n (Nat.le_refl _)
    have hne : ¬ many = 0 := by rw [h3]; exact nI_ne0 h5 (by omega)
    have c : ¬ w < 0 := fun q => by
      have a1 := Int32.le_iff_toInt_le.mp h2
      have a2 := Int32.lt_iff_toInt_lt.mp q
      rw [nI_toInt (by omega)] at a1
      have e : (0 : Int32).toInt = 0 := by decide
      omega
    refine ⟨fun _ => ⟨hne, ?_⟩, fun c => absurd c hne⟩
    have : zWI a g t wo n w = pence / many := by
      unfold zWI
      rw [if_neg c, h3, h4, pk_div (by omega) h5 (by omega)]
      obtain ⟨W, hW, rfl⟩ := wN c
      rw [nI_clamp (by omega)]
      exact zW_some h5 W ((nI_leI (by omega) (by omega)).mp h2) (fun v' h7 h8 => h6 v' h7 (by omega) (nI_le h8 (by omega)))
    rw [← this]; exact h
