/-! the model's WEEKLY, both AVERAGES -/
theorem z_l0 : (0 : Int64) = lN 0 := rfl
theorem zWa_inner {w : MS} {n : Nat} (hR : RO w.1 n) (hn : w.2.1 1 = nI n) (g t : Int32) {v : Nat} (hv : v < 2 ^ 31) (K : Int32 → Int64 → Int64 → Prop) (hK : K (nI n) (lN (zQ w.1 g t (w.2.1 6) v n)) (lN (zP w.1 g t (w.2.1 6) v n))) :
    ∀ d k, k + d = n → wpX6_weeklyAt_L17 w g t (nI v) K (d + 1) (nI k) (lN (zQ w.1 g t (w.2.1 6) v k)) (lN (zP w.1 g t (w.2.1 6) v k)) := by
  have hn60 := hR.1
  intro d
  induction d with
  | zero =>
    intro k hk
    obtain rfl : k = n := by omega
    rw [wpX6_weeklyAt_L17, hn]
    exact ⟨fun _ => hK, fun c => absurd (nI_le (Nat.le_refl k) (by omega)) c⟩
  | succ d ih =>
    intro k hk
    have hk60 : k < 60 := by omega
    obtain ⟨-, ⟨q, q1, q2, eq⟩, ⟨p, p2, ep⟩⟩ := hR.2 k (by omega)
    have eq' : (w.1 3 k).toNatClampNeg = q := by rw [eq]; exact nI_clamp (by omega)
    have ep' : (w.1 4 k).toNatClampNeg = p := by rw [ep]; exact nI_clamp (by omega)
    have no : ¬ zM w.1 g t (w.2.1 6) v k → wpX6_weeklyAt_L17 w g t (nI v) K (d + 1) (nI k + 1) (lN (zQ w.1 g t (w.2.1 6) v k)) (lN (zP w.1 g t (w.2.1 6) v k)) := fun m => by
      have := ih (k + 1) (by omega)
      unfold zQ zP at this
      rw [if_neg m, if_neg m] at this
      rw [nI_1]
      exact this
    rw [wpX6_weeklyAt_L17, hn, nI_clamp (by omega)]
    refine ⟨fun c => absurd c (nI_ge (by omega) (by omega)), fun _ => ⟨vp_in_nI hk60 (by omega), fun c1 => no fun m => c1 m.1, fun c1 => ⟨fun c2 => no fun m => c2 m.2.1, fun c2 => ?_⟩⟩⟩
    rw [e_kn6 w hk60]
    refine ⟨fun c => ?_, fun c => ?_⟩
    · rw [z_b1] at c
      exact no fun m => c ⟨m.2.2.1, m.2.2.2⟩
    · rw [z_b1] at c
      have c' := Decidable.of_not_not c
      have m : zM w.1 g t (w.2.1 6) v k := ⟨c1, c2, c'.1, c'.2⟩
      have := ih (k + 1) (by omega)
      unfold zQ zP at this
      rw [if_pos m, if_pos m, eq', ep'] at this
      rw [nI_1, eq, ep, nI_l (by omega), nI_l (by omega), lN_mul, lN_add, lN_add]
      exact this
theorem zWa_outer {w : MS} {n : Nat} (hR : RO w.1 n) (hn : w.2.1 1 = nI n) (g t : Int32) (post : Int32 → Prop) :
    ∀ W, W ≤ 300 → post (zW w.1 g t (w.2.1 6) n W) → wpX6_weeklyAt_L3 w g t post (fun _ => post (-1)) (W + 2) (nI W) := by
  have hn60 := hR.1
  intro W
  induction W with
  | zero =>
    intro hW h
    rw [wpX6_weeklyAt_L3]
    refine ⟨fun c => absurd c (nI_pos (by omega)), fun _ => ⟨n + 1, ?_⟩⟩
    obtain ⟨b1, b2⟩ := zQ_le (g := g) (t := t) (wo := w.2.1 6) (v := 0) hR n (Nat.le_refl _)
    refine zWa_inner hR hn g t (by omega) _ ?_ n 0 (by omega)
    unfold zW at h
    refine ⟨fun c => ?_, fun c => ?_⟩
    · rw [lg_cmp_le, z_l0, lN_le (by omega) (by omega)] at c
      rw [if_pos (by omega)] at h
      rw [wpX6_weeklyAt_L3]
      exact ⟨fun _ => h, fun c => absurd (show nI 0 + (-1) < 0 by decide) c⟩
    · rw [lg_cmp_le, z_l0, lN_le (by omega) (by omega)] at c
      rw [if_neg (by omega)] at h
      refine ⟨fun e => ?_, ?_⟩
      · rw [z_l0, lN_eq (by omega) (by omega)] at e; omega
      · rw [pk_lDiv (by omega) (by omega) (by omega), lN_i]; exact h
  | succ W ih =>
    intro hW h
    rw [wpX6_weeklyAt_L3]
    refine ⟨fun c => absurd c (nI_pos (by omega)), fun _ => ⟨n + 1, ?_⟩⟩
    obtain ⟨b1, b2⟩ := zQ_le (g := g) (t := t) (wo := w.2.1 6) (v := W + 1) hR n (Nat.le_refl _)
    refine zWa_inner hR hn g t (by omega) _ ?_ n 0 (by omega)
    unfold zW at h
    refine ⟨fun c => ?_, fun c => ?_⟩
    · rw [lg_cmp_le, z_l0, lN_le (by omega) (by omega)] at c
      rw [if_pos (by omega)] at h
      rw [pk_m1]
      exact ih (by omega) h
    · rw [lg_cmp_le, z_l0, lN_le (by omega) (by omega)] at c
      rw [if_neg (by omega)] at h
      refine ⟨fun e => ?_, ?_⟩
      · rw [z_l0, lN_eq (by omega) (by omega)] at e; omega
      · rw [pk_lDiv (by omega) (by omega) (by omega), lN_i]; exact h
theorem s_weeklyAt {w : MS} {n : Nat} (hR : RO w.1 n) (hn : w.2.1 1 = nI n) (g W t : Int32) (hW : W ≤ 300) {post : Int32 → Prop} (h : post (zWI w.1 g t (w.2.1 6) n W)) : wpX6_weeklyAt w g W t post := by
  unfold wpX6_weeklyAt
  unfold zWI at h
  by_cases c : W < 0
  · rw [if_pos c] at h
    refine ⟨1, ?_⟩
    rw [wpX6_weeklyAt_L3]
    exact ⟨fun _ => h, fun n => absurd c n⟩
  · rw [if_neg c] at h
    obtain ⟨j, hj, rfl⟩ := nI_of2 (M := 300) (n := 300) (by decide) c hW
    rw [nI_clamp (by omega)] at h
    exact ⟨j + 2, zWa_outer hR hn g t post j hj h⟩
/-- THE AVERAGE: of six weeks, what f says of each -/
def zAv (f : Int32 → Int32) : Nat → Int32 → Int32 → Int32
  | 0, _, sum => sum / 6
  | d + 1, w, sum => if f w = -1 then -1 else zAv f d (w + 1) (sum + f w)
theorem z_inc {w : Int32} (h1 : -1000 ≤ w.toInt) (h2 : w.toInt ≤ 1000) : (w + 1).toInt = w.toInt + 1 := by
  rw [Int32.toInt_add]
  have e : (1 : Int32).toInt = 1 := by decide
  rw [e]
  exact Int.bmod_eq_of_le (by omega) (by omega)
theorem z_m6 {T : Nat} (hT : T ≤ 300) : (nI T - 6).toInt = (T : Int) - 6 := by
  have e : (6 : Int32) = nI 6 := rfl
  rw [e, pk_sub_toInt (by omega) (by omega)]
  rfl
theorem zAk_loop {a : RS} {n : Nat} (hR : RO a n) (hn : a 9 0 = nI n) (g wo : Int32) {T : Nat} (hT : T ≤ 300) (post : Int32 → Prop) :
    ∀ (d : Nat) (w sum : Int32), d ≤ 6 → w.toInt = (T : Int) - d → post (zAv (zWI a g (nI T) wo n) d w sum) → wpX3_averageKnown_L9 a g (nI T) wo post (fun _ s => post (s / 6)) (d + 1) w sum := by
  intro d
  induction d with
  | zero =>
    intro w sum _ hw h
    rw [wpX3_averageKnown_L9]
    exact ⟨fun _ => h, fun c => absurd (Int32.le_iff_toInt_le.mpr (by rw [nI_toInt (by omega)]; omega)) c⟩
  | succ d ih =>
    intro w sum hd hw h
    rw [wpX3_averageKnown_L9]
    refine ⟨fun c => ?_, fun _ => ?_⟩
    · have := Int32.le_iff_toInt_le.mp c
      rw [nI_toInt (by omega)] at this
      omega
    · have hw3 : w ≤ 300 := Int32.le_iff_toInt_le.mpr (by
        have e : (300 : Int32).toInt = 300 := by decide
        omega)
      refine s_weeklyKnown hR hn g w (nI T) wo hw3 ⟨fun c => ?_, fun c => ?_⟩
      · unfold zAv at h
        rw [if_neg c] at h
        exact ih _ _ (by omega) (by rw [z_inc (by omega) (by omega)]; omega) h
      · unfold zAv at h
        rw [if_pos c] at h
        exact h
theorem s_averageKnown {a : RS} {n : Nat} (hR : RO a n) (hn : a 9 0 = nI n) (g wo : Int32) {T : Nat} (hT : T ≤ 300) {post : Int32 → Prop} (h : post (zAv (zWI a g (nI T) wo n) 6 (nI T - 6) 0)) : wpX3_averageKnown a g (nI T) wo post := by
  unfold wpX3_averageKnown
  exact ⟨7, zAk_loop hR hn g wo hT post 6 _ _ (Nat.le_refl _) (by rw [z_m6 hT]; rfl) h⟩
theorem zAa_loop {w : MS} {n : Nat} (hR : RO w.1 n) (hn : w.2.1 1 = nI n) (g kn : Int32) {T : Nat} (hT : T ≤ 300) (post : Int32 → Prop) :
    ∀ (d : Nat) (x sum : Int32), d ≤ 6 → x.toInt = (T : Int) - d → post (zAv (zWI w.1 g kn (w.2.1 6) n) d x sum) → wpX6_averageAt_L9 w g (nI T) kn post (fun _ s => post (s / 6)) (d + 1) x sum := by
  intro d
  induction d with
  | zero =>
    intro x sum _ hw h
    rw [wpX6_averageAt_L9]
    exact ⟨fun _ => h, fun c => absurd (Int32.le_iff_toInt_le.mpr (by rw [nI_toInt (by omega)]; omega)) c⟩
  | succ d ih =>
    intro x sum hd hw h
    rw [wpX6_averageAt_L9]
    refine ⟨fun c => ?_, fun _ => ⟨fun _ => ?_, fun c0 => ⟨fun c => absurd rfl c, fun _ => ?_⟩⟩⟩
    · have := Int32.le_iff_toInt_le.mp c
      rw [nI_toInt (by omega)] at this
      omega
    · have hw3 : x ≤ 300 := Int32.le_iff_toInt_le.mpr (by
        have e : (300 : Int32).toInt = 300 := by decide
        omega)
      refine s_weeklyAt hR hn g x kn hw3 ⟨fun c => ?_, fun c => ?_⟩
      · unfold zAv at h
        rw [if_neg c] at h
        exact ih _ _ (by omega) (by rw [z_inc (by omega) (by omega)]; omega) h
      · unfold zAv at h
        rw [if_pos c] at h
        exact h
    · unfold zAv at h
      have : zWI w.1 g kn (w.2.1 6) n x = -1 := by
        unfold zWI
        rw [if_pos (Int32.not_le.mp c0)]
      rw [if_pos this] at h
      exact h
theorem s_averageAt {w : MS} {n : Nat} (hR : RO w.1 n) (hn : w.2.1 1 = nI n) (g kn : Int32) {T : Nat} (hT : T ≤ 300) {post : Int32 → Prop} (h : post (zAv (zWI w.1 g kn (w.2.1 6) n) 6 (nI T - 6) 0)) : wpX6_averageAt w g (nI T) kn post := by
  unfold wpX6_averageAt
  exact ⟨7, zAa_loop hR hn g kn hT post 6 _ _ (Nat.le_refl _) (by rw [z_m6 hT]; rfl) h⟩
/-- two sides that agree over the rows of returns that are told -/
theorem zQ_congr {a b : RS} {g t t' wo : Int32} {v n : Nat} (h : ∀ k, k < n → (zM a g t wo v k ↔ zM b g t' wo v k) ∧ a 3 k = b 3 k ∧ a 4 k = b 4 k) : ∀ k, k ≤ n → zQ a g t wo v k = zQ b g t' wo v k ∧ zP a g t wo v k = zP b g t' wo v k := by
  intro k
  induction k with
  | zero => intro _; exact ⟨rfl, rfl⟩
  | succ k ih =>
    intro hk
    obtain ⟨i1, i2⟩ := ih (by omega)
    obtain ⟨h1, h2, h3⟩ := h k (by omega)
    unfold zQ zP
    by_cases m : zM a g t wo v k
    · have m' := h1.mp m
      rw [if_pos m, if_pos m', if_pos m, if_pos m', i1, i2, h2, h3]
      exact ⟨rfl, rfl⟩
    · have m' : ¬ zM b g t' wo v k := fun q => m (h1.mpr q)
      rw [if_neg m, if_neg m', if_neg m, if_neg m', i1, i2]
      exact ⟨rfl, rfl⟩
theorem zWI_congr {a b : RS} {g t t' wo : Int32} {n : Nat} (h : ∀ v k, k < n → (zM a g t wo v k ↔ zM b g t' wo v k) ∧ a 3 k = b 3 k ∧ a 4 k = b 4 k) : zWI a g t wo n = zWI b g t' wo n := by
  funext w
  have key : ∀ W, zW a g t wo n W = zW b g t' wo n W := by
    intro W
    induction W with
    | zero =>
      obtain ⟨e1, e2⟩ := zQ_congr (h 0) n (Nat.le_refl _)
      unfold zW; rw [e1, e2]
    | succ W ih =>
      obtain ⟨e1, e2⟩ := zQ_congr (h (W + 1)) n (Nat.le_refl _)
      unfold zW; rw [e1, e2, ih]
  unfold zWI
  rw [key]
