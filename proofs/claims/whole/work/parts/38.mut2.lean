/-! pairs: hang, step, letOut -/
/-- does one hang on g: the class's loop, of three -/
def zHb (on low : Nat → Int32) (g : Int32) : Nat → Nat → Bool
  | _, 0 => false
  | k, d + 1 => if 0 < low k ∧ on k = g then true else zHb on low g (k + 1) d
theorem zHk_loop {a : RS} (g : Int32) (post : Int32 → Prop) : ∀ d k, k + d = 3 → post (if zHb (a 0) (a 2) g k d then 1 else 0) → wpX1_bearsOne_L2 a g post (fun _ => post 0) (d + 1) (nI k) := by
  intro d
  induction d with
  | zero =>
    intro k hk h
    obtain rfl : k = 3 := by omega
    rw [wpX1_bearsOne_L2]
    exact ⟨fun _ => h, fun c => absurd (show (3 : Int32) ≤ nI 3 by decide) c⟩
  | succ d ih =>
    intro k hk h
    have e3 : (3 : Int32) = nI 3 := rfl
    have go := ih (k + 1) (by omega)
    unfold zHb at h
    have hv : vp_in (nI k) 3 := vp_in_nI (by omega) (by omega)
    rw [wpX1_bearsOne_L2, e3, nI_1]
    unfold wpX1_hangs
    rw [nI_clamp (by omega)]
    refine ⟨fun c => absurd c (nI_ge (by omega) (by omega)), fun _ => ⟨hv, fun c => ⟨fun _ => ?_, fun q => absurd rfl q⟩, fun c => ⟨fun q => absurd q (by decide), fun _ => ⟨hv, fun c2 => ?_, fun c2 => ?_⟩⟩⟩⟩
    · rw [show (if 0 < a 2 k ∧ a 0 k = g then true else zHb (a 0) (a 2) g (k + 1) d) = zHb (a 0) (a 2) g (k + 1) d from if_neg (fun q => Int32.not_lt.mpr c q.1)] at h; exact go h
    · rw [show (if 0 < a 2 k ∧ a 0 k = g then true else zHb (a 0) (a 2) g (k + 1) d) = zHb (a 0) (a 2) g (k + 1) d from if_neg (fun q => c2 q.2)] at h; exact go h
    · rw [show (if 0 < a 2 k ∧ a 0 k = g then true else zHb (a 0) (a 2) g (k + 1) d) = true from if_pos ⟨Int32.not_le.mp c, c2⟩] at h; exact h
/-- the model's loop -/
def zHc (on : Nat → Int32) (g : Int32) : Nat → Nat → Bool → Bool
  | _, 0, b => b
  | k, d + 1, b => zHc on g (k + 1) d (b || decide (on k = g))
theorem zHa_loop {w : MS} (g : Int32) (K : Int32 → Int32 → Prop) : ∀ d k (b : Bool), k + d = 3 → K (nI 3) (if zHc (w.1 13) g k d b then 1 else 0) → wpX6_hang_L63 w g K (d + 1) (nI k) (if b then 1 else 0) := by
  intro d
  induction d with
  | zero =>
    intro k b hk h
    obtain rfl : k = 3 := by omega
    rw [wpX6_hang_L63]
    exact ⟨fun _ => h, fun c => absurd (show (3 : Int32) ≤ nI 3 by decide) c⟩
  | succ d ih =>
    intro k b hk h
    have e3 : (3 : Int32) = nI 3 := rfl
    have go := ih (k + 1)
    unfold zHc at h
    have hv : vp_in (nI k) 3 := vp_in_nI (by omega) (by omega)
    rw [wpX6_hang_L63, e3, nI_1, nI_clamp (by omega)]
    refine ⟨fun c => absurd c (nI_ge (by omega) (by omega)), fun _ => ⟨fun c => ?_, fun c => ⟨hv, fun c2 => ?_, fun c2 => ?_⟩⟩⟩
    · cases b with
      | false => exact absurd rfl c
      | true => exact go true (by omega) h
    · cases b with
      | true => exact absurd c (by decide)
      | false =>
        have : (false || decide (w.1 13 k = g)) = false := by simp [c2]
        rw [this] at h
        exact go false (by omega) h
    · cases b with
      | true => exact absurd c (by decide)
      | false =>
        have : (false || decide (w.1 13 k = g)) = true := by simp [c2]
        rw [this] at h
        exact go true (by omega) h
theorem zHc_true (on : Nat → Int32) (g : Int32) : ∀ d k, zHc on g k d true = true := by
  intro d
  induction d with
  | zero => intro k; rfl
  | succ d ih => intro k; unfold zHc; rw [Bool.true_or]; exact ih (k + 1)
theorem zH_eq {h : RS} {m13 m14 m15 : Nat → Int32} (hh : Ih h m13 m14 m15) {g : Nat} (hg : g < 3) : ∀ d k, k + d = 3 → zHc m13 (nI g) k d false = zHb (h 0) (h 2) (nI g) k d := by
  intro d
  induction d with
  | zero => intro k _; rfl
  | succ d ih =>
    intro k hk
    unfold zHc zHb
    rcases hh k (by omega) with ⟨q1, q2⟩ | ⟨j, low, h1, h2, h3, h4, h5, h6, h7, h9⟩
    · have n1 : ¬ m13 k = nI g := by rw [q1]; exact fun q => zm1 (k := g) (by omega) q.symm
      have n2 : ¬ (0 < h 2 k ∧ h 0 k = nI g) := by rw [q2]; exact fun q => absurd q.1 (by decide)
      rw [if_neg n2, decide_eq_false n1, Bool.or_self]
      exact ih (k + 1) (by omega)
    · have p : 0 < h 2 k := by rw [h7]; exact Int32.not_le.mp (nI_nle (by omega) (by omega))
      by_cases c : m13 k = nI g
      · have c2 : h 0 k = nI g := by rw [h5, ← h4]; exact c
        rw [if_pos ⟨p, c2⟩, decide_eq_true c, Bool.or_true]
        exact zHc_true _ _ _ _
      · have c2 : ¬ (0 < h 2 k ∧ h 0 k = nI g) := fun q => c (by rw [h4, ← h5]; exact q.2)
        rw [if_neg c2, decide_eq_false c, Bool.or_self]
        exact ih (k + 1) (by omega)
theorem pr_hang {u : XS} {w : MS} (h : Inv u w) (g o up low : Int32) : wpX5_hang u g o up low (fun r1 u' => wpX6_hang w g o up low (fun r2 w' => r1 = r2 ∧ Inv u' w')) := by
  have hinv := h
  obtain ⟨nr, ns, nc, nl, wk, hsc, hr, hs, hh, hc, hl⟩ := h
  by_cases c1 : g < 0 ∨ 2 < g
  · unfold wpX5_hang wpX6_hang
    simp only [e_nog, e_isg, e_out, e_in, z_b0, z_b1]
    simp [c1, hinv]
  by_cases c2 : o < 0 ∨ 2 < o
  · unfold wpX5_hang wpX6_hang
    simp only [e_nog, e_isg, e_out, e_in, z_b0, z_b1]
    simp [c1, c2, hinv]
  by_cases c3 : g = o
  · unfold wpX5_hang wpX6_hang
    simp only [e_nog, e_isg, e_out, e_in, z_b0, z_b1]
    simp [c1, c2, c3, hinv]
  by_cases c4 : up < 1 ∨ 100 < up
  · unfold wpX5_hang wpX6_hang
    simp only [e_nog, e_isg, e_out, e_in, z_b0, z_b1]
    simp [c1, c2, c3, c4, hinv]
  by_cases c5 : low < 1 ∨ 100 < low
  · unfold wpX5_hang wpX6_hang
    simp only [e_nog, e_isg, e_out, e_in, z_b0, z_b1]
    simp [c1, c2, c3, c4, c5, hinv]
  obtain ⟨G, hG, rfl⟩ := z_rg (M := 2) (by omega) c1
  obtain ⟨O, hO, rfl⟩ := z_rg (M := 2) (by omega) c2
  have hvG : vp_in (nI G) 3 := vp_in_nI (by omega) (by omega)
  have hvO : vp_in (nI O) 3 := vp_in_nI (by omega) (by omega)
  have clG : (nI G).toNatClampNeg = G := nI_clamp (by omega)
  have clO : (nI O).toNatClampNeg = O := nI_clamp (by omega)
  -- the model's end, by what its loop says
  have fin : ∀ (r1 : Int32) (u' : XS) (b : Bool), (if b then w.1 13 O ≠ -1 else w.1 13 O = -1) →
      (zHc (w.1 13) (nI G) 0 3 b = true → r1 = -3 ∧ u' = u) → (zHc (w.1 13) (nI G) 0 3 b = false → r1 = 1 ∧ Inv u' (va_up (va_up (va_up w.1 13 (upd (w.1 13) G (nI O))) 14 (upd (w.1 14) G up)) 15 (upd (w.1 15) G low), w.2.1, w.2.2)) →
      ∃ n63 : Nat, wpX6_hang_L63 w (nI G) (fun (x6_63 : Int32) (x5_63 : Int32) => (x5_63 = 0 → vp_in (nI G) 3 ∧ (r1 = 1 ∧ Inv u' (va_up (va_up (va_up w.1 13 (upd (w.1 13) G (nI O))) 14 (upd (w.1 14) G up)) 15 (upd (w.1 15) G low), w.2.1, w.2.2))) ∧ (¬ x5_63 = 0 → r1 = -3 ∧ Inv u' w)) n63 0 (if b then 1 else 0) := by
    intro r1 u' b _ h1 h2
    refine ⟨4, zHa_loop (nI G) _ 3 0 b rfl ?_⟩
    cases hb : zHc (w.1 13) (nI G) 0 3 b with
    | true => exact ⟨fun q => absurd q (by decide), fun _ => ⟨(h1 hb).1, by rw [(h1 hb).2]; exact hinv⟩⟩
    | false => exact ⟨fun _ => ⟨hvG, h2 hb⟩, fun q => absurd rfl q⟩
  have all : ∀ (r1 : Int32) (u' : XS), (w.1 13 O ≠ -1 → r1 = -3 ∧ u' = u) → (w.1 13 O = -1 → zHc (w.1 13) (nI G) 0 3 false = true → r1 = -3 ∧ u' = u) → (w.1 13 O = -1 → zHc (w.1 13) (nI G) 0 3 false = false → r1 = 1 ∧ Inv u' (va_up (va_up (va_up w.1 13 (upd (w.1 13) G (nI O))) 14 (upd (w.1 14) G up)) 15 (upd (w.1 15) G low), w.2.1, w.2.2)) →
      wpX6_hang w (nI G) (nI O) up low (fun r2 w' => r1 = r2 ∧ Inv u' w') := by
    intro r1 u' h1 h2 h3
    unfold wpX6_hang
    simp only [e_isg, e_in, z_b0]
    rw [clO, clG]
    refine ⟨fun q => absurd q c1, fun _ => ⟨fun q => absurd q c2, fun _ => ⟨fun q => absurd q c3, fun _ => ⟨fun q => absurd q c4, fun _ => ⟨fun _ => ⟨hvO, fun q => ?_, fun q => ?_⟩, fun q => absurd q c5⟩⟩⟩⟩⟩
    · exact fin r1 u' false q (h2 q) (h3 q)
    · exact fin r1 u' true q (fun _ => h1 q) (fun z => absurd (zHc_true _ _ _ _) (by rw [z]; decide))
  obtain ⟨post, hpost⟩ : ∃ post : Int32 → XS → Prop, post = (fun (r1 : Int32) (u' : XS) => wpX6_hang w (nI G) (nI O) up low (fun r2 w' => r1 = r2 ∧ Inv u' w')) := ⟨_, rfl⟩
  rw [← hpost]
  have all : ∀ (r1 : Int32) (u' : XS), (w.1 13 O ≠ -1 → r1 = -3 ∧ u' = u) → (w.1 13 O = -1 → zHc (w.1 13) (nI G) 0 3 false = true → r1 = -3 ∧ u' = u) → (w.1 13 O = -1 → zHc (w.1 13) (nI G) 0 3 false = false → r1 = 1 ∧ Inv u' (va_up (va_up (va_up w.1 13 (upd (w.1 13) G (nI O))) 14 (upd (w.1 14) G up)) 15 (upd (w.1 15) G low), w.2.1, w.2.2)) → post r1 u' := fun r1 u' h1 h2 h3 => by rw [hpost]; exact all r1 u' h1 h2 h3
  -- generalize (fun (r1 : Int32) (u' : XS) => wpX6_hang w (nI G) (nI O) up low (fun r2 w' => r1 = r2 ∧ Inv u' w')) = post at all ⊢
  unfold wpX5_hang
  simp only [e_nog, e_out, z_b1]
  unfold wpX1_hangs
  rw [clO]
  refine ⟨fun q => absurd c1 q, fun _ => ⟨fun q => absurd c2 q, fun _ => ⟨fun q => absurd q c3, fun _ => ⟨fun q => absurd c4 q, fun _ => ⟨fun _ => ⟨hvO, fun d1 => ⟨fun q => absurd rfl q, fun _ => ?_⟩, fun d1 => ⟨fun _ => ?_, fun q => absurd q (by decide)⟩⟩, fun q => absurd c5 q⟩⟩⟩⟩⟩
  · -- the other doesn't hang
    have q1 : w.1 13 O = -1 := by
      rcases hh O (by omega) with ⟨q1, q2⟩ | ⟨j, lo, h1, h2, h3, h4, h5, h6, h7, h9⟩
      · exact q1
      · exact absurd d1 (by rw [h7]; exact nI_nle (by omega) (by omega))
    have heq := zH_eq hh (g := G) (by omega) 3 0 rfl
    unfold wpX1_bearsOne
    refine ⟨4, zHk_loop (nI G) _ 3 0 rfl ?_⟩
    cases hb : zHb (u.2.2.1 0) (u.2.2.1 2) (nI G) 0 3 with
    | true =>
      refine ⟨fun q => absurd q (by decide), fun _ => ?_⟩
      exact all (-3) u (fun q => absurd q1 q) (fun _ _ => ⟨rfl, rfl⟩) (fun _ z => absurd (heq.trans hb) (by rw [z]; decide))
    | false =>
      refine ⟨fun _ => ?_, fun q => absurd rfl q⟩
      unfold wpX1_put
      rw [clG]
      refine ⟨hvG, ?_⟩
      refine all 1 _ (fun q => absurd q1 q) (fun _ z => absurd (heq.trans hb) (by rw [z]; decide)) (fun _ _ => ⟨rfl, ?_⟩)
      obtain ⟨LW, hL1, hL2, rfl⟩ := z_rgl (L := 1) (M := 100) (by omega) (by omega) c5
      refine ⟨nr, ns, nc, nl, wk, hsc, hr, hs, ?_, hc, hl⟩
      intro i hi
      show (upd (w.1 13) G (nI O) i = -1 ∧ upd (u.2.2.1 2) G (nI LW) i = 0) ∨ (∃ j low, j < 3 ∧ 1 ≤ low ∧ low ≤ 100 ∧ upd (w.1 13) G (nI O) i = nI j ∧ upd (u.2.2.1 0) G (nI O) i = nI j ∧ upd (u.2.2.1 1) G up i = upd (w.1 14) G up i ∧ upd (u.2.2.1 2) G (nI LW) i = nI low ∧ upd (w.1 15) G (nI LW) i = nI low)
      by_cases z : i = G
      · rw [z]; simp only [zu_s]
        exact Or.inr ⟨O, LW, by omega, hL1, hL2, rfl, rfl, trivial, rfl, rfl⟩
      · simp only [zu_n z]; exact hh i hi
  · have q1 : w.1 13 O ≠ -1 := by
      rcases hh O (by omega) with ⟨q1, q2⟩ | ⟨j, lo, h1, h2, h3, h4, h5, h6, h7, h9⟩
      · exact absurd (show u.2.2.1 2 O ≤ 0 by rw [q2]; decide) d1
      · rw [h4]; exact zm1 (by omega)
    exact all (-3) u (fun _ => ⟨rfl, rfl⟩) (fun q => absurd q q1) (fun q => absurd q q1)
