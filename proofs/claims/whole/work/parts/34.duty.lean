/-! scales in force, duties -/
def Isc (o : Nat → Int32) (pd : Int64) (z0 z4 z6 z7 : Int32) (md : Int64) (wk : Nat) : Prop := o 0 = nI wk ∧ z0 = nI wk ∧ wk ≤ 200 ∧ o 1 = z4 ∧ z6 = -1 ∧ z7 = -1 ∧ pd = md
def Ir (a : RS) (m0 m1 m2 m3 m4 m5 m6 : Nat → Int32) (z : Int32) (n wk : Nat) : Prop :=
  a 9 0 = nI n ∧ z = nI n ∧ a 0 = m0 ∧ a 1 = m1 ∧ a 2 = m2 ∧ a 3 = m3 ∧ a 4 = m4 ∧ a 5 = m5 ∧ a 6 = m6 ∧ n ≤ 60 ∧
  ∀ k, k < n → (∃ x, x < 10 ∧ m0 k = nI x) ∧ (∃ v, v ≤ wk ∧ m2 k = nI v) ∧ (∃ q, 1 ≤ q ∧ q ≤ 1000 ∧ m3 k = nI q) ∧ (∃ p, p ≤ 2000 ∧ m4 k = nI p) ∧ (∃ s, s ≤ wk ∧ m5 k = nI s) ∧ (m6 k = -1 ∨ ∃ s, s ≤ wk ∧ m6 k = nI s)
def Is (s : RS) (m7 m8 m9 m10 m11 m12 : Nat → Int32) (z : Int32) (n : Nat) : Prop :=
  s 9 0 = nI n ∧ z = nI n ∧ n ≤ 8 ∧ s 0 = m7 ∧ s 1 = m8 ∧ s 2 = m9 ∧ s 3 = m10 ∧ (∀ k, n ≤ k → m10 k = 0) ∧ (∀ k, k < n → ∃ j, j ≤ 8 ∧ m10 k = nI j) ∧ (∀ k i, k < 8 → i < 8 → s (10 + k) i = m11 (8 * k + i) ∧ s (20 + k) i = m12 (8 * k + i))
def Ih (h : RS) (m13 m14 m15 : Nat → Int32) : Prop :=
  ∀ g, g < 3 → (m13 g = -1 ∧ h 2 g = 0) ∨ (∃ j low, j < 3 ∧ 1 ≤ low ∧ low ≤ 100 ∧ m13 g = nI j ∧ h 0 g = nI j ∧ h 1 g = m14 g ∧ h 2 g = nI low ∧ m15 g = nI low)
def Ic (c : RS) (m16 m17 m18 m19 m20 m21 : Nat → Int32) (z : Int32) (n : Nat) : Prop :=
  c 9 0 = nI n ∧ z = nI n ∧ n ≤ 20 ∧ c 0 = m16 ∧ c 1 = m17 ∧ c 2 = m18 ∧ c 3 = m19 ∧ c 4 = m20 ∧ c 5 = m21 ∧ (∀ k, n ≤ k → m18 k = 0 ∧ m19 k = 0 ∧ m20 k = 0) ∧ (∀ k, k < n → ∃ g, g < 3 ∧ m16 k = nI g)
def Il (l : RS) (m22 m23 m24 : Nat → Int32) (z : Int32) (n wk : Nat) : Prop :=
  l 9 0 = nI n ∧ z = nI n ∧ n ≤ 100 ∧ l 0 = m22 ∧ l 1 = m24 ∧ l 2 = m23 ∧ ∀ k, k < n → (∃ g, g < 3 ∧ m22 k = nI g) ∧ (∃ v, v ≤ wk ∧ m23 k = nI v)
def InvN (u : XS) (w : MS) (nr ns nc nl wk : Nat) : Prop :=
  Isc u.2.2.2.2.2.1 u.2.2.2.2.2.2 (w.2.1 0) (w.2.1 4) (w.2.1 6) (w.2.1 7) w.2.2 wk ∧ Ir u.1 (w.1 0) (w.1 1) (w.1 2) (w.1 3) (w.1 4) (w.1 5) (w.1 6) (w.2.1 1) nr wk ∧ Is u.2.1 (w.1 7) (w.1 8) (w.1 9) (w.1 10) (w.1 11) (w.1 12) (w.2.1 2) ns ∧ Ih u.2.2.1 (w.1 13) (w.1 14) (w.1 15) ∧ Ic u.2.2.2.1 (w.1 16) (w.1 17) (w.1 18) (w.1 19) (w.1 20) (w.1 21) (w.2.1 3) nc ∧ Il u.2.2.2.2.1 (w.1 22) (w.1 23) (w.1 24) (w.2.1 5) nl wk
def Inv (u : XS) (w : MS) : Prop := ∃ nr ns nc nl wk : Nat, InvN u w nr ns nc nl wk
theorem Ir.ro {a : RS} {w : MS} {z : Int32} {n wk : Nat} (hwk : wk ≤ 200) (h : Ir a (w.1 0) (w.1 1) (w.1 2) (w.1 3) (w.1 4) (w.1 5) (w.1 6) z n wk) : RO w.1 n := by
  obtain ⟨-, -, -, -, -, -, -, -, -, h60, hk⟩ := h
  refine ⟨h60, fun k hk' => ?_⟩
  obtain ⟨-, ⟨v, hv, ev⟩, hq, ⟨p, hp, ep⟩, -, -⟩ := hk k hk'
  exact ⟨⟨v, by omega, ev⟩, hq, ⟨p, by omega, ep⟩⟩
theorem Ir.roa {a : RS} {w : MS} {z : Int32} {n wk : Nat} (hwk : wk ≤ 200) (h : Ir a (w.1 0) (w.1 1) (w.1 2) (w.1 3) (w.1 4) (w.1 5) (w.1 6) z n wk) : RO a n := by
  have h1 := h.ro hwk
  obtain ⟨-, -, e0, e1, e2, e3, e4, e5, e6, h60, hk⟩ := h
  refine ⟨h1.1, fun k hk' => ?_⟩
  rw [e2, e3, e4]
  exact h1.2 k hk'
theorem Ir.wi {a : RS} {w : MS} {z : Int32} {n wk : Nat} (h : Ir a (w.1 0) (w.1 1) (w.1 2) (w.1 3) (w.1 4) (w.1 5) (w.1 6) z n wk) (g t wo : Int32) : zWI a g t wo n = zWI w.1 g t wo n := by
  obtain ⟨-, -, e0, e1, e2, e3, e4, e5, e6, h60, hk⟩ := h
  refine zWI_congr fun v k _ => ⟨?_, by rw [e3], by rw [e4]⟩
  unfold zM KN
  rw [e1, e2, e5, e6]
/-- the scale in force: of n told -/
def zF (gr wk st : Nat → Int32) (g t : Int32) : Nat → Int32
  | 0 => -1
  | k + 1 => if gr k = g ∧ 0 < st k ∧ wk k ≤ t then (if zF gr wk st g t k = -1 ∨ wk (zF gr wk st g t k).toNatClampNeg ≤ wk k then nI k else zF gr wk st g t k) else zF gr wk st g t k
theorem zF_in (gr wk st : Nat → Int32) (g t : Int32) : ∀ n, zF gr wk st g t n = -1 ∨ ∃ j, j < n ∧ zF gr wk st g t n = nI j := by
  intro n
  induction n with
  | zero => exact Or.inl rfl
  | succ n ih =>
    have up : zF gr wk st g t n = -1 ∨ ∃ j, j < n + 1 ∧ zF gr wk st g t n = nI j := by
      rcases ih with h | ⟨j, hj, e⟩
      · exact Or.inl h
      · exact Or.inr ⟨j, by omega, e⟩
    unfold zF
    split
    · split
      · exact Or.inr ⟨n, by omega, rfl⟩
      · exact up
    · exact up
theorem zFk_loop {a : RS} {n : Nat} (h8 : n ≤ 8) (hn : a 9 0 = nI n) (g t : Int32) (K : Int32 → Int32 → Prop) (hK : K (nI n) (zF (a 0) (a 1) (a 3) g t n)) :
    ∀ d k, k + d = n → wpX4_inForce_L5 a g t K (d + 1) (nI k) (zF (a 0) (a 1) (a 3) g t k) := by
  intro d
  induction d with
  | zero =>
    intro k hk
    obtain rfl : k = n := by omega
    rw [wpX4_inForce_L5, hn]
    exact ⟨fun _ => hK, fun c => absurd (nI_le (Nat.le_refl k) (by omega)) c⟩
  | succ d ih =>
    intro k hk
    have go := ih (k + 1) (by omega)
    unfold zF at go
    rw [wpX4_inForce_L5, hn, nI_clamp (by omega), nI_1]
    refine ⟨fun c => absurd c (nI_ge (by omega) (by omega)), fun _ => ⟨vp_in_nI (by omega) (by omega), fun c1 => ⟨fun _ => ?_, fun c => absurd rfl c⟩, fun c1 => ⟨fun c2 => ⟨fun _ => ?_, fun c => absurd rfl c⟩, fun c2 => ⟨fun c3 => ⟨fun _ => ?_, fun c => absurd rfl c⟩, fun c3 => ⟨fun c => absurd c (by decide), fun _ => ?_⟩⟩⟩⟩⟩
    · rw [if_neg (fun q => c1 q.1)] at go; exact go
    · rw [if_neg (fun q => Int32.not_lt.mpr c2 q.2.1)] at go; exact go
    · rw [if_neg (fun q => Int32.not_le.mpr c3 q.2.2)] at go; exact go
    · rw [if_pos ⟨c1, Int32.not_le.mp c2, Int32.not_lt.mp c3⟩] at go
      refine ⟨fun c4 => ?_, fun c4 => ?_⟩
      · rw [if_pos (Or.inl c4)] at go; exact go
      · have hin : vp_in (zF (a 0) (a 1) (a 3) g t k) 8 := by
          rcases zF_in (a 0) (a 1) (a 3) g t k with h | ⟨j, hj, e⟩
          · exact absurd h c4
          · rw [e]; exact vp_in_nI (by omega) (by omega)
        refine ⟨hin, fun c5 => ?_, fun c5 => ?_⟩
        · rw [if_neg (fun q => q.elim c4 (fun q => Int32.not_le.mpr c5 q))] at go; exact go
        · rw [if_pos (Or.inr (Int32.not_lt.mp c5))] at go; exact go
theorem s_inForce {a : RS} {n : Nat} (h8 : n ≤ 8) (hn : a 9 0 = nI n) (g t : Int32) {post : Int32 → Prop} (h : post (zF (a 0) (a 1) (a 3) g t n)) : wpX4_inForce a g t post := by
  unfold wpX4_inForce
  exact ⟨n + 1, zFk_loop h8 hn g t _ h n 0 (by omega)⟩
theorem zFa_loop {w : MS} {n : Nat} (h8 : n ≤ 8) (hn : w.2.1 2 = nI n) (g t : Int32) (K : Int32 → Int32 → Prop) (hK : K (nI n) (zF (w.1 7) (w.1 8) (w.1 10) g t n)) :
    ∀ d k, k + d = n → wpX6_forceAt_L5 w g t K (d + 1) (nI k) (zF (w.1 7) (w.1 8) (w.1 10) g t k) := by
  intro d
  induction d with
  | zero =>
    intro k hk
    obtain rfl : k = n := by omega
    rw [wpX6_forceAt_L5, hn]
    exact ⟨fun _ => hK, fun c => absurd (nI_le (Nat.le_refl k) (by omega)) c⟩
  | succ d ih =>
    intro k hk
    have go := ih (k + 1) (by omega)
    unfold zF at go
    rw [wpX6_forceAt_L5, hn, nI_clamp (by omega), nI_1]
    refine ⟨fun c => absurd c (nI_ge (by omega) (by omega)), fun _ => ⟨vp_in_nI (by omega) (by omega), fun c1 => ?_, fun c1 => ⟨fun c2 => ?_, fun c2 => ⟨fun c3 => ?_, fun c3 => ?_⟩⟩⟩⟩
    · rw [if_neg (fun q => c1 q.1)] at go; exact go
    · rw [if_neg (fun q => Int32.not_lt.mpr c2 q.2.1)] at go; exact go
    · rw [if_neg (fun q => Int32.not_le.mpr c3 q.2.2)] at go; exact go
    · rw [if_pos ⟨c1, Int32.not_le.mp c2, Int32.not_lt.mp c3⟩] at go
      refine ⟨fun c4 => ?_, fun c4 => ?_⟩
      · rw [if_pos (Or.inl c4)] at go; exact go
      · have hin : vp_in (zF (w.1 7) (w.1 8) (w.1 10) g t k) 8 := by
          rcases zF_in (w.1 7) (w.1 8) (w.1 10) g t k with h | ⟨j, hj, e⟩
          · exact absurd h c4
          · rw [e]; exact vp_in_nI (by omega) (by omega)
        refine ⟨hin, fun c5 => ?_, fun c5 => ?_⟩
        · rw [if_neg (fun q => q.elim c4 (fun q => Int32.not_le.mpr c5 q))] at go; exact go
        · rw [if_pos (Or.inr (Int32.not_lt.mp c5))] at go; exact go
theorem s_forceAt {w : MS} {n : Nat} (h8 : n ≤ 8) (hn : w.2.1 2 = nI n) (g t : Int32) {post : Int32 → Prop} (h : post (zF (w.1 7) (w.1 8) (w.1 10) g t n)) : wpX6_forceAt w g t post := by
  unfold wpX6_forceAt
  exact ⟨n + 1, zFa_loop h8 hn g t _ h n 0 (by omega)⟩
/-- which step: the last of 0 .. k whose price is not above v; 0 needs no test -/
def zI (pr : Nat → Int32) (v : Int32) : Nat → Nat
  | 0 => 0
  | k + 1 => if pr (k + 1) ≤ v then k + 1 else zI pr v k
theorem zI_le (pr : Nat → Int32) (v : Int32) : ∀ k, zI pr v k ≤ k := by
  intro k
  induction k with
  | zero => exact Nat.le_refl _
  | succ k ih => unfold zI; split <;> omega
def zDB (st p d : Nat → Int32) (s v : Int32) : Int32 := if s = -1 then 0 else if st s.toNatClampNeg = 0 then 0 else d (8 * s.toNatClampNeg + zI (fun k => p (8 * s.toNatClampNeg + k)) v ((st s.toNatClampNeg).toNatClampNeg - 1))
theorem zDk_loop {a : RS} {j m : Nat} (hj : j < 8) (hm : m ≤ 8) (em : a 3 j = nI m) (v : Int32) (p d' : Nat → Int32) (hp : ∀ i, i < 8 → a (10 + j) i = p (8 * j + i) ∧ a (20 + j) i = d' (8 * j + i)) (K : Int32 → Int32 → Prop) (hK : K (nI m) (d' (8 * j + zI (fun k => p (8 * j + k)) v (m - 1)))) :
    ∀ d k, k + 1 + d = m → wpX4_dutyBy_L31 a (nI j) v K (d + 1) (nI (k + 1)) (d' (8 * j + zI (fun k => p (8 * j + k)) v k)) := by
  intro d
  induction d with
  | zero =>
    intro k hk
    obtain rfl : m = k + 1 := by omega
    rw [wpX4_dutyBy_L31, nI_clamp (n := j) (by omega), em]
    exact ⟨fun _ => hK, fun c => absurd (nI_le (Nat.le_refl _) (by omega)) c⟩
  | succ d ih =>
    intro k hk
    have go := ih (k + 1) (by omega)
    unfold zI at go
    rw [wpX4_dutyBy_L31, nI_clamp (n := j) (by omega), em, nI_clamp (n := k + 1) (by omega), nI_1, (hp (k + 1) (by omega)).1, (hp (k + 1) (by omega)).2]
    refine ⟨fun c => absurd c (nI_ge (by omega) (by omega)), fun _ => ⟨vp_in_nI (by omega) (by omega), fun c => ?_, fun c => ?_⟩⟩
    · rw [if_neg (Int32.not_le.mpr c)] at go; exact go
    · rw [if_pos (Int32.not_lt.mp c)] at go; exact go
theorem s_dutyBy {a : RS} {m7 m8 m9 m10 m11 m12 : Nat → Int32} {z : Int32} {n : Nat} (hI : Is a m7 m8 m9 m10 m11 m12 z n) {s : Int32} (hs : s = -1 ∨ ∃ j, j < n ∧ s = nI j) (v : Int32) {post : Int32 → Prop} (h : post (zDB m10 m11 m12 s v)) : wpX4_dutyBy a s v post := by
  obtain ⟨hn, -, h8, e0, e1, e2, e3, hz, hst, hrow⟩ := hI
  unfold wpX4_dutyBy
  rw [e_has4, z_b0, hn]
  rcases hs with rfl | ⟨j, hj, rfl⟩
  · have : zDB m10 m11 m12 (-1) v = 0 := by unfold zDB; rw [if_pos rfl]
    rw [this] at h
    exact ⟨fun _ => h, fun c => absurd (Or.inl (by decide)) c⟩
  · have nm : ¬ nI j = -1 := fun q => nI_pos (n := j) (by omega) (by rw [q]; decide)
    refine ⟨fun c => ?_, fun _ => ⟨vp_in_nI (by omega) (by omega), ?_⟩⟩
    · exact absurd c (fun q => q.elim (nI_pos (by omega)) (fun q => nI_ge hj (by omega) q))
    · rw [nI_clamp (by omega)]
      unfold zDB at h
      rw [if_neg nm, nI_clamp (by omega)] at h
      obtain ⟨m, hm, em⟩ := hst j hj
      have em' : a 3 j = nI m := by rw [e3]; exact em
      rw [em']
      rw [em] at h
      refine ⟨fun c => ?_, fun c => ?_⟩
      · rw [if_neg c, nI_clamp (by omega)] at h
        have m1 : 1 ≤ m := by
          rcases Nat.eq_zero_or_pos m with q | q
          · exact absurd (by rw [q]; rfl) c
          · exact q
        have c0 : (0 : Int32).toNatClampNeg = 0 := by decide
        rw [c0, (hrow j 0 (by omega) (by omega)).2]
        exact ⟨m, by
          have := zDk_loop (a := a) (j := j) (m := m) (by omega) hm em' v m11 m12 (fun i hi => hrow j i (by omega) hi) (fun _ x => post x) h (m - 1) 0 (by omega)
          have e9 : m - 1 + 1 = m := by omega
          rw [e9] at this
          exact this⟩
      · rw [if_pos c] at h; exact h
theorem zDa_loop {w : MS} {j m : Nat} (hj : j < 8) (hm : m ≤ 8) (em : w.1 10 j = nI m) (v : Int32) (K : Int32 → Int32 → Prop) (hK : K (nI m) (nI (zI (fun k => w.1 11 (8 * j + k)) v (m - 1)))) :
    ∀ d k, k + 1 + d = m → wpX6_ownDuty_L69 w (nI j) v K (d + 1) (nI (k + 1)) (nI (zI (fun k => w.1 11 (8 * j + k)) v k)) := by
  have e8 : (8 : Int32) = nI 8 := rfl
  intro d
  induction d with
  | zero =>
    intro k hk
    obtain rfl : m = k + 1 := by omega
    rw [wpX6_ownDuty_L69, nI_clamp (n := j) (by omega), em]
    exact ⟨fun _ => hK, fun c => absurd (nI_le (Nat.le_refl _) (by omega)) c⟩
  | succ d ih =>
    intro k hk
    have go := ih (k + 1) (by omega)
    unfold zI at go
    rw [wpX6_ownDuty_L69, nI_clamp (n := j) (by omega), em, e8, pk_mul, nI_add, nI_clamp (n := 8 * j + (k + 1)) (by omega), nI_1]
    refine ⟨fun c => absurd c (nI_ge (by omega) (by omega)), fun _ => ⟨vp_in_nI (by omega) (by omega), fun c => ?_, fun c => ?_⟩⟩
    · rw [if_neg (Int32.not_le.mpr c)] at go; exact go
    · rw [if_pos (Int32.not_lt.mp c)] at go; exact go
/-- DUTY by a grain's own scales -/
def zOwn (w : MS) (ns nr : Nat) (g t kn wo al : Int32) : Int32 := zDB (w.1 10) (w.1 11) (w.1 12) (if al ≠ -1 ∧ w.1 7 al.toNatClampNeg = g then al else zF (w.1 7) (w.1 8) (w.1 10) g t ns) (zAv (zWI w.1 g kn wo nr) 6 (t - 6) 0)
theorem s_ownJ {w : MS} {ns nr : Nat} (hR : RO w.1 nr) (hn : w.2.1 1 = nI nr) (h8 : ns ≤ 8) (hst : ∀ k, k < ns → ∃ j, j ≤ 8 ∧ w.1 10 k = nI j) (g kn : Int32) {T : Nat} (hT : T ≤ 300) {s : Int32} (hs : s = -1 ∨ ∃ j, j < ns ∧ s = nI j) {post : Int32 → Prop} (h : post (zDB (w.1 10) (w.1 11) (w.1 12) s (zAv (zWI w.1 g kn (w.2.1 6) nr) 6 (nI T - 6) 0))) : wpX6_ownDuty_J34 w g (nI T) kn post s := by
  unfold wpX6_ownDuty_J34
  rcases hs with rfl | ⟨j, hj, rfl⟩
  · unfold zDB at h
    rw [if_pos rfl] at h
    exact ⟨fun _ => h, fun c => absurd rfl c⟩
  · have nm : ¬ nI j = -1 := fun q => nI_pos (n := j) (by omega) (by rw [q]; decide)
    refine ⟨fun c => absurd c nm, fun _ => ⟨vp_in_nI (by omega) (by omega), ?_⟩⟩
    unfold zDB at h
    rw [if_neg nm, nI_clamp (by omega)] at h
    rw [nI_clamp (by omega)]
    obtain ⟨m, hm, em⟩ := hst j hj
    rw [em]
    rw [em] at h
    refine ⟨fun c => ?_, fun c => ?_⟩
    · rw [if_neg c, nI_clamp (by omega)] at h
      have m1 : 1 ≤ m := by
        rcases Nat.eq_zero_or_pos m with q | q
        · exact absurd (by rw [q]; rfl) c
        · exact q
      refine s_averageAt hR hn g kn hT ⟨m, ?_⟩
      have e8 : (8 : Int32) = nI 8 := rfl
      have hle := zI_le (fun k => w.1 11 (8 * j + k)) (zAv (zWI w.1 g kn (w.2.1 6) nr) 6 (nI T - 6) 0) (m - 1)
      have := zDa_loop (w := w) (j := j) (m := m) (by omega) hm em (zAv (zWI w.1 g kn (w.2.1 6) nr) 6 (nI T - 6) 0) (fun _ x => vp_in ((8 * nI j) + x) 64 ∧ (post (w.1 12 ((8 * nI j) + x).toNatClampNeg))) (by
        rw [e8, pk_mul, nI_add, nI_clamp (by omega)]
        exact ⟨vp_in_nI (by omega) (by omega), h⟩) (m - 1) 0 (by omega)
      have e9 : m - 1 + 1 = m := by omega
      rw [e9] at this
      exact this
    · rw [if_pos c] at h; exact h
theorem s_ownDuty {w : MS} {ns nr : Nat} (hR : RO w.1 nr) (hn : w.2.1 1 = nI nr) (h8 : ns ≤ 8) (hs2 : w.2.1 2 = nI ns) (hst : ∀ k, k < ns → ∃ j, j ≤ 8 ∧ w.1 10 k = nI j) (hal : w.2.1 7 = -1 ∨ ∃ j, j < ns ∧ w.2.1 7 = nI j) (g kn : Int32) {T : Nat} (hT : T ≤ 300) {post : Int32 → Prop} (h : post (zOwn w ns nr g (nI T) kn (w.2.1 6) (w.2.1 7))) : wpX6_ownDuty w g (nI T) kn post := by
  unfold wpX6_ownDuty
  unfold zOwn at h
  have hF := zF_in (w.1 7) (w.1 8) (w.1 10) g (nI T) ns
  refine ⟨fun c => ?_, fun c => ?_⟩
  · rw [if_neg (fun q => q.1 c)] at h
    exact s_forceAt h8 hs2 g (nI T) (s_ownJ hR hn h8 hst g kn hT hF h)
  · have hin : vp_in (w.2.1 7) 8 := by
      rcases hal with q | ⟨j, hj, e⟩
      · exact absurd q c
      · rw [e]; exact vp_in_nI (by omega) (by omega)
    refine ⟨hin, fun c2 => ?_, fun c2 => ?_⟩
    · rw [if_neg (fun q => c2 q.2)] at h
      exact s_forceAt h8 hs2 g (nI T) (s_ownJ hR hn h8 hst g kn hT hF h)
    · rw [if_pos ⟨c, c2⟩] at h
      exact s_ownJ hR hn h8 hst g kn hT hal h
/-- DUTY of a grain -/
def zDt (w : MS) (ns nr g : Nat) (t kn wo al : Int32) : Int32 := if w.1 13 g = -1 then zOwn w ns nr (nI g) t kn wo al else (zOwn w ns nr (w.1 13 g) t kn wo al * w.1 14 g) / w.1 15 g
theorem s_dutyAtM {w : MS} {ns nr : Nat} (hR : RO w.1 nr) (hn : w.2.1 1 = nI nr) (h8 : ns ≤ 8) (hs2 : w.2.1 2 = nI ns) (hst : ∀ k, k < ns → ∃ j, j ≤ 8 ∧ w.1 10 k = nI j) (hal : w.2.1 7 = -1 ∨ ∃ j, j < ns ∧ w.2.1 7 = nI j) {hh : RS} (hH : Ih hh (w.1 13) (w.1 14) (w.1 15)) {g : Nat} (hg : g < 3) (kn : Int32) {T : Nat} (hT : T ≤ 300) {post : Int32 → Prop} (h : post (zDt w ns nr g (nI T) kn (w.2.1 6) (w.2.1 7))) : wpX6_dutyAt w (nI g) (nI T) kn post := by
  unfold wpX6_dutyAt
  unfold zDt at h
  rw [nI_clamp (by omega)]
  refine ⟨vp_in_nI hg (by omega), fun c => ?_, fun c => ?_⟩
  · rw [if_neg c] at h
    have hne : ¬ w.1 15 g = 0 := by
      rcases hH g hg with ⟨q, -⟩ | ⟨j, low, h1, h2, h3, h4, h5, h6, h7, h8⟩
      · exact absurd q c
      · rw [h8]; exact nI_ne0 (by omega) (by omega)
    exact s_ownDuty hR hn h8 hs2 hst hal _ kn hT ⟨hne, h⟩
  · rw [if_pos c] at h
    exact s_ownDuty hR hn h8 hs2 hst hal _ kn hT h
theorem s_dutyAtX {u : XS} {w : MS} {nr ns nc nl wk : Nat} (hI : InvN u w nr ns nc nl wk) {g : Nat} (hg : g < 3) (wo : Int32) {al : Int32} (hal : al = -1 ∨ ∃ j, j < ns ∧ al = nI j) {T : Nat} (hT : T ≤ 300) {post : Int32 → Prop} (h : post (zDt w ns nr g (nI T) (nI T) wo al)) : wpX5_dutyAt u (nI g) (nI T) wo al post := by
  obtain ⟨hsc, hr, hs, hh, -, -⟩ := hI
  have hRa := hr.roa hsc.2.2.1
  have hwi := hr.wi
  have hsd := hs
  obtain ⟨hn, hz, h8, e0, e1, e2, e3, hz3, hst, hrow⟩ := hs
  unfold wpX5_dutyAt wpX1_rulingOver wpX1_hangs
  unfold zDt at h
  have clg : (nI g).toNatClampNeg = g := nI_clamp (by omega)
  rw [clg]
  -- what comes behind the ruling grain
  have rest : ∀ (rg : Int32) (fin : Int32 → Prop), (fin (zOwn w ns nr rg (nI T) (nI T) wo al)) → wpX4_isOf u.2.1 al rg (fun r2 : Int32 => (r2 = 0 → wpX4_inForce u.2.1 rg (nI T) (fun r4 : Int32 => wpX3_averageKnown u.1 rg (nI T) wo (fun r5 : Int32 => wpX4_dutyBy u.2.1 r4 r5 fin))) ∧ (¬ r2 = 0 → wpX3_averageKnown u.1 rg (nI T) wo (fun r8 : Int32 => wpX4_dutyBy u.2.1 al r8 fin))) := by
    intro rg fin hf
    unfold zOwn at hf
    have other : (fin (zDB (w.1 10) (w.1 11) (w.1 12) (zF (w.1 7) (w.1 8) (w.1 10) rg (nI T) ns) (zAv (zWI w.1 rg (nI T) wo nr) 6 (nI T - 6) 0))) → wpX4_inForce u.2.1 rg (nI T) (fun r4 : Int32 => wpX3_averageKnown u.1 rg (nI T) wo (fun r5 : Int32 => wpX4_dutyBy u.2.1 r4 r5 fin)) := fun hf => by
      refine s_inForce h8 hn rg (nI T) ?_
      rw [e0, e1, e3]
      refine s_averageKnown hRa hr.1 rg wo hT ?_
      rw [hwi]
      exact s_dutyBy hsd (zF_in _ _ _ _ _ _) _ hf
    unfold wpX4_isOf
    rw [e_has4, z_b0, hn]
    refine ⟨fun c => ⟨fun _ => ?_, fun q => absurd rfl q⟩, fun c => ?_⟩
    · have hm1 : al = -1 := by
        rcases hal with q | ⟨j, hj, e⟩
        · exact q
        · exfalso
          rw [e] at c
          exact c.elim (nI_pos (by omega)) (nI_ge hj (by omega))
      rw [if_neg (fun q => q.1 hm1)] at hf
      exact other hf
    · obtain ⟨j, hj, e⟩ : ∃ j, j < ns ∧ al = nI j := by
        rcases hal with q | q
        · exact absurd (Or.inl (by rw [q]; decide)) c
        · exact q
      subst e
      have nm : ¬ nI j = -1 := fun q => nI_pos (n := j) (by omega) (by rw [q]; decide)
      rw [nI_clamp (by omega), e0]
      rw [nI_clamp (by omega)] at hf
      refine ⟨vp_in_nI (by omega) (by omega), fun c2 => ⟨fun _ => ?_, fun q => absurd rfl q⟩, fun c2 => ⟨fun q => absurd q (by decide), fun _ => ?_⟩⟩
      · rw [if_neg (fun q => c2 q.2)] at hf
        exact other hf
      · rw [if_pos ⟨nm, c2⟩] at hf
        refine s_averageKnown hRa hr.1 rg wo hT ?_
        rw [hwi]
        exact s_dutyBy hsd (Or.inr ⟨j, hj, rfl⟩) _ hf
  have hv : vp_in (nI g) 3 := vp_in_nI hg (by omega)
  rcases hh g hg with ⟨q1, q2⟩ | ⟨j, low, h1, h2, h3, h4, h5, h6, h7, h9⟩
  · rw [if_pos q1] at h
    have c0 : u.2.2.1 2 g ≤ 0 := by rw [q2]; decide
    refine ⟨hv, fun _ => ⟨fun _ => ?_, fun q => absurd rfl q⟩, fun q => absurd c0 q⟩
    have fin : (fun r6 : Int32 => wpX1_inProportion u.2.2.1 (nI g) r6 (fun r7 : Int32 => post r7)) (zOwn w ns nr (nI g) (nI T) (nI T) wo al) := by
      show wpX1_inProportion _ _ _ _
      unfold wpX1_inProportion wpX1_hangs
      rw [clg]
      exact ⟨hv, fun _ => ⟨fun _ => h, fun q => absurd rfl q⟩, fun q => absurd c0 q⟩
    exact rest (nI g) _ fin
  · have nm : ¬ w.1 13 g = -1 := by rw [h4]; exact fun q => nI_pos (n := j) (by omega) (by rw [q]; decide)
    rw [if_neg nm] at h
    have c0 : ¬ u.2.2.1 2 g ≤ 0 := by rw [h7]; exact nI_nle (by omega) (by omega)
    have cz : ¬ u.2.2.1 2 g = 0 := by rw [h7]; exact nI_ne0 (by omega) (by omega)
    refine ⟨hv, fun q => absurd q c0, fun _ => ⟨fun q => absurd q (by decide), fun _ => ⟨hv, ?_⟩⟩⟩
    rw [h5, ← h4]
    have fin : (fun r6 : Int32 => wpX1_inProportion u.2.2.1 (nI g) r6 (fun r7 : Int32 => post r7)) (zOwn w ns nr (w.1 13 g) (nI T) (nI T) wo al) := by
      show wpX1_inProportion _ _ _ _
      unfold wpX1_inProportion wpX1_hangs
      rw [clg]
      refine ⟨hv, fun q => absurd q c0, fun _ => ⟨fun q => absurd q (by decide), fun _ => ⟨hv, cz, ?_⟩⟩⟩
      rw [h6, h7, ← h9]
      exact h
    exact rest (w.1 13 g) _ fin
