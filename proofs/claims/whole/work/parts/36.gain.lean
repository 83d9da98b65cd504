/-! what is left, gains, the chest anew -/
def zLf (sp : Int32) : Nat → Int32 → Int32
  | 0, x => x
  | d + 1, x => zLf sp d (x - (x * sp) / 1000)
theorem zLk_loop (sp : Int32) {N : Nat} (hN : N ≤ 1000) (K : Int32 → Int32 → Prop) : ∀ d i x, i + d = N → K (nI N) (zLf sp d x) → wpX0_leftAfter_L11 (nI N) sp K (d + 1) (nI i) x := by
  intro d
  induction d with
  | zero =>
    intro i x hi h
    obtain rfl : i = N := by omega
    rw [wpX0_leftAfter_L11]
    exact ⟨fun _ => h, fun c => absurd (nI_le (Nat.le_refl i) (by omega)) c⟩
  | succ d ih =>
    intro i x hi h
    rw [wpX0_leftAfter_L11, nI_1]
    unfold wpX0_lossOf
    exact ⟨fun c => absurd c (nI_ge (by omega) (by omega)), fun _ => ih (i + 1) _ (by omega) h⟩
theorem zLa_loop {w : MS} {N : Nat} (hN : N ≤ 1000) (K : Int32 → Int32 → Prop) : ∀ d i x, i + d = N → K (nI N) (zLf (w.2.1 4) d x) → wpX6_gainAt_L14 w (nI N) K (d + 1) (nI i) x := by
  intro d
  induction d with
  | zero =>
    intro i x hi h
    obtain rfl : i = N := by omega
    rw [wpX6_gainAt_L14]
    exact ⟨fun _ => h, fun c => absurd (nI_le (Nat.le_refl i) (by omega)) c⟩
  | succ d ih =>
    intro i x hi h
    rw [wpX6_gainAt_L14, nI_1]
    exact ⟨fun c => absurd c (nI_ge (by omega) (by omega)), fun _ => ih (i + 1) _ (by omega) h⟩
/-- from THE WEEK on nothing more gets known -/
theorem zWI_now {a : RS} {w : MS} {z : Int32} {n wk T : Nat} (hwk : wk ≤ 200) (hT : wk ≤ T) (hT2 : T ≤ 300) (h : Ir a (w.1 0) (w.1 1) (w.1 2) (w.1 3) (w.1 4) (w.1 5) (w.1 6) z n wk) (g wo : Int32) : zWI w.1 g (nI T) wo n = zWI w.1 g (nI wk) wo n := by
  obtain ⟨-, -, -, -, -, -, -, -, -, h60, hk⟩ := h
  refine zWI_congr fun v k hk' => ⟨?_, rfl, rfl⟩
  obtain ⟨-, -, -, -, ⟨s, hs, es⟩, h6⟩ := hk k hk'
  have key : ∀ t, wk ≤ t → t ≤ 300 → (KN w.1 k (nI t) ↔ w.1 6 k = -1) := fun t h1 h2 => by
    unfold KN
    rw [es]
    refine ⟨fun q => ?_, fun q => ⟨nI_le (by omega) (by omega), Or.inl q⟩⟩
    rcases q.2 with q | q
    · exact q
    · rcases h6 with q2 | ⟨s2, h3, e2⟩
      · exact q2
      · rw [e2] at q
        exact absurd q (nI_nlt (by omega) (by omega))
  unfold zM
  rw [key T hT hT2, key wk (Nat.le_refl _) (by omega)]
theorem zDt_now {a : RS} {w : MS} {z : Int32} {n wk T : Nat} (hwk : wk ≤ 200) (hT : wk ≤ T) (hT2 : T ≤ 300) (h : Ir a (w.1 0) (w.1 1) (w.1 2) (w.1 3) (w.1 4) (w.1 5) (w.1 6) z n wk) (ns g : Nat) (t wo al : Int32) : zDt w ns n g t (nI T) wo al = zDt w ns n g t (nI wk) wo al := by
  unfold zDt zOwn
  rw [zWI_now hwk hT hT2 h, zWI_now hwk hT hT2 h]
/-- GAIN of the cargo k at T -/
def zG (w : MS) (ns nr wk k : Nat) (p : Int32) (T : Nat) : Int64 := (p - zDt w ns nr ((w.1 16 k).toNatClampNeg) (nI T) (nI T) (-1) (-1)).toInt64 * (zLf (w.2.1 4) (T - wk) (w.1 17 k)).toInt64
theorem s_gainAtX {u : XS} {w : MS} {nr ns nc nl wk : Nat} (hI : InvN u w nr ns nc nl wk) {k : Nat} (hk : k < nc) (p : Int32) {T : Nat} (hT : wk ≤ T) (hT2 : T ≤ 220) {post : Int64 → Prop} (h : post (zG w ns nr wk k p T)) : wpX5_gainAt u (nI k) (nI T) p post := by
  have hI0 := hI
  obtain ⟨hsc, hr, hs, hh, hc, -⟩ := hI
  obtain ⟨hn, hz, h20, e0, e1, e2, e3, e4, e5, hz2, hgr⟩ := hc
  obtain ⟨g, hg, eg⟩ := hgr k hk
  unfold wpX5_gainAt
  unfold zG at h
  rw [eg, nI_clamp (by omega)] at h
  rw [nI_clamp (by omega), e0, eg]
  refine ⟨vp_in_nI (by omega) (by omega), s_dutyAtX hI0 hg (-1) (Or.inl rfl) (by omega) ?_⟩
  unfold wpX0_leftAfter
  rw [nI_clamp (by omega), e1, hsc.1, hsc.2.2.2.1, pk_sub hT]
  exact ⟨vp_in_nI (by omega) (by omega), T - wk + 1, zLk_loop _ (by omega) _ (T - wk) 0 _ (by omega) h⟩
theorem s_gainAtM {u : XS} {w : MS} {nr ns nc nl wk : Nat} (hI : InvN u w nr ns nc nl wk) {k : Nat} (hk : k < nc) (p : Int32) {T : Nat} (hT : wk ≤ T) (hT2 : T ≤ 220) {post : Int64 → Prop} (h : post (zG w ns nr wk k p T)) : wpX6_gainAt w (nI k) (nI T) p post := by
  obtain ⟨hsc, hr, hs, hh, hc, -⟩ := hI
  have hR := hr.ro hsc.2.2.1
  obtain ⟨hn, hz, h20, e0, e1, e2, e3, e4, e5, hz2, hgr⟩ := hc
  obtain ⟨sn, sz, s8, se0, se1, se2, se3, shz3, sst, srow⟩ := hs
  obtain ⟨g, hg, eg⟩ := hgr k hk
  unfold wpX6_gainAt
  unfold zG at h
  rw [eg, nI_clamp (by omega), zDt_now hsc.2.2.1 hT (by omega) hr] at h
  rw [nI_clamp (by omega), eg, hsc.2.1]
  refine ⟨vp_in_nI (by omega) (by omega), T - wk + 1, zLa_loop (by omega) _ (T - wk) wk _ (by omega) ?_⟩
  refine s_dutyAtM hR hr.2.1 s8 sz sst (Or.inl hsc.2.2.2.2.2.1) hh hg (nI wk) (by omega) ?_
  rw [hsc.2.2.2.2.1, hsc.2.2.2.2.2.1, Int64.mul_comm]
  exact h
theorem z_in20 {wk : Nat} (hwk : wk ≤ 200) {t : Int32} (h : ¬ (t < nI wk ∨ nI wk + 20 < t)) : ∃ T, wk ≤ T ∧ T ≤ wk + 20 ∧ t = nI T := by
  have e : (20 : Int32) = nI 20 := rfl
  rw [e, nI_add] at h
  exact z_rgl (by omega) (by omega) h
theorem pr_gain {u : XS} {w : MS} (h : Inv u w) (k t p : Int32) : wpX5_gain u k t p (fun r1 => wpX6_gain w k t p (fun r2 => r1 = r2)) := by
  obtain ⟨nr, ns, nc, nl, wk, hI⟩ := h
  have hI0 := hI
  obtain ⟨hsc, hr, hs, hh, hc, -⟩ := hI
  unfold wpX5_gain wpX6_gain
  simp only [e_has0, e_isC, e_out, e_in, z_b0, z_b1]
  rw [hc.1, hc.2.1, hsc.1, hsc.2.1, z_cnt (by have := hc.2.2.1; omega)]
  by_cases c1 : k < 0 ∨ nI nc ≤ k
  · simp [c1]
  by_cases c2 : t < nI wk ∨ nI wk + 20 < t
  · simp [c1, c2]
  by_cases c3 : p < 0 ∨ 2000 < p
  · simp [c1, c2, c3]
  obtain ⟨j, hj, rfl⟩ := z_ix (by have := hc.2.2.1; omega) c1
  obtain ⟨T, hT, hT2, rfl⟩ := z_in20 hsc.2.2.1 c2
  have hwk := hsc.2.2.1
  refine ⟨fun q => absurd q c1, fun _ => ⟨fun q => absurd c2 q, fun _ => ⟨fun _ => ?_, fun q => absurd c3 q⟩⟩⟩
  refine s_gainAtX hI0 hj p hT (by omega) ?_
  refine ⟨fun q => absurd q c1, fun _ => ⟨fun q => absurd q c2, fun _ => ⟨fun q => absurd q c3, fun _ => ?_⟩⟩⟩
  exact s_gainAtM hI0 hj p hT (by omega) rfl
/-- BEST: after k more weeks -/
def zBs (G : Nat → Int64) (wk : Nat) : Nat → Nat
  | 0 => wk
  | k + 1 => if G (zBs G wk k) < G (wk + k + 1) then wk + k + 1 else zBs G wk k
theorem zBs_in (G : Nat → Int64) (wk : Nat) : ∀ k, wk ≤ zBs G wk k ∧ zBs G wk k ≤ wk + k := by
  intro k
  induction k with
  | zero => exact ⟨Nat.le_refl _, Nat.le_refl _⟩
  | succ k ih => unfold zBs; split <;> omega
theorem zBk_loop {u : XS} {w : MS} {nr ns nc nl wk : Nat} (hI : InvN u w nr ns nc nl wk) {k : Nat} (hk : k < nc) (p : Int32) {N : Nat} (hN : N ≤ 20) (K : Int32 → Int64 → Int32 → Prop) (hK : K (nI (wk + N + 1)) (zG w ns nr wk k p (zBs (zG w ns nr wk k p) wk N)) (nI (zBs (zG w ns nr wk k p) wk N))) :
    ∀ d i, i + d = N → wpX5_best_L61 u (nI k) (nI N) p K (d + 1) (nI (wk + i + 1)) (zG w ns nr wk k p (zBs (zG w ns nr wk k p) wk i)) (nI (zBs (zG w ns nr wk k p) wk i)) := by
  have hwk := hI.1.2.2.1
  have ho := hI.1.1
  intro d
  induction d with
  | zero =>
    intro i hi
    obtain rfl : i = N := by omega
    rw [wpX5_best_L61, ho, nI_add]
    exact ⟨fun _ => hK, fun c => absurd (nI_lt (by omega) (by omega)) c⟩
  | succ d ih =>
    intro i hi
    have go := ih (i + 1) (by omega)
    unfold zBs at go
    have e9 : wk + (i + 1) + 1 = wk + i + 1 + 1 := by omega
    rw [e9] at go
    rw [wpX5_best_L61, ho, nI_add, nI_1]
    refine ⟨fun c => absurd c (nI_nlt (by omega) (by omega)), fun _ => s_gainAtX hI hk p (by omega) (by omega) ⟨fun c => ?_, fun c => ?_⟩⟩
    · rw [lg_cmp_le] at c
      rw [if_neg (Int64.not_lt.mpr c)] at go; exact go
    · rw [lg_cmp_le] at c
      rw [if_pos (Int64.not_le.mp c)] at go; exact go
theorem zBa_loop {u : XS} {w : MS} {nr ns nc nl wk : Nat} (hI : InvN u w nr ns nc nl wk) {k : Nat} (hk : k < nc) (p : Int32) {N : Nat} (hN : N ≤ 20) (K : Int32 → Int32 → Prop) (hK : K (nI (wk + N + 1)) (nI (zBs (zG w ns nr wk k p) wk N))) :
    ∀ d i, i + d = N → wpX6_best_L46 w (nI k) (nI N) p K (d + 1) (nI (wk + i + 1)) (nI (zBs (zG w ns nr wk k p) wk i)) := by
  have hwk := hI.1.2.2.1
  have ho := hI.1.2.1
  intro d
  induction d with
  | zero =>
    intro i hi
    obtain rfl : i = N := by omega
    rw [wpX6_best_L46, ho, nI_add]
    exact ⟨fun _ => hK, fun c => absurd (nI_lt (by omega) (by omega)) c⟩
  | succ d ih =>
    intro i hi
    have go := ih (i + 1) (by omega)
    unfold zBs at go
    have e9 : wk + (i + 1) + 1 = wk + i + 1 + 1 := by omega
    rw [e9] at go
    have hb := zBs_in (zG w ns nr wk k p) wk i
    rw [wpX6_best_L46, ho, nI_add, nI_1]
    refine ⟨fun c => absurd c (nI_nlt (by omega) (by omega)), fun _ => s_gainAtM hI hk p (by omega) (by omega) (s_gainAtM hI hk p hb.1 (by omega) ⟨fun c => ?_, fun c => ?_⟩)⟩
    · rw [lg_cmp_le] at c
      rw [if_neg (Int64.not_lt.mpr c)] at go; exact go
    · rw [lg_cmp_le] at c
      rw [if_pos (Int64.not_le.mp c)] at go; exact go
theorem pr_best {u : XS} {w : MS} (h : Inv u w) (k n p : Int32) : wpX5_best u k n p (fun r1 => wpX6_best w k n p (fun r2 => r1 = r2)) := by
  obtain ⟨nr, ns, nc, nl, wk, hI⟩ := h
  have hI0 := hI
  obtain ⟨hsc, hr, hs, hh, hc, -⟩ := hI
  have hwk := hsc.2.2.1
  unfold wpX5_best wpX6_best
  simp only [e_has0, e_isC, e_out, e_in, z_b0, z_b1]
  rw [hc.1, hc.2.1, hsc.1, hsc.2.1, z_cnt (by have := hc.2.2.1; omega)]
  by_cases c1 : k < 0 ∨ nI nc ≤ k
  · simp [c1]
  by_cases c2 : n < 0 ∨ 20 < n
  · simp [c1, c2]
  by_cases c3 : p < 0 ∨ 2000 < p
  · simp [c1, c2, c3]
  obtain ⟨j, hj, rfl⟩ := z_ix (by have := hc.2.2.1; omega) c1
  obtain ⟨N, hN, rfl⟩ := z_rg (M := 20) (by omega) c2
  refine ⟨fun q => absurd q c1, fun _ => ⟨fun q => absurd c2 q, fun _ => ⟨fun _ => ?_, fun q => absurd c3 q⟩⟩⟩
  refine s_gainAtX hI0 hj p (Nat.le_refl _) (by omega) ⟨N + 1, ?_⟩
  rw [nI_1]
  refine zBk_loop hI0 hj p hN _ ?_ N 0 (by omega)
  refine ⟨fun q => absurd q c1, fun _ => ⟨fun q => absurd q c2, fun _ => ⟨fun _ => ⟨N + 1, ?_⟩, fun q => absurd q c3⟩⟩⟩
  exact zBa_loop hI0 hj p hN _ rfl N 0 (by omega)
/-- THE CHEST, all duties told anew -/
def zCA (w : MS) (ns nr : Nat) (wo al : Int32) : Nat → Int64
  | 0 => 0
  | k + 1 => zCA w ns nr wo al k + (w.1 24 k).toInt64 * (zDt w ns nr ((w.1 22 k).toNatClampNeg) (w.1 23 k) (w.1 23 k) wo al).toInt64
theorem zCk_loop {u : XS} {w : MS} {nr ns nc nl wk : Nat} (hI : InvN u w nr ns nc nl wk) (wo : Int32) {al : Int32} (hal : al = -1 ∨ ∃ j, j < ns ∧ al = nI j) (K : Int32 → Int64 → Prop) (hK : K (nI nl) (zCA w ns nr wo al nl)) :
    ∀ d k, k + d = nl → wpX5_chestAnew_L5 u wo al K (d + 1) (nI k) (zCA w ns nr wo al k) := by
  have hI0 := hI
  obtain ⟨hsc, hr, hs, hh, hc, hn, hz, h100, e0, e1, e2, hk⟩ := hI
  have hwk := hsc.2.2.1
  intro d
  induction d with
  | zero =>
    intro k hk'
    obtain rfl : k = nl := by omega
    rw [wpX5_chestAnew_L5, hn]
    exact ⟨fun _ => hK, fun c => absurd (nI_le (Nat.le_refl k) (by omega)) c⟩
  | succ d ih =>
    intro k hk'
    have go := ih (k + 1) (by omega)
    unfold zCA at go
    obtain ⟨⟨g, hg, eg⟩, ⟨v, hv, ev⟩⟩ := hk k (by omega)
    rw [eg, ev, nI_clamp (by omega)] at go
    rw [wpX5_chestAnew_L5, hn, nI_clamp (by omega), nI_1, e0, e1, e2, eg, ev]
    refine ⟨fun c => absurd c (nI_ge (by omega) (by omega)), fun _ => ⟨vp_in_nI (by omega) (by omega), s_dutyAtX hI0 hg wo hal (by omega) go⟩⟩
theorem zCa_loop {w : MS} {nr ns nl : Nat} (hR : RO w.1 nr) (hn : w.2.1 1 = nI nr) (h8 : ns ≤ 8) (hs2 : w.2.1 2 = nI ns) (hst : ∀ k, k < ns → ∃ j, j ≤ 8 ∧ w.1 10 k = nI j) (hal : w.2.1 7 = -1 ∨ ∃ j, j < ns ∧ w.2.1 7 = nI j) {hh : RS} (hH : Ih hh (w.1 13) (w.1 14) (w.1 15)) (h100 : nl ≤ 100) (hnl : w.2.1 5 = nI nl) (hk : ∀ k, k < nl → (∃ g, g < 3 ∧ w.1 22 k = nI g) ∧ (∃ v, v ≤ 200 ∧ w.1 23 k = nI v)) (K : Int32 → Int64 → Prop) (hK : K (nI nl) (zCA w ns nr (w.2.1 6) (w.2.1 7) nl)) :
    ∀ d k, k + d = nl → wpX6_paidAnew_L4 w K (d + 1) (nI k) (zCA w ns nr (w.2.1 6) (w.2.1 7) k) := by
  intro d
  induction d with
  | zero =>
    intro k hk'
    obtain rfl : k = nl := by omega
    rw [wpX6_paidAnew_L4, hnl]
    exact ⟨fun _ => hK, fun c => absurd (nI_le (Nat.le_refl k) (by omega)) c⟩
  | succ d ih =>
    intro k hk'
    have go := ih (k + 1) (by omega)
    unfold zCA at go
    obtain ⟨⟨g, hg, eg⟩, ⟨v, hv, ev⟩⟩ := hk k (by omega)
    rw [eg, ev, nI_clamp (by omega)] at go
    rw [wpX6_paidAnew_L4, hnl, nI_clamp (by omega), nI_1, eg, ev]
    refine ⟨fun c => absurd c (nI_ge (by omega) (by omega)), fun _ => ⟨vp_in_nI (by omega) (by omega), s_dutyAtM hR hn h8 hs2 hst hal hH hg (nI v) (by omega) go⟩⟩
theorem zCA_w (w : MS) (o : Nat → Int32) (c : Int64) (ns nr : Nat) (wo al : Int32) : ∀ k, zCA (w.1, o, c) ns nr wo al k = zCA w ns nr wo al k := by
  intro k
  induction k with
  | zero => rfl
  | succ k ih => unfold zCA; rw [ih]; rfl
theorem upd_back (f : Nat → Int32) (k : Nat) (x : Int32) : upd (upd f k x) k (f k) = f := by
  funext j
  unfold upd
  by_cases h : j = k
  · rw [if_pos h, h]
  · rw [if_neg h, if_neg h]
theorem pr_worth {u : XS} {w : MS} (h : Inv u w) (k : Int32) : wpX5_worth u k (fun r1 => wpX6_worth w k (fun r2 w' => r1 = r2 ∧ Inv u w')) := by
  have hinv := h
  obtain ⟨nr, ns, nc, nl, wk, hI⟩ := h
  have hI0 := hI
  obtain ⟨hsc, hr, hs, hh, hc, hl⟩ := hI
  have hR := hr.ro hsc.2.2.1
  obtain ⟨sn, sz, s8, se0, se1, se2, se3, shz3, sst, srow⟩ := hs
  obtain ⟨ln, lz, l100, le0, le1, le2, lk⟩ := hl
  have h60 := hR.1
  have hwk := hsc.2.2.1
  unfold wpX5_worth wpX6_worth
  simp only [e_has3, e_in, z_b0, z_b1]
  rw [hr.1, hr.2.1, z_cnt (by omega)]
  by_cases c1 : k < 0 ∨ nI nr ≤ k
  · exact ⟨fun q => absurd c1 q, fun _ => ⟨fun q => absurd c1 q, fun _ => ⟨by trivial, hinv⟩⟩⟩
  refine ⟨fun _ => ?_, fun q => absurd q c1⟩
  unfold wpX5_chestAnew
  refine ⟨nl + 1, zCk_loop hI0 k (Or.inl rfl) _ ⟨fun _ => ?_, fun q => absurd q c1⟩ nl 0 (by omega)⟩
  unfold wpX6_paidAnew
  have hb : upd (upd w.2.1 6 k) 6 (-1) = w.2.1 := by
    have := upd_back w.2.1 6 k
    rw [hsc.2.2.2.2.1] at this
    exact this
  have key := zCa_loop (w := (w.1, upd w.2.1 6 k, w.2.2)) (nr := nr) (ns := ns) (nl := nl) hR hr.2.1 s8 sz sst (Or.inl hsc.2.2.2.2.2.1) hh l100 lz (fun j hj => ⟨(lk j hj).1, by obtain ⟨v, hv, ev⟩ := (lk j hj).2; exact ⟨v, by omega, ev⟩⟩)
    (fun _ s => (zCA w ns nr k (-1) nl - u.2.2.2.2.2.2) = (s - w.2.2) ∧ Inv u (w.1, (upd (upd w.2.1 6 k) 6 (-1)), w.2.2)) (by
      rw [zCA_w w (upd w.2.1 6 k) w.2.2, hb, hsc.2.2.2.2.2.2]
      have e7 : (upd w.2.1 6 k) 7 = -1 := hsc.2.2.2.2.2.1
      have e6 : (upd w.2.1 6 k) 6 = k := rfl
      show _ - w.2.2 = zCA w ns nr ((upd w.2.1 6 k) 6) ((upd w.2.1 6 k) 7) nl - w.2.2 ∧ _
      rw [e7, e6]
      exact ⟨rfl, hinv⟩) nl 0 (by omega)
  exact ⟨nl + 1, key⟩
theorem pr_other {u : XS} {w : MS} (h : Inv u w) (k : Int32) : wpX5_other u k (fun r1 => wpX6_other w k (fun r2 w' => r1 = r2 ∧ Inv u w')) := by
  have hinv := h
  obtain ⟨nr, ns, nc, nl, wk, hI⟩ := h
  have hI0 := hI
  obtain ⟨hsc, hr, hs, hh, hc, hl⟩ := hI
  have hR := hr.ro hsc.2.2.1
  obtain ⟨sn, sz, s8, se0, se1, se2, se3, shz3, sst, srow⟩ := hs
  obtain ⟨ln, lz, l100, le0, le1, le2, lk⟩ := hl
  have h60 := hR.1
  have hwk := hsc.2.2.1
  unfold wpX5_other wpX6_other
  simp only [e_has4, e_isS, z_b0, z_b1]
  rw [sn, sz, z_cnt (by omega)]
  by_cases c1 : k < 0 ∨ nI ns ≤ k
  · exact ⟨fun q => absurd c1 q, fun _ => ⟨fun q => absurd c1 q, fun _ => ⟨by trivial, hinv⟩⟩⟩
  refine ⟨fun _ => ?_, fun q => absurd q c1⟩
  obtain ⟨j, hj, rfl⟩ := z_ix (by omega) c1
  unfold wpX5_chestAnew
  refine ⟨nl + 1, zCk_loop hI0 (-1) (Or.inr ⟨j, hj, rfl⟩) _ ⟨fun _ => ?_, fun q => absurd q c1⟩ nl 0 (by omega)⟩
  unfold wpX6_paidAnew
  have hb : upd (upd w.2.1 7 (nI j)) 7 (-1) = w.2.1 := by
    have := upd_back w.2.1 7 (nI j)
    rw [hsc.2.2.2.2.2.1] at this
    exact this
  have key := zCa_loop (w := (w.1, upd w.2.1 7 (nI j), w.2.2)) (nr := nr) (ns := ns) (nl := nl) hR hr.2.1 s8 sz sst (Or.inr ⟨j, hj, rfl⟩) hh l100 lz (fun j hj => ⟨(lk j hj).1, by obtain ⟨v, hv, ev⟩ := (lk j hj).2; exact ⟨v, by omega, ev⟩⟩)
    (fun _ s => (zCA w ns nr (-1) (nI j) nl) = s ∧ Inv u (w.1, (upd (upd w.2.1 7 (nI j)) 7 (-1)), w.2.2)) (by
      rw [zCA_w w (upd w.2.1 7 (nI j)) w.2.2, hb]
      have e6 : (upd w.2.1 7 (nI j)) 6 = -1 := hsc.2.2.2.2.1
      have e7 : (upd w.2.1 7 (nI j)) 7 = nI j := rfl
      show _ = zCA w ns nr ((upd w.2.1 7 (nI j)) 6) ((upd w.2.1 7 (nI j)) 7) nl ∧ _
      rw [e7, e6]
      exact ⟨rfl, hinv⟩) nl 0 (by omega)
  exact ⟨nl + 1, key⟩
