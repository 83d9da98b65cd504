/-! towns: bits told, and counted -/
theorem z_or (a b : Nat) : nI a ||| nI b = nI (a ||| b) := by
  apply Int32.toBitVec_inj.mp
  show (nI a).toBitVec ||| (nI b).toBitVec = (nI (a ||| b)).toBitVec
  exact (BitVec.ofNat_or (w := 32) (x := a) (y := b)).symm
def zT (a : RS) (w t : Int32) : Nat → Int32
  | 0 => 0
  | k + 1 => if a 2 k = w ∧ KN a k t then zT a w t k ||| (1 <<< ((a 0 k) &&& 31)) else zT a w t k
theorem zT_small {a : RS} {w t : Int32} {n : Nat} (h : ∀ k, k < n → ∃ x, x < 10 ∧ a 0 k = nI x) : ∀ k, k ≤ n → ∃ X, X < 1024 ∧ zT a w t k = nI X := by
  intro k
  induction k with
  | zero => intro _; exact ⟨0, by omega, rfl⟩
  | succ k ih =>
    intro hk
    obtain ⟨X, hX, eX⟩ := ih (by omega)
    unfold zT
    split
    · obtain ⟨x, hx, ex⟩ := h k (by omega)
      have e1 : ∀ x, x < 10 → (1 : Int32) <<< (nI x &&& 31) = nI (2 ^ x) := by decide +kernel
      rw [eX, ex, e1 x hx, z_or]
      refine ⟨X ||| 2 ^ x, ?_, rfl⟩
      have h2 : 2 ^ x < 2 ^ 10 := Nat.pow_lt_pow_right (by omega) hx
      exact Nat.or_lt_two_pow (n := 10) hX h2
    · exact ⟨X, hX, eX⟩
theorem zTk_loop {a : RS} {n : Nat} (h60 : n ≤ 60) (hn : a 9 0 = nI n) (w t : Int32) (K : Int32 → Int32 → Prop) (hK : K (nI n) (zT a w t n)) :
    ∀ d k, k + d = n → wpX3_townsKnown_L5 a w t K (d + 1) (nI k) (zT a w t k) := by
  intro d
  induction d with
  | zero =>
    intro k hk
    obtain rfl : k = n := by omega
    rw [wpX3_townsKnown_L5, hn]
    exact ⟨fun _ => hK, fun c => absurd (nI_le (Nat.le_refl k) (by omega)) c⟩
  | succ d ih =>
    intro k hk
    have go := ih (k + 1) (by omega)
    unfold zT at go
    rw [wpX3_townsKnown_L5, hn, nI_clamp (by omega), nI_1]
    refine ⟨fun c => absurd c (nI_ge (by omega) (by omega)), fun _ => ⟨vp_in_nI (by omega) (by omega), fun c => ?_, fun c => ?_⟩⟩
    · rw [if_neg (fun q => c q.1)] at go
      exact go
    · rw [e_kn3 a (by omega)]
      refine ⟨fun c2 => ?_, fun c2 => ?_⟩
      · rw [z_b1] at c2
        rw [if_neg (fun q => c2 q.2)] at go
        exact go
      · rw [z_b1] at c2
        rw [if_pos ⟨c, Decidable.of_not_not c2⟩] at go
        exact go
theorem z_or0 (x : Int32) : x ||| 0 = x := by
  apply Int32.toBitVec_inj.mp
  show x.toBitVec ||| 0#32 = x.toBitVec
  exact BitVec.or_zero
theorem zTa_loop {w : MS} {n : Nat} (h60 : n ≤ 60) (hn : w.2.1 1 = nI n) (hw : w.2.1 6 = -1) (v t : Int32) (K : Int32 → Int32 → Prop) (hK : K (nI n) (zT w.1 v t n)) :
    ∀ d k, k + d = n → wpX6_towns_L30 w v t K (d + 1) (nI k) (zT w.1 v t k) := by
  intro d
  induction d with
  | zero =>
    intro k hk
    obtain rfl : k = n := by omega
    rw [wpX6_towns_L30, hn]
    exact ⟨fun _ => hK, fun c => absurd (nI_le (Nat.le_refl k) (by omega)) c⟩
  | succ d ih =>
    intro k hk
    have go := ih (k + 1) (by omega)
    unfold zT at go
    rw [wpX6_towns_L30, hn, nI_clamp (by omega), nI_1, z_or0]
    refine ⟨fun c => absurd c (nI_ge (by omega) (by omega)), fun _ => ⟨vp_in_nI (by omega) (by omega), fun c => ?_, fun c => ?_⟩⟩
    · rw [if_neg (fun q => c q.1)] at go
      exact go
    · rw [e_kn6 w (by omega)]
      have nm1 : nI k ≠ w.2.1 6 := by
        rw [hw]
        intro q
        exact nI_pos (n := k) (by omega) (by rw [q]; decide)
      refine ⟨fun c2 => ?_, fun c2 => ?_⟩
      · rw [z_b1] at c2
        rw [if_neg (fun q => c2 ⟨nm1, q.2⟩)] at go
        exact go
      · rw [z_b1] at c2
        rw [if_pos ⟨c, (Decidable.of_not_not c2).2⟩] at go
        exact go
def zBS (x : Int32) : Nat → Int32
  | 0 => 0
  | i + 1 => zBS x i + ((x >>> (nI i &&& 31)) &&& 1)
theorem zBS_loop (x : Int32) (K : Int32 → Int32 → Prop) (hK : K (nI 10) (zBS x 10)) :
    ∀ d i, i + d = 10 → wpX6_towns_L88 x K (d + 1) (nI i) (zBS x i) := by
  intro d
  induction d with
  | zero =>
    intro i hi
    obtain rfl : i = 10 := by omega
    rw [wpX6_towns_L88]
    exact ⟨fun _ => hK, fun c => absurd (show (10 : Int32) ≤ nI 10 by decide) c⟩
  | succ d ih =>
    intro i hi
    have go := ih (i + 1) (by omega)
    unfold zBS at go
    rw [wpX6_towns_L88, nI_1]
    have e : (10 : Int32) = nI 10 := rfl
    rw [e]
    exact ⟨fun c => absurd c (nI_ge (by omega) (by omega)), fun _ => go⟩
def zBC (x : Int32) : Int32 :=
  let a := x - (((x.toUInt32 >>> ((1 : Int32).toUInt32 &&& Int32.toUInt32 31)).toInt32) &&& (1431655765))
  let b := (a &&& (858993459)) + (((a.toUInt32 >>> ((2 : Int32).toUInt32 &&& Int32.toUInt32 31)).toInt32) &&& (858993459))
  let c := (b + ((b.toUInt32 >>> ((4 : Int32).toUInt32 &&& Int32.toUInt32 31)).toInt32)) &&& (252645135)
  let d := c + ((c.toUInt32 >>> ((8 : Int32).toUInt32 &&& Int32.toUInt32 31)).toInt32)
  let e := d + ((d.toUInt32 >>> ((16 : Int32).toUInt32 &&& Int32.toUInt32 31)).toInt32)
  e &&& 63
theorem e_bc (x : Int32) (post : Int32 → Prop) : wpJ6_bitCount_0f7a4 x post ↔ post (zBC x) := Iff.rfl
theorem zBC_all : (List.range 1024).all (fun X => decide (zBC (nI X) = zBS (nI X) 10)) = true := by decide +kernel
theorem zBC_eq {X : Nat} (h : X < 1024) : zBC (nI X) = zBS (nI X) 10 := co_dec (P := fun X => zBC (nI X) = zBS (nI X) 10) zBC_all h
