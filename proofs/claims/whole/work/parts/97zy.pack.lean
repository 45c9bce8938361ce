/-! Numbers of twelve bits side by side in a long. -/
theorem shl_m {x c y : Int64} {k : Nat} (hc : (c.toBitVec.smod 64).toNat = k) (hy : y.toBitVec = BitVec.twoPow 64 k) : x <<< c = x * y := by
  apply Int64.toBitVec_inj.mp
  show x.toBitVec <<< (c.toBitVec.smod 64).toNat = x.toBitVec * y.toBitVec
  rw [hc, hy, BitVec.shiftLeft_eq_mul_twoPow]
theorem shl_d : ∀ d, d < 5 → (((nI (12 * d)).toInt64 &&& 63).toBitVec.smod 64).toNat = 12 * d := by decide +kernel
theorem shl_t : ∀ d, d < 5 → (zJ ((4096 ^ d : Nat) : Int)).toBitVec = BitVec.twoPow 64 (12 * d) := by decide +kernel
theorem shl_z (a : Int) {d : Nat} (hd : d < 5) : zJ a <<< ((nI (12 * d)).toInt64 &&& 63) = zJ (a * ((4096 ^ d : Nat) : Int)) := by
  rw [shl_m (shl_d d hd) (shl_t d hd), zJ_mul]
theorem s12_z (a : Int) : s12 (zJ a) = zJ (a * 4096) := shl_z a (d := 1) (by decide)
theorem shr_d : ∀ k, k < 5 → (((12 * nI k).toInt64 &&& 63).toBitVec.smod 64).toNat = 12 * k := by decide +kernel
theorem cof_lt : ∀ k, k < 5 → ¬ mc1 .lt (nI k) = true ∧ mc2 .le (nI k) 4 = true := by decide +kernel
theorem pw_12 : ∀ k, k < 5 → 2 ^ (12 * k) = 4096 ^ k := by decide +kernel
/-- a place is read -/
theorem cof_n {V k : Nat} (hV : V < 2 ^ 60) (hk : k < 5) : cofV (zJ (V : Int)) (nI k) = nI (V / 4096 ^ k % 4096) := by
  unfold cofV
  rw [if_neg (cof_lt k hk).1, if_pos (cof_lt k hk).2]
  have hx : (zJ (V : Int)).toBitVec = BitVec.ofNat 64 V := BitVec.ofInt_natCast 64 V
  have hxn : (BitVec.ofNat 64 V).toNat = V := by
    rw [BitVec.toNat_ofNat]
    exact Nat.mod_eq_of_lt (by omega)
  have hm : (BitVec.ofNat 64 V).msb = false := BitVec.msb_eq_false_iff_two_mul_lt.mpr (by rw [hxn]; omega)
  have hs : (zJ (V : Int) >>> ((12 * nI k).toInt64 &&& 63)).toBitVec = BitVec.ofNat 64 V >>> (12 * k) := by
    show (zJ (V : Int)).toBitVec.sshiftRight (((12 * nI k).toInt64 &&& 63).toBitVec.smod 64).toNat = _
    rw [shr_d k hk, hx, BitVec.sshiftRight_eq_of_msb_false hm]
  apply Int32.toBitVec_inj.mp
  apply BitVec.eq_of_toNat_eq
  show (((zJ (V : Int) >>> ((12 * nI k).toInt64 &&& 63)).toBitVec.signExtend 32) &&& (4095 : Int32).toBitVec).toNat = (BitVec.ofNat 32 (V / 4096 ^ k % 4096)).toNat
  rw [hs, BitVec.signExtend_eq_setWidth_of_le _ (by decide), BitVec.toNat_and, BitVec.toNat_setWidth, BitVec.toNat_ushiftRight, hxn, BitVec.toNat_ofNat]
  have e4 : (4095 : Int32).toBitVec.toNat = 2 ^ 12 - 1 := by decide
  rw [e4, Nat.and_two_pow_sub_one_eq_mod, Nat.shiftRight_eq_div_pow, pw_12 k hk]
  generalize V / 4096 ^ k = X
  omega
theorem cof_hi {v : Int64} {k : Int32} (h : 4 < k) : cofV v k = 0 := by
  unfold cofV
  by_cases h1 : mc1 .lt k = true
  · rw [if_pos h1]
  · rw [if_neg h1, if_neg (show ¬ mc2 .le k 4 = true by unfold mc2; simp only [decide_eq_true_eq]; exact Int32.not_le.mpr h)]
/-- five numbers in one -/
def pk5 (p : Nat → Int) : Int := p 0 + p 1 * 4096 + p 2 * 16777216 + p 3 * 68719476736 + p 4 * 281474976710656
theorem pk5_cg {p q : Nat → Int} (h : ∀ k, k < 5 → p k = q k) : pk5 p = pk5 q := by
  unfold pk5
  rw [h 0 (by omega), h 1 (by omega), h 2 (by omega), h 3 (by omega), h 4 (by omega)]
theorem pk5_cof {p : Nat → Int} (h : ∀ k, k < 5 → 0 ≤ p k ∧ p k ≤ 4095) {k : Nat} (hk : k < 5) : cofV (zJ (pk5 p)) (nI k) = zI (p k) := by
  have h0 := h 0 (by omega)
  have h1 := h 1 (by omega)
  have h2 := h 2 (by omega)
  have h3 := h 3 (by omega)
  have h4 := h 4 (by omega)
  obtain ⟨V, hV⟩ : ∃ V : Nat, pk5 p = (V : Int) := ⟨(pk5 p).toNat, by unfold pk5; omega⟩
  have hVb : V < 2 ^ 60 := by
    unfold pk5 at hV
    omega
  rw [hV, cof_n hVb hk]
  obtain ⟨r, hr⟩ : ∃ r : Nat, p k = (r : Int) := ⟨(p k).toNat, by have := h k hk; omega⟩
  rw [hr, zI_n]
  congr 1
  unfold pk5 at hV
  rcases (show k = 0 ∨ k = 1 ∨ k = 2 ∨ k = 3 ∨ k = 4 by omega) with rfl | rfl | rfl | rfl | rfl
  · show V / 1 % 4096 = r
    omega
  · show V / 4096 % 4096 = r
    omega
  · show V / 16777216 % 4096 = r
    omega
  · show V / 68719476736 % 4096 = r
    omega
  · show V / 281474976710656 % 4096 = r
    omega
/-- it is the unit only where the numbers are -/
theorem pk5_1 {p : Nat → Int} (h : ∀ k, k < 5 → 0 ≤ p k ∧ p k ≤ 4095) : zJ (pk5 p) = 1 ↔ ∀ k, k < 5 → p k = if k = 0 then 1 else 0 := by
  have h0 := h 0 (by omega)
  have h1 := h 1 (by omega)
  have h2 := h 2 (by omega)
  have h3 := h 3 (by omega)
  have h4 := h 4 (by omega)
  constructor
  · intro e
    have e' : zJ (pk5 p) = zJ 1 := e
    have := zJ_inj (by unfold pk5; omega) (by unfold pk5; omega) (by omega) (by omega) e'
    unfold pk5 at this
    intro k hk
    rcases (show k = 0 ∨ k = 1 ∨ k = 2 ∨ k = 3 ∨ k = 4 by omega) with rfl | rfl | rfl | rfl | rfl
    · show p 0 = 1
      omega
    · show p 1 = 0
      omega
    · show p 2 = 0
      omega
    · show p 3 = 0
      omega
    · show p 4 = 0
      omega
  · intro e
    have : pk5 p = 1 := by
      have e0 : p 0 = 1 := e 0 (by omega)
      have e1 : p 1 = 0 := e 1 (by omega)
      have e2 : p 2 = 0 := e 2 (by omega)
      have e3 : p 3 = 0 := e 3 (by omega)
      have e4 : p 4 = 0 := e 4 (by omega)
      unfold pk5
      omega
    rw [this]
    rfl
