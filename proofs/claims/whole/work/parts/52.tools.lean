/-! Tools: compares of small numbers, numerals, what stays the same, exact numbers in longs. -/
theorem n_0 : (0 : Int32) = nI 0 := rfl
theorem n_1 : (1 : Int32) = nI 1 := rfl
theorem n_2 : (2 : Int32) = nI 2 := rfl
theorem n_3 : (3 : Int32) = nI 3 := rfl
theorem n_4 : (4 : Int32) = nI 4 := rfl
theorem n_5 : (5 : Int32) = nI 5 := rfl
theorem n_6 : (6 : Int32) = nI 6 := rfl
theorem n_8 : (8 : Int32) = nI 8 := rfl
theorem n_9 : (9 : Int32) = nI 9 := rfl
theorem n_12 : (12 : Int32) = nI 12 := rfl
theorem n_20 : (20 : Int32) = nI 20 := rfl
theorem n_25 : (25 : Int32) = nI 25 := rfl
theorem n_30 : (30 : Int32) = nI 30 := rfl
theorem n_40 : (40 : Int32) = nI 40 := rfl
theorem n_120 : (120 : Int32) = nI 120 := rfl
theorem n_300 : (300 : Int32) = nI 300 := rfl
theorem n_2000 : (2000 : Int32) = nI 2000 := rfl
theorem n_2304 : (2304 : Int32) = nI 2304 := rfl
section S
variable {a b : Nat}
theorem c_ge (ha : a < 2 ^ 31) (hb : b < 2 ^ 31) : (mc2 .ge (nI a) (nI b) = true) = (b ≤ a) := by
  show (decide (nI b ≤ nI a) = true) = _
  rw [decide_eq_true_eq, nI_leI hb ha]
theorem c_gt (ha : a < 2 ^ 31) (hb : b < 2 ^ 31) : (mc2 .gt (nI a) (nI b) = true) = (b < a) := by
  show (decide (nI b < nI a) = true) = _
  rw [decide_eq_true_eq, nI_ltI hb ha]
theorem c_lt (ha : a < 2 ^ 31) (hb : b < 2 ^ 31) : (mc2 .lt (nI a) (nI b) = true) = (a < b) := by
  show (decide (nI a < nI b) = true) = _
  rw [decide_eq_true_eq, nI_ltI ha hb]
theorem c_le (ha : a < 2 ^ 31) (hb : b < 2 ^ 31) : (mc2 .le (nI a) (nI b) = true) = (a ≤ b) := by
  show (decide (nI a ≤ nI b) = true) = _
  rw [decide_eq_true_eq, nI_leI ha hb]
theorem c_eq (ha : a < 2 ^ 31) (hb : b < 2 ^ 31) : (mc2 .eq (nI a) (nI b) = true) = (a = b) := by
  show (decide (nI a = nI b) = true) = _
  rw [decide_eq_true_eq, nI_eq ha hb]
theorem c_ne (ha : a < 2 ^ 31) (hb : b < 2 ^ 31) : (mc2 .ne (nI a) (nI b) = true) = (a ≠ b) := by
  show (decide (¬ nI a = nI b) = true) = _
  rw [decide_eq_true_eq, nI_eq ha hb]
theorem d_lt (ha : a < 2 ^ 31) : (mc1 .lt (nI a) = true) = False := by
  show (decide (nI a < 0) = true) = _
  rw [decide_eq_true_eq]
  exact eq_false (nI_pos ha)
theorem d_ge (ha : a < 2 ^ 31) : (mc1 .ge (nI a) = true) = True := by
  show (decide (0 ≤ nI a) = true) = _
  rw [decide_eq_true_eq]
  exact eq_true (nI_pos' ha)
theorem d_ne (ha : a < 2 ^ 31) : (mc1 .ne (nI a) = true) = (a ≠ 0) := c_ne (b := 0) ha (by decide)
theorem d_eq (ha : a < 2 ^ 31) : (mc1 .eq (nI a) = true) = (a = 0) := c_eq (b := 0) ha (by decide)
theorem d_gt (ha : a < 2 ^ 31) : (mc1 .gt (nI a) = true) = (0 < a) := c_gt (b := 0) ha (by decide)
theorem d_le (ha : a < 2 ^ 31) : (mc1 .le (nI a) = true) = (a ≤ 0) := c_le (b := 0) ha (by decide)
theorem m_lt : (mc1 .lt (-1) = true) = True := by decide
theorem m_ge : (mc1 .ge (-1) = true) = False := by decide
end S
theorem k_ge (x : Int64) : (mc1 .ge (lg_cmp x 0) = true) = ¬ x < 0 := by
  show (decide (0 ≤ lg_cmp x 0) = true) = _
  rw [decide_eq_true_eq]
  unfold lg_cmp
  apply propext
  by_cases h1 : x > 0
  · rw [if_pos h1]
    exact ⟨fun _ h => by have a1 := Int64.lt_iff_toInt_lt.mp h1; have a2 := Int64.lt_iff_toInt_lt.mp h; omega, fun _ => by decide⟩
  · rw [if_neg h1]
    by_cases h2 : x = 0
    · rw [if_pos h2, h2]; decide
    · rw [if_neg h2]
      refine ⟨fun h => absurd h (by decide), fun h => ?_⟩
      exfalso
      apply h2
      rw [← Int64.toInt_inj]
      have h3 : ¬ (0 : Int64).toInt < x.toInt := fun e => h1 (Int64.lt_iff_toInt_lt.mpr e)
      have h4 : ¬ x.toInt < (0 : Int64).toInt := fun e => h (Int64.lt_iff_toInt_lt.mpr e)
      omega
theorem k_ne (x y : Int64) : (mc1 .ne (lg_cmp x y) = true) = ¬ x = y := by
  show (decide (¬ lg_cmp x y = 0) = true) = _
  rw [decide_eq_true_eq]
  unfold lg_cmp
  apply propext
  by_cases h1 : x > y
  · rw [if_pos h1]
    refine ⟨fun _ e => ?_, fun _ => by decide⟩
    subst e
    have := Int64.lt_iff_toInt_lt.mp h1
    omega
  · rw [if_neg h1]
    by_cases h2 : x = y
    · rw [if_pos h2]
      exact ⟨fun h => absurd rfl h, fun h => absurd h2 h⟩
    · rw [if_neg h2]
      exact ⟨fun _ => h2, fun _ => by decide⟩
theorem k_eq (x y : Int64) : (mc1 .eq (lg_cmp x y) = true) = (x = y) := by
  have h := k_ne x y
  unfold mc1 at *
  dsimp only at *
  rw [decide_eq_true_eq] at *
  apply propext
  constructor
  · intro e
    apply Classical.byContradiction
    intro hn
    exact (h.mpr hn) e
  · intro e
    apply Classical.byContradiction
    intro hn
    exact (h.mp hn) e
/-- all cells but these stay -/
def hgI (l : List Nat) (I I' : hI) : Prop := ∀ b, b ∉ l → I' b = I b
def hgJ (l : List Nat) (J J' : hJ) : Prop := ∀ b, b ∉ l → J' b = J b
theorem hgI_rf (l : List Nat) (I : hI) : hgI l I I := fun _ _ => rfl
theorem hgJ_rf (l : List Nat) (J : hJ) : hgJ l J J := fun _ _ => rfl
theorem hgI_tr {l : List Nat} {I I' I'' : hI} (h : hgI l I I') (h' : hgI l I' I'') : hgI l I I'' := fun b hb => (h' b hb).trans (h b hb)
theorem hgJ_tr {l : List Nat} {J J' J'' : hJ} (h : hgJ l J J') (h' : hgJ l J' J'') : hgJ l J J'' := fun b hb => (h' b hb).trans (h b hb)
theorem hgI_mo {l l' : List Nat} {I I' : hI} (h : hgI l I I') (hl : ∀ b, b ∈ l → b ∈ l') : hgI l' I I' := fun b hb => h b (fun e => hb (hl b e))
theorem hgJ_mo {l l' : List Nat} {J J' : hJ} (h : hgJ l J J') (hl : ∀ b, b ∈ l → b ∈ l') : hgJ l' J J' := fun b hb => h b (fun e => hb (hl b e))
theorem hgI_up {l : List Nat} {I : hI} {a i : Nat} {x : Int32} (h : a ∈ l) : hgI l I (upI I a i x) := fun b hb => upI_ne (fun e => hb (e ▸ h))
theorem hgJ_up {l : List Nat} {J : hJ} {a i : Nat} {x : Int64} (h : a ∈ l) : hgJ l J (upJ J a i x) := fun b hb => upJ_ne (fun e => hb (e ▸ h))
theorem upI_at (I : hI) (a i : Nat) (x : Int32) (j : Nat) : upI I a i x a j = if j = i then x else I a j := by
  unfold upI
  rw [if_pos rfl]
theorem upJ_at (J : hJ) (a i : Nat) (x : Int64) (j : Nat) : upJ J a i x a j = if j = i then x else J a j := by
  unfold upJ
  rw [if_pos rfl]
/-- exact numbers in longs -/
def zJ (z : Int) : Int64 := Int64.ofInt z
theorem zJ_lt {z : Int} (h1 : -2 ^ 63 ≤ z) (h2 : z < 2 ^ 63) : zJ z < 0 ↔ z < 0 := by
  rw [Int64.lt_iff_toInt_lt]
  unfold zJ
  rw [Int64.toInt_ofInt_of_le h1 h2]
  exact Iff.rfl
theorem zJ_inj {z y : Int} (h1 : -2 ^ 63 ≤ z) (h2 : z < 2 ^ 63) (h3 : -2 ^ 63 ≤ y) (h4 : y < 2 ^ 63) (h : zJ z = zJ y) : z = y := by
  have := congrArg Int64.toInt h
  unfold zJ at this
  rw [Int64.toInt_ofInt_of_le h1 h2, Int64.toInt_ofInt_of_le h3 h4] at this
  exact this
theorem zJ_sub (a b : Int) : zJ a - zJ b = zJ (a - b) := (Int64.ofInt_sub a b).symm
theorem zJ_mul (a b : Int) : zJ a * zJ b = zJ (a * b) := (Int64.ofInt_mul a b).symm
theorem zJ_add (a b : Int) : zJ a + zJ b = zJ (a + b) := (Int64.ofInt_add a b).symm
theorem zJ_neg (a : Int) : - zJ a = zJ (-a) := (Int64.ofInt_neg a).symm
def zI (z : Int) : Int32 := Int32.ofInt z
theorem zI_J {z : Int} (h1 : -100 ≤ z) (h2 : z ≤ 100) : (zI z).toInt64 = zJ z := Int32.toInt64_ofInt (by have : Int32.minValue.toInt = -2147483648 := rfl; omega) (by have : Int32.maxValue.toInt = 2147483647 := rfl; omega)
