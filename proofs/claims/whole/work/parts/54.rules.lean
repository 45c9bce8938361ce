/-! Numerals; reads and writes of the arrays that stand there; loops. (printed by gen/emit54.py) -/
theorem n_10 : (10 : Int32) = nI 10 := rfl
theorem n_27 : (27 : Int32) = nI 27 := rfl
theorem n_31 : (31 : Int32) = nI 31 := rfl
theorem n_32 : (32 : Int32) = nI 32 := rfl
theorem n_48 : (48 : Int32) = nI 48 := rfl
theorem n_57 : (57 : Int32) = nI 57 := rfl
theorem n_59 : (59 : Int32) = nI 59 := rfl
theorem n_63 : (63 : Int32) = nI 63 := rfl
theorem n_96 : (96 : Int32) = nI 96 := rfl
theorem n_97 : (97 : Int32) = nI 97 := rfl
theorem n_122 : (122 : Int32) = nI 122 := rfl
theorem n_255 : (255 : Int32) = nI 255 := rfl
theorem n_256 : (256 : Int32) = nI 256 := rfl
theorem n_301 : (301 : Int32) = nI 301 := rfl
theorem n_512 : (512 : Int32) = nI 512 := rfl
theorem n_1000 : (1000 : Int32) = nI 1000 := rfl
theorem n_1001 : (1001 : Int32) = nI 1001 := rfl
theorem n_1002 : (1002 : Int32) = nI 1002 := rfl
theorem n_1003 : (1003 : Int32) = nI 1003 := rfl
theorem n_1004 : (1004 : Int32) = nI 1004 := rfl
theorem n_1005 : (1005 : Int32) = nI 1005 := rfl
theorem n_4096 : (4096 : Int32) = nI 4096 := rfl
/-- numbers below 0 -/
def gI (k : Nat) : Int32 := - nI k
theorem n_m (k : Nat) : - nI k = gI k := rfl
theorem m_lt1 : (mc1 .lt (gI 1) = true) = True := by decide
theorem gI_toInt {k : Nat} (h : k < 2 ^ 31) : (gI k).toInt = - (k : Int) := by
  have e : gI k = Int32.ofInt (-(k : Int)) := by
    unfold gI nI
    rw [Int32.ofInt_neg, Int32.ofInt_eq_ofNat]
  rw [e, Int32.toInt_ofInt_of_le (by have : Int32.minValue.toInt = -2147483648 := rfl; omega) (by have : Int32.maxValue.toInt = 2147483647 := rfl; omega)]
theorem m_ltk {k : Nat} (h0 : 0 < k) (h : k < 2 ^ 31) : (mc1 .lt (gI k) = true) = True := by
  show (decide (gI k < 0) = true) = _
  rw [decide_eq_true_eq, Int32.lt_iff_toInt_lt, gI_toInt h]
  exact eq_true (by have : (0 : Int32).toInt = 0 := rfl; omega)
theorem m_gek {k : Nat} (h0 : 0 < k) (h : k < 2 ^ 31) : (mc1 .ge (gI k) = true) = False := by
  show (decide (0 ≤ gI k) = true) = _
  rw [decide_eq_true_eq, Int32.le_iff_toInt_le, gI_toInt h]
  exact eq_false (by have : (0 : Int32).toInt = 0 := rfl; omega)
theorem m_nek {k : Nat} (h0 : 0 < k) (h : k < 2 ^ 31) : gI k ≠ 0 := by
  intro e
  have := congrArg Int32.toInt e
  rw [gI_toInt h] at this
  have h2 : (0 : Int32).toInt = 0 := rfl
  omega
theorem m_eq {k : Nat} (h0 : 0 < k) (h : k < 2 ^ 31) : (mc1 .eq (gI k) = true) = False := by
  show (decide (gI k = 0) = true) = _
  rw [decide_eq_true_eq]
  exact eq_false (m_nek h0 h)
theorem m_ne {k : Nat} (h0 : 0 < k) (h : k < 2 ^ 31) : (mc1 .ne (gI k) = true) = True := by
  show (decide (¬ gI k = 0) = true) = _
  rw [decide_eq_true_eq]
  exact eq_true (m_nek h0 h)
theorem gI_nI {k j : Nat} (h0 : 0 < k) (h : k < 2 ^ 31) (hj : j < 2 ^ 31) : gI k ≠ nI j := by
  intro e
  have := congrArg Int32.toInt e
  rw [gI_toInt h, nI_toInt hj] at this
  omega
/-- loops: a measure that falls -/
theorem lpm {σ R : Type} (G : Nat → σ → R) (μ : σ → Nat) (P : σ → Prop) (Q : R → Prop) (step : ∀ f x, P x → Q (G (f + 1) x) ∨ ∃ y, G (f + 1) x = G f y ∧ P y ∧ μ y < μ x) : ∀ f x, P x → μ x < f → Q (G f x) := by
  intro f
  induction f with
  | zero => intro x _ h; omega
  | succ f ih =>
    intro x hP hf
    rcases step f x hP with h | ⟨y, e, h1, h2⟩
    · exact h
    · rw [e]
      exact ih y h1 (by omega)
/-- loops: up to N -/
theorem lpc {σ R : Type} (G : Nat → Nat → σ → R) (N : Nat) (P : Nat → σ → Prop) (Q : R → Prop) (last : ∀ f x, P N x → Q (G (f + 1) N x)) (step : ∀ f k x, k < N → P k x → Q (G (f + 1) k x) ∨ ∃ y, G (f + 1) k x = G f (k + 1) y ∧ P (k + 1) y) : ∀ f k x, k ≤ N → N < k + f → P k x → Q (G f k x) := by
  intro f
  induction f with
  | zero => intro k x h1 h2; omega
  | succ f ih =>
    intro k x hk hf hP
    by_cases h : k = N
    · subst h
      exact last f x hP
    · rcases step f k x (by omega) hP with h | ⟨y, e, h1⟩
      · exact h
      · rw [e]
        exact ih (k + 1) y (by omega) (by omega) h1
/-- loops: c more, down to 0 -/
theorem lpd {σ R : Type} (G : Nat → Nat → σ → R) (P : Nat → σ → Prop) (Q : R → Prop) (last : ∀ f x, P 0 x → Q (G (f + 1) 0 x)) (step : ∀ f c x, P (c + 1) x → Q (G (f + 1) (c + 1) x) ∨ ∃ y, G (f + 1) (c + 1) x = G f c y ∧ P c y) : ∀ f c x, c < f → P c x → Q (G f c x) := by
  intro f
  induction f with
  | zero => intro c x h1; omega
  | succ f ih =>
    intro c x hf hP
    cases c with
    | zero => exact last f x hP
    | succ c =>
      rcases step f c x hP with h | ⟨y, e, h1⟩
      · exact h
      · rw [e]
        exact ih c y (by omega) h1
/-- a run comes to an end, over cells of this shape -/
def Tr {α : Type} (sh : List hQ) (m : Option (α × List mE)) (Q : α → hI → hJ → Prop) : Prop := ∃ a I J, m = some (a, mkH sh I J) ∧ Q a I J
theorem Tr_ret {α : Type} {sh : List hQ} {a : α} {I : hI} {J : hJ} {Q : α → hI → hJ → Prop} (h : Q a I J) : Tr sh (some (a, mkH sh I J)) Q := ⟨a, I, J, rfl, h⟩
theorem Tr_mo {α : Type} {sh : List hQ} {m : Option (α × List mE)} {Q Q' : α → hI → hJ → Prop} (h : Tr sh m Q) (hq : ∀ a I J, Q a I J → Q' a I J) : Tr sh m Q' := by
  obtain ⟨a, I, J, e, h⟩ := h
  exact ⟨a, I, J, e, hq _ _ _ h⟩
theorem Tr_b {α β : Type} {sh : List hQ} {m : Option (α × List mE)} {k : α × List mE → Option (β × List mE)} {Q : α → hI → hJ → Prop} {Q' : β → hI → hJ → Prop} (h : Tr sh m Q) (hq : ∀ a I J, Q a I J → Tr sh (k (a, mkH sh I J)) Q') : Tr sh (m.bind k) Q' := by
  obtain ⟨a, I, J, e, h⟩ := h
  rw [e, Option.bind_some]
  exact hq _ _ _ h
/-- the least below n with p, or -1 -/
def lst (n : Nat) (p : Nat → Prop) (v : Int32) : Prop := (∃ j, j < n ∧ v = nI j ∧ p j ∧ ∀ i, i < j → ¬ p i) ∨ (v = gI 1 ∧ ∀ i, i < n → ¬ p i)
/-- a row is overwritten -/
def rwJ (J : hJ) (b o n : Nat) (f : Nat → Int64) : hJ := fun c i => if c = b then (if o ≤ i ∧ i < o + n then f (i - o) else J c i) else J c i
theorem rwJ_ne {J : hJ} {b o n : Nat} {f : Nat → Int64} {c : Nat} (h : c ≠ b) : rwJ J b o n f c = J c := by
  funext i
  unfold rwJ
  rw [if_neg h]
theorem rwJ_in {J : hJ} {b o n : Nat} {f : Nat → Int64} {j : Nat} (h : j < n) : rwJ J b o n f b (o + j) = f j := by
  unfold rwJ
  rw [if_pos rfl, if_pos (by omega), Nat.add_sub_cancel_left]
theorem rwJ_out {J : hJ} {b o n : Nat} {f : Nat → Int64} {i : Nat} (h : i < o ∨ o + n ≤ i) : rwJ J b o n f b i = J b i := by
  unfold rwJ
  rw [if_pos rfl, if_neg (by omega)]
theorem rwJ_hg {J : hJ} {b o n : Nat} {f : Nat → Int64} {l : List Nat} (h : b ∈ l) : hgJ l J (rwJ J b o n f) := fun c hc => rwJ_ne (fun e => hc (e ▸ h))
section S
variable {l s d : Value} {tl : List hQ} {I : hI} {J : hJ} {i : Nat} {x : Int32} {y : Int64}
theorem rI2 (h : i < 25) : rdI (mkH (hs l s d tl) I J) 2 (nI i) = some (I 2 i) := rdI_H q2 (by decide) h
theorem wI2 (h : i < 25) : wrI (mkH (hs l s d tl) I J) 2 (nI i) x = some (mkH (hs l s d tl) (upI I 2 i x) J) := wrI_H q2 (by decide) h
theorem rI3 (h : i < 25) : rdI (mkH (hs l s d tl) I J) 3 (nI i) = some (I 3 i) := rdI_H q3 (by decide) h
theorem wI3 (h : i < 25) : wrI (mkH (hs l s d tl) I J) 3 (nI i) x = some (mkH (hs l s d tl) (upI I 3 i x) J) := wrI_H q3 (by decide) h
theorem rI5 (h : i < 120) : rdI (mkH (hs l s d tl) I J) 5 (nI i) = some (I 5 i) := rdI_H q5 (by decide) h
theorem wI5 (h : i < 120) : wrI (mkH (hs l s d tl) I J) 5 (nI i) x = some (mkH (hs l s d tl) (upI I 5 i x) J) := wrI_H q5 (by decide) h
theorem rI6 (h : i < 25) : rdI (mkH (hs l s d tl) I J) 6 (nI i) = some (I 6 i) := rdI_H q6 (by decide) h
theorem wI6 (h : i < 25) : wrI (mkH (hs l s d tl) I J) 6 (nI i) x = some (mkH (hs l s d tl) (upI I 6 i x) J) := wrI_H q6 (by decide) h
theorem rZ7 (h : i < 25) : rdZ (mkH (hs l s d tl) I J) 7 (nI i) = some (I 7 i) := rdZ_H q7 (by decide) h
theorem wZ7 (h : i < 25) (hx : x = 0 ∨ x = 1) : wrZ (mkH (hs l s d tl) I J) 7 (nI i) x = some (mkH (hs l s d tl) (upI I 7 i x) J) := wrZ_H q7 (by decide) h hx
theorem rI9 (h : i < 800) : rdI (mkH (hs l s d tl) I J) 9 (nI i) = some (I 9 i) := rdI_H q9 (by decide) h
theorem wI9 (h : i < 800) : wrI (mkH (hs l s d tl) I J) 9 (nI i) x = some (mkH (hs l s d tl) (upI I 9 i x) J) := wrI_H q9 (by decide) h
theorem rI10 (h : i < 40) : rdI (mkH (hs l s d tl) I J) 10 (nI i) = some (I 10 i) := rdI_H q10 (by decide) h
theorem wI10 (h : i < 40) : wrI (mkH (hs l s d tl) I J) 10 (nI i) x = some (mkH (hs l s d tl) (upI I 10 i x) J) := wrI_H q10 (by decide) h
theorem rJ11 (h : i < 200) : rdJ (mkH (hs l s d tl) I J) 11 (nI i) = some (J 11 i) := rdJ_H q11 (by decide) h
theorem wJ11 (h : i < 200) : wrJ (mkH (hs l s d tl) I J) 11 (nI i) y = some (mkH (hs l s d tl) I (upJ J 11 i y)) := wrJ_H q11 (by decide) h
theorem rJ12 (h : i < 200) : rdJ (mkH (hs l s d tl) I J) 12 (nI i) = some (J 12 i) := rdJ_H q12 (by decide) h
theorem wJ12 (h : i < 200) : wrJ (mkH (hs l s d tl) I J) 12 (nI i) y = some (mkH (hs l s d tl) I (upJ J 12 i y)) := wrJ_H q12 (by decide) h
theorem rJ13 (h : i < 5) : rdJ (mkH (hs l s d tl) I J) 13 (nI i) = some (J 13 i) := rdJ_H q13 (by decide) h
theorem wJ13 (h : i < 5) : wrJ (mkH (hs l s d tl) I J) 13 (nI i) y = some (mkH (hs l s d tl) I (upJ J 13 i y)) := wrJ_H q13 (by decide) h
theorem rJ15 (h : i < 5) : rdJ (mkH (hs l s d tl) I J) 15 (nI i) = some (J 15 i) := rdJ_H q15 (by decide) h
theorem wJ15 (h : i < 5) : wrJ (mkH (hs l s d tl) I J) 15 (nI i) y = some (mkH (hs l s d tl) I (upJ J 15 i y)) := wrJ_H q15 (by decide) h
theorem rJ16 (h : i < 5) : rdJ (mkH (hs l s d tl) I J) 16 (nI i) = some (J 16 i) := rdJ_H q16 (by decide) h
theorem wJ16 (h : i < 5) : wrJ (mkH (hs l s d tl) I J) 16 (nI i) y = some (mkH (hs l s d tl) I (upJ J 16 i y)) := wrJ_H q16 (by decide) h
theorem rI17 (h : i < 20) : rdI (mkH (hs l s d tl) I J) 17 (nI i) = some (I 17 i) := rdI_H q17 (by decide) h
theorem wI17 (h : i < 20) : wrI (mkH (hs l s d tl) I J) 17 (nI i) x = some (mkH (hs l s d tl) (upI I 17 i x) J) := wrI_H q17 (by decide) h
theorem rI18 (h : i < 20) : rdI (mkH (hs l s d tl) I J) 18 (nI i) = some (I 18 i) := rdI_H q18 (by decide) h
theorem wI18 (h : i < 20) : wrI (mkH (hs l s d tl) I J) 18 (nI i) x = some (mkH (hs l s d tl) (upI I 18 i x) J) := wrI_H q18 (by decide) h
theorem rJ20 (h : i < 5) : rdJ (mkH (hs l s d tl) I J) 20 (nI i) = some (J 20 i) := rdJ_H q20 (by decide) h
theorem wJ20 (h : i < 5) : wrJ (mkH (hs l s d tl) I J) 20 (nI i) y = some (mkH (hs l s d tl) I (upJ J 20 i y)) := wrJ_H q20 (by decide) h
theorem rJ21 (h : i < 25) : rdJ (mkH (hs l s d tl) I J) 21 (nI i) = some (J 21 i) := rdJ_H q21 (by decide) h
theorem wJ21 (h : i < 25) : wrJ (mkH (hs l s d tl) I J) 21 (nI i) y = some (mkH (hs l s d tl) I (upJ J 21 i y)) := wrJ_H q21 (by decide) h
theorem rJ23 (h : i < 45) : rdJ (mkH (hs l s d tl) I J) 23 (nI i) = some (J 23 i) := rdJ_H q23 (by decide) h
theorem wJ23 (h : i < 45) : wrJ (mkH (hs l s d tl) I J) 23 (nI i) y = some (mkH (hs l s d tl) I (upJ J 23 i y)) := wrJ_H q23 (by decide) h
theorem rI24 (h : i < 9) : rdI (mkH (hs l s d tl) I J) 24 (nI i) = some (I 24 i) := rdI_H q24 (by decide) h
theorem wI24 (h : i < 9) : wrI (mkH (hs l s d tl) I J) 24 (nI i) x = some (mkH (hs l s d tl) (upI I 24 i x) J) := wrI_H q24 (by decide) h
theorem rI25 (h : i < 20) : rdI (mkH (hs l s d tl) I J) 25 (nI i) = some (I 25 i) := rdI_H q25 (by decide) h
theorem wI25 (h : i < 20) : wrI (mkH (hs l s d tl) I J) 25 (nI i) x = some (mkH (hs l s d tl) (upI I 25 i x) J) := wrI_H q25 (by decide) h
theorem rI27 (h : i < 25) : rdI (mkH (hs l s d tl) I J) 27 (nI i) = some (I 27 i) := rdI_H q27 (by decide) h
theorem wI27 (h : i < 25) : wrI (mkH (hs l s d tl) I J) 27 (nI i) x = some (mkH (hs l s d tl) (upI I 27 i x) J) := wrI_H q27 (by decide) h
theorem rI28 (h : i < 25) : rdI (mkH (hs l s d tl) I J) 28 (nI i) = some (I 28 i) := rdI_H q28 (by decide) h
theorem wI28 (h : i < 25) : wrI (mkH (hs l s d tl) I J) 28 (nI i) x = some (mkH (hs l s d tl) (upI I 28 i x) J) := wrI_H q28 (by decide) h
theorem rI29 (h : i < 25) : rdI (mkH (hs l s d tl) I J) 29 (nI i) = some (I 29 i) := rdI_H q29 (by decide) h
theorem wI29 (h : i < 25) : wrI (mkH (hs l s d tl) I J) 29 (nI i) x = some (mkH (hs l s d tl) (upI I 29 i x) J) := wrI_H q29 (by decide) h
theorem rI30 (h : i < 120) : rdI (mkH (hs l s d tl) I J) 30 (nI i) = some (I 30 i) := rdI_H q30 (by decide) h
theorem wI30 (h : i < 120) : wrI (mkH (hs l s d tl) I J) 30 (nI i) x = some (mkH (hs l s d tl) (upI I 30 i x) J) := wrI_H q30 (by decide) h
theorem rZ31 (h : i < 25) : rdZ (mkH (hs l s d tl) I J) 31 (nI i) = some (I 31 i) := rdZ_H q31 (by decide) h
theorem wZ31 (h : i < 25) (hx : x = 0 ∨ x = 1) : wrZ (mkH (hs l s d tl) I J) 31 (nI i) x = some (mkH (hs l s d tl) (upI I 31 i x) J) := wrZ_H q31 (by decide) h hx
theorem rJ32 (h : i < 25) : rdJ (mkH (hs l s d tl) I J) 32 (nI i) = some (J 32 i) := rdJ_H q32 (by decide) h
theorem wJ32 (h : i < 25) : wrJ (mkH (hs l s d tl) I J) 32 (nI i) y = some (mkH (hs l s d tl) I (upJ J 32 i y)) := wrJ_H q32 (by decide) h
theorem rI33 (h : i < 64) : rdI (mkH (hs l s d tl) I J) 33 (nI i) = some (I 33 i) := rdI_H q33 (by decide) h
theorem wI33 (h : i < 64) : wrI (mkH (hs l s d tl) I J) 33 (nI i) x = some (mkH (hs l s d tl) (upI I 33 i x) J) := wrI_H q33 (by decide) h
theorem rI34 (h : i < 40) : rdI (mkH (hs l s d tl) I J) 34 (nI i) = some (I 34 i) := rdI_H q34 (by decide) h
theorem wI34 (h : i < 40) : wrI (mkH (hs l s d tl) I J) 34 (nI i) x = some (mkH (hs l s d tl) (upI I 34 i x) J) := wrI_H q34 (by decide) h
theorem rI35 (h : i < 800) : rdI (mkH (hs l s d tl) I J) 35 (nI i) = some (I 35 i) := rdI_H q35 (by decide) h
theorem wI35 (h : i < 800) : wrI (mkH (hs l s d tl) I J) 35 (nI i) x = some (mkH (hs l s d tl) (upI I 35 i x) J) := wrI_H q35 (by decide) h
theorem rI36 (h : i < 20) : rdI (mkH (hs l s d tl) I J) 36 (nI i) = some (I 36 i) := rdI_H q36 (by decide) h
theorem wI36 (h : i < 20) : wrI (mkH (hs l s d tl) I J) 36 (nI i) x = some (mkH (hs l s d tl) (upI I 36 i x) J) := wrI_H q36 (by decide) h
theorem rJ37 (h : i < 50000) : rdJ (mkH (hs l s d tl) I J) 37 (nI i) = some (J 37 i) := rdJ_H q37 (by decide) h
theorem wJ37 (h : i < 50000) : wrJ (mkH (hs l s d tl) I J) 37 (nI i) y = some (mkH (hs l s d tl) I (upJ J 37 i y)) := wrJ_H q37 (by decide) h
theorem rJ38 (h : i < 50000) : rdJ (mkH (hs l s d tl) I J) 38 (nI i) = some (J 38 i) := rdJ_H q38 (by decide) h
theorem wJ38 (h : i < 50000) : wrJ (mkH (hs l s d tl) I J) 38 (nI i) y = some (mkH (hs l s d tl) I (upJ J 38 i y)) := wrJ_H q38 (by decide) h
theorem rJ39 (h : i < 2000) : rdJ (mkH (hs l s d tl) I J) 39 (nI i) = some (J 39 i) := rdJ_H q39 (by decide) h
theorem wJ39 (h : i < 2000) : wrJ (mkH (hs l s d tl) I J) 39 (nI i) y = some (mkH (hs l s d tl) I (upJ J 39 i y)) := wrJ_H q39 (by decide) h
theorem rJ40 (h : i < 2000) : rdJ (mkH (hs l s d tl) I J) 40 (nI i) = some (J 40 i) := rdJ_H q40 (by decide) h
theorem wJ40 (h : i < 2000) : wrJ (mkH (hs l s d tl) I J) 40 (nI i) y = some (mkH (hs l s d tl) I (upJ J 40 i y)) := wrJ_H q40 (by decide) h
theorem rJ41 (h : i < 5) : rdJ (mkH (hs l s d tl) I J) 41 (nI i) = some (J 41 i) := rdJ_H q41 (by decide) h
theorem wJ41 (h : i < 5) : wrJ (mkH (hs l s d tl) I J) 41 (nI i) y = some (mkH (hs l s d tl) I (upJ J 41 i y)) := wrJ_H q41 (by decide) h
theorem rI42 (h : i < 20) : rdI (mkH (hs l s d tl) I J) 42 (nI i) = some (I 42 i) := rdI_H q42 (by decide) h
theorem wI42 (h : i < 20) : wrI (mkH (hs l s d tl) I J) 42 (nI i) x = some (mkH (hs l s d tl) (upI I 42 i x) J) := wrI_H q42 (by decide) h
theorem rI43 (h : i < 301) : rdI (mkH (hs l s d tl) I J) 43 (nI i) = some (I 43 i) := rdI_H q43 (by decide) h
theorem wI43 (h : i < 301) : wrI (mkH (hs l s d tl) I J) 43 (nI i) x = some (mkH (hs l s d tl) (upI I 43 i x) J) := wrI_H q43 (by decide) h
theorem rI44 (h : i < 6020) : rdI (mkH (hs l s d tl) I J) 44 (nI i) = some (I 44 i) := rdI_H q44 (by decide) h
theorem wI44 (h : i < 6020) : wrI (mkH (hs l s d tl) I J) 44 (nI i) x = some (mkH (hs l s d tl) (upI I 44 i x) J) := wrI_H q44 (by decide) h
theorem rJ45 (h : i < 6400) : rdJ (mkH (hs l s d tl) I J) 45 (nI i) = some (J 45 i) := rdJ_H q45 (by decide) h
theorem wJ45 (h : i < 6400) : wrJ (mkH (hs l s d tl) I J) 45 (nI i) y = some (mkH (hs l s d tl) I (upJ J 45 i y)) := wrJ_H q45 (by decide) h
theorem rI46 (h : i < 256) : rdI (mkH (hs l s d tl) I J) 46 (nI i) = some (I 46 i) := rdI_H q46 (by decide) h
theorem wI46 (h : i < 256) : wrI (mkH (hs l s d tl) I J) 46 (nI i) x = some (mkH (hs l s d tl) (upI I 46 i x) J) := wrI_H q46 (by decide) h
theorem rI47 (h : i < 1280) : rdI (mkH (hs l s d tl) I J) 47 (nI i) = some (I 47 i) := rdI_H q47 (by decide) h
theorem wI47 (h : i < 1280) : wrI (mkH (hs l s d tl) I J) 47 (nI i) x = some (mkH (hs l s d tl) (upI I 47 i x) J) := wrI_H q47 (by decide) h
theorem rZ48 (h : i < 1280) : rdZ (mkH (hs l s d tl) I J) 48 (nI i) = some (I 48 i) := rdZ_H q48 (by decide) h
theorem wZ48 (h : i < 1280) (hx : x = 0 ∨ x = 1) : wrZ (mkH (hs l s d tl) I J) 48 (nI i) x = some (mkH (hs l s d tl) (upI I 48 i x) J) := wrZ_H q48 (by decide) h hx
theorem rI49 (h : i < 2304) : rdI (mkH (hs l s d tl) I J) 49 (nI i) = some (I 49 i) := rdI_H q49 (by decide) h
theorem wI49 (h : i < 2304) : wrI (mkH (hs l s d tl) I J) 49 (nI i) x = some (mkH (hs l s d tl) (upI I 49 i x) J) := wrI_H q49 (by decide) h
theorem rI50 (h : i < 2304) : rdI (mkH (hs l s d tl) I J) 50 (nI i) = some (I 50 i) := rdI_H q50 (by decide) h
theorem wI50 (h : i < 2304) : wrI (mkH (hs l s d tl) I J) 50 (nI i) x = some (mkH (hs l s d tl) (upI I 50 i x) J) := wrI_H q50 (by decide) h
theorem rI51 (h : i < 9) : rdI (mkH (hs l s d tl) I J) 51 (nI i) = some (I 51 i) := rdI_H q51 (by decide) h
theorem wI51 (h : i < 9) : wrI (mkH (hs l s d tl) I J) 51 (nI i) x = some (mkH (hs l s d tl) (upI I 51 i x) J) := wrI_H q51 (by decide) h
theorem rI52 (h : i < 2304) : rdI (mkH (hs l s d tl) I J) 52 (nI i) = some (I 52 i) := rdI_H q52 (by decide) h
theorem wI52 (h : i < 2304) : wrI (mkH (hs l s d tl) I J) 52 (nI i) x = some (mkH (hs l s d tl) (upI I 52 i x) J) := wrI_H q52 (by decide) h
theorem rI53 (h : i < 2304) : rdI (mkH (hs l s d tl) I J) 53 (nI i) = some (I 53 i) := rdI_H q53 (by decide) h
theorem wI53 (h : i < 2304) : wrI (mkH (hs l s d tl) I J) 53 (nI i) x = some (mkH (hs l s d tl) (upI I 53 i x) J) := wrI_H q53 (by decide) h
end S
