/-! The class: rows, what mirrors make of them. -/
theorem upJ_rw {J : hJ} {b o k : Nat} {f : Nat → Int64} : upJ (rwJ J b o k f) b (o + k) (f k) = rwJ J b o (k + 1) f := by
  funext c i
  unfold upJ rwJ
  by_cases hc : c = b
  · simp only [if_pos hc]
    by_cases hi : i = o + k
    · rw [if_pos hi, if_pos (by omega), hi, Nat.add_sub_cancel_left]
    · rw [if_neg hi]
      by_cases h2 : o ≤ i ∧ i < o + k
      · rw [if_pos h2, if_pos (by omega)]
      · rw [if_neg h2, if_neg (by omega)]
  · simp only [if_neg hc]
theorem rwJ_0 {J : hJ} {b o : Nat} {f : Nat → Int64} : rwJ J b o 0 f = J := by
  funext c i
  unfold rwJ
  by_cases hc : c = b
  · rw [if_pos hc, if_neg (by omega)]
  · rw [if_neg hc]
theorem rwJ_cg {J : hJ} {b o n : Nat} {f g : Nat → Int64} (h : ∀ j, j < n → f j = g j) : rwJ J b o n f = rwJ J b o n g := by
  funext c i
  unfold rwJ
  by_cases hc : c = b
  · rw [if_pos hc, if_pos hc]
    by_cases h2 : o ≤ i ∧ i < o + n
    · rw [if_pos h2, if_pos h2, h _ (by omega)]
    · rw [if_neg h2, if_neg h2]
  · rw [if_neg hc, if_neg hc]
theorem j_0 : (0 : Int64) = zJ 0 := rfl
theorem j_1 : (1 : Int64) = zJ 1 := rfl
/-- sums of longs -/
def sJ : Nat → (Nat → Int64) → Int64
  | 0, _ => 0
  | k + 1, f => sJ k f + f k
/-- what the class knows of the group -/
def cl_n (n : Nat) (A : Nat → Nat → Int) (I : hI) : Prop := cx_ok n A ∧ 1 ≤ n ∧ n ≤ 5 ∧ I 1 0 = nI n ∧ ∀ i j, i < n → j < n → I 3 (i * 5 + j) = zI (A i j) ∧ -3 ≤ A i j ∧ A i j ≤ 2
section S
variable {l s d : Value} {tl : List hQ} {F : Nat} {I : hI} {J : hJ} {n a b o p N M : Nat} {A : Nat → Nat → Int}
theorem cl_A (h : cl_n n A I) {i j : Nat} (hi : i < n) (hj : j < n) : (I 3 (i * 5 + j)).toInt64 = zJ (A i j) := by
  have h2 := h.2.2.2.2 i j hi hj
  rw [h2.1, zI_J (by omega) (by omega)]
theorem cr_e (hn : I 1 0 = nI n) (h5 : n ≤ 5) (hF : 6 ≤ F) (ha : (hs l s d tl)[a]? = some (.inl (1, N))) (hb : (hs l s d tl)[b]? = some (.inl (1, M))) (hN : N < 2 ^ 31) (hM : M < 2 ^ 31) (h1 : o + n ≤ N) (h2 : p + n ≤ M) (hab : a ≠ b ∨ p + n ≤ o ∨ o + n ≤ p) : e42 F 1 a (nI o) b (nI p) (mkH (hs l s d tl) I J) = some ((), (mkH (hs l s d tl) I (rwJ J b p n (fun j => J a (o + j))))) := by
  refine lpc (fun f k K => m42_3 F f 1 a (nI o) b (nI p) (nI k) (mkH (hs l s d tl) I K)) n (fun k K => K = rwJ J b p k (fun j => J a (o + j))) (fun r => r = some ((), (mkH (hs l s d tl) I (rwJ J b p n (fun j => J a (o + j)))))) ?_ ?_ F 0 J (by omega) (by omega) rwJ_0.symm
  · intro f K hK
    subst hK
    show m42_3 F (f + 1) _ _ _ _ _ _ _ = _
    rw [m42_3]
    simp (disch := omega) only [rc0, gr0_0, gr0_1, gr0_2, gr0_3, gr0_4, gr0_5, gr0_6, gi0_7, pi0_7, rc1, gi1_0, pi1_0, gr1_1, gr1_2, rc4, gr4_0, gi4_1, pi4_1, gi4_2, pi4_2, gi4_3, pi4_3, gi4_4, pi4_4, gi4_5, pi4_5, gr4_6, gr4_7, rc8, gr8_0, gi8_1, pi8_1, gr8_2, gr8_3, gr8_4, gr8_5, gr8_6, rc14, gr14_0, gr14_1, gr14_2, gr14_3, gr14_4, gr14_5, rc19, gr19_0, gr19_1, gr19_2, gr19_3, rc22, gr22_0, gr22_1, gr22_2, gr22_3, Option.bind_some, hn, c_ge]
    rw [if_pos (by omega)]
  · intro f k K hk hK
    right
    refine ⟨_, ?_, rfl⟩
    show m42_3 F (f + 1) _ _ _ _ _ _ _ = _
    rw [m42_3]
    simp (disch := omega) only [rc0, gr0_0, gr0_1, gr0_2, gr0_3, gr0_4, gr0_5, gr0_6, gi0_7, pi0_7, rc1, gi1_0, pi1_0, gr1_1, gr1_2, rc4, gr4_0, gi4_1, pi4_1, gi4_2, pi4_2, gi4_3, pi4_3, gi4_4, pi4_4, gi4_5, pi4_5, gr4_6, gr4_7, rc8, gr8_0, gi8_1, pi8_1, gr8_2, gr8_3, gr8_4, gr8_5, gr8_6, rc14, gr14_0, gr14_1, gr14_2, gr14_3, gr14_4, gr14_5, rc19, gr19_0, gr19_1, gr19_2, gr19_3, rc22, gr22_0, gr22_1, gr22_2, gr22_3, Option.bind_some, hn, n_0, n_1, n_2, n_3, n_4, n_5, n_6, n_8, n_9, n_10, n_12, n_20, n_25, n_27, n_30, n_31, n_32, n_40, n_48, n_57, n_59, n_63, n_96, n_97, n_120, n_122, n_255, n_256, n_300, n_301, n_512, n_1000, n_1001, n_1002, n_1003, n_1004, n_1005, n_2000, n_2304, n_4096, nI_add, pk_mul, n_m, c_ge, c_gt, c_lt, c_le, c_eq, c_ne, d_lt, d_ge, d_ne, d_eq, d_gt, d_le, m_ltk, m_gek, m_eq, m_ne, rdJ_H ha hN, wrJ_H hb hM]
    rw [if_neg (by omega)]
    have e : K a (o + k) = J a (o + k) := by
      subst hK
      by_cases h : a = b
      · subst h
        exact rwJ_out (by omega)
      · rw [rwJ_ne h]
    rw [e, hK]
    simp only [upJ_rw (f := fun j => J a (o + j))]
theorem sw_e (hn : I 1 0 = nI n) (h5 : n ≤ 5) (hF : 6 ≤ F) (hb : (hs l s d tl)[b]? = some (.inl (1, M))) (hM : M < 2 ^ 31) (h2 : p + n ≤ M) : e40 F 1 b (nI p) (mkH (hs l s d tl) I J) = some ((), (mkH (hs l s d tl) I (rwJ J b p n (fun _ => zJ 1)))) := by
  refine lpc (fun f k K => m40_2 F f 1 b (nI p) (nI k) (mkH (hs l s d tl) I K)) n (fun k K => K = rwJ J b p k (fun _ => zJ 1)) (fun r => r = some ((), (mkH (hs l s d tl) I (rwJ J b p n (fun _ => zJ 1))))) ?_ ?_ F 0 J (by omega) (by omega) rwJ_0.symm
  · intro f K hK
    subst hK
    show m40_2 F (f + 1) _ _ _ _ _ = _
    rw [m40_2]
    simp (disch := omega) only [rc0, gr0_0, gr0_1, gr0_2, gr0_3, gr0_4, gr0_5, gr0_6, gi0_7, pi0_7, rc1, gi1_0, pi1_0, gr1_1, gr1_2, rc4, gr4_0, gi4_1, pi4_1, gi4_2, pi4_2, gi4_3, pi4_3, gi4_4, pi4_4, gi4_5, pi4_5, gr4_6, gr4_7, rc8, gr8_0, gi8_1, pi8_1, gr8_2, gr8_3, gr8_4, gr8_5, gr8_6, rc14, gr14_0, gr14_1, gr14_2, gr14_3, gr14_4, gr14_5, rc19, gr19_0, gr19_1, gr19_2, gr19_3, rc22, gr22_0, gr22_1, gr22_2, gr22_3, Option.bind_some, hn, c_ge]
    rw [if_pos (by omega)]
  · intro f k K hk hK
    right
    refine ⟨_, ?_, rfl⟩
    show m40_2 F (f + 1) _ _ _ _ _ = _
    rw [m40_2]
    simp (disch := omega) only [rc0, gr0_0, gr0_1, gr0_2, gr0_3, gr0_4, gr0_5, gr0_6, gi0_7, pi0_7, rc1, gi1_0, pi1_0, gr1_1, gr1_2, rc4, gr4_0, gi4_1, pi4_1, gi4_2, pi4_2, gi4_3, pi4_3, gi4_4, pi4_4, gi4_5, pi4_5, gr4_6, gr4_7, rc8, gr8_0, gi8_1, pi8_1, gr8_2, gr8_3, gr8_4, gr8_5, gr8_6, rc14, gr14_0, gr14_1, gr14_2, gr14_3, gr14_4, gr14_5, rc19, gr19_0, gr19_1, gr19_2, gr19_3, rc22, gr22_0, gr22_1, gr22_2, gr22_3, Option.bind_some, hn, n_0, n_1, n_2, n_3, n_4, n_5, n_6, n_8, n_9, n_10, n_12, n_20, n_25, n_27, n_30, n_31, n_32, n_40, n_48, n_57, n_59, n_63, n_96, n_97, n_120, n_122, n_255, n_256, n_300, n_301, n_512, n_1000, n_1001, n_1002, n_1003, n_1004, n_1005, n_2000, n_2304, n_4096, nI_add, pk_mul, n_m, c_ge, c_gt, c_lt, c_le, c_eq, c_ne, d_lt, d_ge, d_ne, d_eq, d_gt, d_le, m_ltk, m_gek, m_eq, m_ne, wrJ_H hb hM]
    rw [if_neg (by omega), hK, j_1]
    simp only [← upJ_rw (f := fun _ => zJ 1)]
theorem tw_e (hc : cl_n n A I) (hF : 6 ≤ F) (hb : (hs l s d tl)[b]? = some (.inl (1, M))) (hM : M < 2 ^ 31) (h2 : p + n ≤ M) {t : Nat} (ht : t < n) : e41 F 1 b (nI p) (nI t) (mkH (hs l s d tl) I J) = some ((), (mkH (hs l s d tl) I (rwJ J b p n (fun j => J b (p + j) - J b (p + t) * zJ (A j t))))) := by
  have hcc := hc
  obtain ⟨hok, h1, h5, hn, -⟩ := hc
  have key := lpc (fun f k K => m41_10 F f 1 b (nI p) (nI t) (J b (p + t)) (nI k) (mkH (hs l s d tl) I K)) n (fun k K => K = rwJ J b p k (fun j => J b (p + j) - J b (p + t) * zJ (A j t))) (fun r => r = some ((), (mkH (hs l s d tl) I (rwJ J b p n (fun j => J b (p + j) - J b (p + t) * zJ (A j t)))))) ?_ ?_ F 0 J (by omega) (by omega) rwJ_0.symm
  · show m41_0 F 1 b (nI p) (nI t) _ = _
    unfold m41_0
    simp (disch := omega) only [Option.bind_some, n_0, n_1, n_2, n_3, n_4, n_5, n_6, n_8, n_9, n_10, n_12, n_20, n_25, n_27, n_30, n_31, n_32, n_40, n_48, n_57, n_59, n_63, n_96, n_97, n_120, n_122, n_255, n_256, n_300, n_301, n_512, n_1000, n_1001, n_1002, n_1003, n_1004, n_1005, n_2000, n_2304, n_4096, nI_add, pk_mul, n_m, c_ge, c_gt, c_lt, c_le, c_eq, c_ne, d_lt, d_ge, d_ne, d_eq, d_gt, d_le, m_ltk, m_gek, m_eq, m_ne, rdJ_H hb hM]
    exact key
  · intro f K hK
    subst hK
    show m41_10 F (f + 1) _ _ _ _ _ _ _ = _
    rw [m41_10]
    simp (disch := omega) only [rc0, gr0_0, gr0_1, gr0_2, gr0_3, gr0_4, gr0_5, gr0_6, gi0_7, pi0_7, rc1, gi1_0, pi1_0, gr1_1, gr1_2, rc4, gr4_0, gi4_1, pi4_1, gi4_2, pi4_2, gi4_3, pi4_3, gi4_4, pi4_4, gi4_5, pi4_5, gr4_6, gr4_7, rc8, gr8_0, gi8_1, pi8_1, gr8_2, gr8_3, gr8_4, gr8_5, gr8_6, rc14, gr14_0, gr14_1, gr14_2, gr14_3, gr14_4, gr14_5, rc19, gr19_0, gr19_1, gr19_2, gr19_3, rc22, gr22_0, gr22_1, gr22_2, gr22_3, Option.bind_some, hn, c_ge]
    rw [if_pos (by omega)]
  · intro f k K hk hK
    right
    refine ⟨_, ?_, rfl⟩
    show m41_10 F (f + 1) _ _ _ _ _ _ _ = _
    rw [m41_10]
    simp (disch := omega) only [rc0, gr0_0, gr0_1, gr0_2, gr0_3, gr0_4, gr0_5, gr0_6, gi0_7, pi0_7, rc1, gi1_0, pi1_0, gr1_1, gr1_2, rc4, gr4_0, gi4_1, pi4_1, gi4_2, pi4_2, gi4_3, pi4_3, gi4_4, pi4_4, gi4_5, pi4_5, gr4_6, gr4_7, rc8, gr8_0, gi8_1, pi8_1, gr8_2, gr8_3, gr8_4, gr8_5, gr8_6, rc14, gr14_0, gr14_1, gr14_2, gr14_3, gr14_4, gr14_5, rc19, gr19_0, gr19_1, gr19_2, gr19_3, rc22, gr22_0, gr22_1, gr22_2, gr22_3, Option.bind_some, hn, n_0, n_1, n_2, n_3, n_4, n_5, n_6, n_8, n_9, n_10, n_12, n_20, n_25, n_27, n_30, n_31, n_32, n_40, n_48, n_57, n_59, n_63, n_96, n_97, n_120, n_122, n_255, n_256, n_300, n_301, n_512, n_1000, n_1001, n_1002, n_1003, n_1004, n_1005, n_2000, n_2304, n_4096, nI_add, pk_mul, n_m, c_ge, c_gt, c_lt, c_le, c_eq, c_ne, d_lt, d_ge, d_ne, d_eq, d_gt, d_le, m_ltk, m_gek, m_eq, m_ne, rdJ_H hb hM, wrJ_H hb hM, rI3, wI3]
    rw [if_neg (by omega), cl_A hcc hk ht]
    have e : K b (p + k) = J b (p + k) := by
      subst hK
      exact rwJ_out (by omega)
    rw [e, hK]
    simp only [← upJ_rw (f := fun j => J b (p + j) - J b (p + t) * zJ (A j t))]
theorem sr_e (hn : I 1 0 = nI n) (h5 : n ≤ 5) (hF : 6 ≤ F) (hb : (hs l s d tl)[b]? = some (.inl (1, M))) (hM : M < 2 ^ 31) (h2 : p + n ≤ M) {t : Nat} (ht : t < n) : e38 F 1 b (nI p) (nI t) (mkH (hs l s d tl) I J) = some ((), (mkH (hs l s d tl) I (rwJ J b p n (fun j => zJ (cx_e t j))))) := by
  refine lpc (fun f k K => m38_3 F f 1 b (nI p) (nI t) (nI k) (mkH (hs l s d tl) I K)) n (fun k K => K = rwJ J b p k (fun j => zJ (cx_e t j))) (fun r => r = some ((), (mkH (hs l s d tl) I (rwJ J b p n (fun j => zJ (cx_e t j)))))) ?_ ?_ F 0 J (by omega) (by omega) rwJ_0.symm
  · intro f K hK
    subst hK
    show m38_3 F (f + 1) _ _ _ _ _ _ = _
    rw [m38_3]
    simp (disch := omega) only [rc0, gr0_0, gr0_1, gr0_2, gr0_3, gr0_4, gr0_5, gr0_6, gi0_7, pi0_7, rc1, gi1_0, pi1_0, gr1_1, gr1_2, rc4, gr4_0, gi4_1, pi4_1, gi4_2, pi4_2, gi4_3, pi4_3, gi4_4, pi4_4, gi4_5, pi4_5, gr4_6, gr4_7, rc8, gr8_0, gi8_1, pi8_1, gr8_2, gr8_3, gr8_4, gr8_5, gr8_6, rc14, gr14_0, gr14_1, gr14_2, gr14_3, gr14_4, gr14_5, rc19, gr19_0, gr19_1, gr19_2, gr19_3, rc22, gr22_0, gr22_1, gr22_2, gr22_3, Option.bind_some, hn, c_ge]
    rw [if_pos (by omega)]
  · intro f k K hk hK
    right
    refine ⟨_, ?_, rfl⟩
    show m38_3 F (f + 1) _ _ _ _ _ _ = _
    rw [m38_3]
    simp (disch := omega) only [rc0, gr0_0, gr0_1, gr0_2, gr0_3, gr0_4, gr0_5, gr0_6, gi0_7, pi0_7, rc1, gi1_0, pi1_0, gr1_1, gr1_2, rc4, gr4_0, gi4_1, pi4_1, gi4_2, pi4_2, gi4_3, pi4_3, gi4_4, pi4_4, gi4_5, pi4_5, gr4_6, gr4_7, rc8, gr8_0, gi8_1, pi8_1, gr8_2, gr8_3, gr8_4, gr8_5, gr8_6, rc14, gr14_0, gr14_1, gr14_2, gr14_3, gr14_4, gr14_5, rc19, gr19_0, gr19_1, gr19_2, gr19_3, rc22, gr22_0, gr22_1, gr22_2, gr22_3, Option.bind_some, hn, n_0, n_1, n_2, n_3, n_4, n_5, n_6, n_8, n_9, n_10, n_12, n_20, n_25, n_27, n_30, n_31, n_32, n_40, n_48, n_57, n_59, n_63, n_96, n_97, n_120, n_122, n_255, n_256, n_300, n_301, n_512, n_1000, n_1001, n_1002, n_1003, n_1004, n_1005, n_2000, n_2304, n_4096, nI_add, pk_mul, n_m, c_ge, c_gt, c_lt, c_le, c_eq, c_ne, d_lt, d_ge, d_ne, d_eq, d_gt, d_le, m_ltk, m_gek, m_eq, m_ne]
    rw [if_neg (by omega), hK, ← upJ_rw (f := fun j => zJ (cx_e t j))]
    unfold m38_28 cx_e
    by_cases hkt : k = t
    · rw [if_neg (by omega), if_pos hkt]
      simp (disch := omega) only [Option.bind_some, n_0, n_1, n_2, n_3, n_4, n_5, n_6, n_8, n_9, n_10, n_12, n_20, n_25, n_27, n_30, n_31, n_32, n_40, n_48, n_57, n_59, n_63, n_96, n_97, n_120, n_122, n_255, n_256, n_300, n_301, n_512, n_1000, n_1001, n_1002, n_1003, n_1004, n_1005, n_2000, n_2304, n_4096, nI_add, pk_mul, n_m, c_ge, c_gt, c_lt, c_le, c_eq, c_ne, d_lt, d_ge, d_ne, d_eq, d_gt, d_le, m_ltk, m_gek, m_eq, m_ne, wrJ_H hb hM]
      rfl
    · rw [if_pos hkt, if_neg hkt]
      simp (disch := omega) only [Option.bind_some, n_0, n_1, n_2, n_3, n_4, n_5, n_6, n_8, n_9, n_10, n_12, n_20, n_25, n_27, n_30, n_31, n_32, n_40, n_48, n_57, n_59, n_63, n_96, n_97, n_120, n_122, n_255, n_256, n_300, n_301, n_512, n_1000, n_1001, n_1002, n_1003, n_1004, n_1005, n_2000, n_2304, n_4096, nI_add, pk_mul, n_m, c_ge, c_gt, c_lt, c_le, c_eq, c_ne, d_lt, d_ge, d_ne, d_eq, d_gt, d_le, m_ltk, m_gek, m_eq, m_ne, wrJ_H hb hM]
      rfl
theorem tr_e (hc : cl_n n A I) (hF : 6 ≤ F) (hb : (hs l s d tl)[b]? = some (.inl (1, M))) (hM : M < 2 ^ 31) (h2 : p + n ≤ M) {t : Nat} (ht : t < n) : e39 F 1 b (nI p) (nI t) (mkH (hs l s d tl) I J) = some ((), (mkH (hs l s d tl) I (upJ J b (p + t) (J b (p + t) - sJ n (fun j => zJ (A t j) * J b (p + j)))))) := by
  have hcc := hc
  obtain ⟨hok, h1, h5, hn, -⟩ := hc
  refine lpc (fun f k (x : Int64) => m39_6 F f 1 b (nI p) (nI t) x (nI k) (mkH (hs l s d tl) I J)) n (fun k x => x = sJ k (fun j => zJ (A t j) * J b (p + j))) (fun r => r = some ((), (mkH (hs l s d tl) I (upJ J b (p + t) (J b (p + t) - sJ n (fun j => zJ (A t j) * J b (p + j))))))) ?_ ?_ F 0 0 (by omega) (by omega) rfl
  · intro f x hx
    subst hx
    show m39_6 F (f + 1) _ _ _ _ _ _ _ = _
    rw [m39_6]
    simp (disch := omega) only [rc0, gr0_0, gr0_1, gr0_2, gr0_3, gr0_4, gr0_5, gr0_6, gi0_7, pi0_7, rc1, gi1_0, pi1_0, gr1_1, gr1_2, rc4, gr4_0, gi4_1, pi4_1, gi4_2, pi4_2, gi4_3, pi4_3, gi4_4, pi4_4, gi4_5, pi4_5, gr4_6, gr4_7, rc8, gr8_0, gi8_1, pi8_1, gr8_2, gr8_3, gr8_4, gr8_5, gr8_6, rc14, gr14_0, gr14_1, gr14_2, gr14_3, gr14_4, gr14_5, rc19, gr19_0, gr19_1, gr19_2, gr19_3, rc22, gr22_0, gr22_1, gr22_2, gr22_3, Option.bind_some, hn, n_0, n_1, n_2, n_3, n_4, n_5, n_6, n_8, n_9, n_10, n_12, n_20, n_25, n_27, n_30, n_31, n_32, n_40, n_48, n_57, n_59, n_63, n_96, n_97, n_120, n_122, n_255, n_256, n_300, n_301, n_512, n_1000, n_1001, n_1002, n_1003, n_1004, n_1005, n_2000, n_2304, n_4096, nI_add, pk_mul, n_m, c_ge, c_gt, c_lt, c_le, c_eq, c_ne, d_lt, d_ge, d_ne, d_eq, d_gt, d_le, m_ltk, m_gek, m_eq, m_ne, rdJ_H hb hM, wrJ_H hb hM]
    rw [if_pos (by omega)]
  · intro f k x hk hx
    right
    refine ⟨_, ?_, rfl⟩
    show m39_6 F (f + 1) _ _ _ _ _ _ _ = _
    rw [m39_6]
    simp (disch := omega) only [rc0, gr0_0, gr0_1, gr0_2, gr0_3, gr0_4, gr0_5, gr0_6, gi0_7, pi0_7, rc1, gi1_0, pi1_0, gr1_1, gr1_2, rc4, gr4_0, gi4_1, pi4_1, gi4_2, pi4_2, gi4_3, pi4_3, gi4_4, pi4_4, gi4_5, pi4_5, gr4_6, gr4_7, rc8, gr8_0, gi8_1, pi8_1, gr8_2, gr8_3, gr8_4, gr8_5, gr8_6, rc14, gr14_0, gr14_1, gr14_2, gr14_3, gr14_4, gr14_5, rc19, gr19_0, gr19_1, gr19_2, gr19_3, rc22, gr22_0, gr22_1, gr22_2, gr22_3, Option.bind_some, hn, n_0, n_1, n_2, n_3, n_4, n_5, n_6, n_8, n_9, n_10, n_12, n_20, n_25, n_27, n_30, n_31, n_32, n_40, n_48, n_57, n_59, n_63, n_96, n_97, n_120, n_122, n_255, n_256, n_300, n_301, n_512, n_1000, n_1001, n_1002, n_1003, n_1004, n_1005, n_2000, n_2304, n_4096, nI_add, pk_mul, n_m, c_ge, c_gt, c_lt, c_le, c_eq, c_ne, d_lt, d_ge, d_ne, d_eq, d_gt, d_le, m_ltk, m_gek, m_eq, m_ne, rdJ_H hb hM, rI3, wI3]
    rw [if_neg (by omega), cl_A hcc ht hk, hx]
    rfl
theorem sm_e (hn : I 1 0 = nI n) (h5 : n ≤ 5) (hF : 6 ≤ F) (ha : (hs l s d tl)[a]? = some (.inl (1, N))) (hb : (hs l s d tl)[b]? = some (.inl (1, M))) (hN : N < 2 ^ 31) (hM : M < 2 ^ 31) (h1 : o + n ≤ N) (h2 : p + n ≤ M) : (e43 F 1 a (nI o) b (nI p) (mkH (hs l s d tl) I J) = some (nI 1, (mkH (hs l s d tl) I J)) ∧ ∀ j, j < n → J a (o + j) = J b (p + j)) ∨ (e43 F 1 a (nI o) b (nI p) (mkH (hs l s d tl) I J) = some (nI 0, (mkH (hs l s d tl) I J)) ∧ ∃ j, j < n ∧ J a (o + j) ≠ J b (p + j)) := by
  refine lpc (fun f k (_ : Unit) => m43_3 F f 1 a (nI o) b (nI p) (nI k) (mkH (hs l s d tl) I J)) n (fun k _ => ∀ j, j < k → J a (o + j) = J b (p + j)) (fun r => (r = some (nI 1, (mkH (hs l s d tl) I J)) ∧ ∀ j, j < n → J a (o + j) = J b (p + j)) ∨ (r = some (nI 0, (mkH (hs l s d tl) I J)) ∧ ∃ j, j < n ∧ J a (o + j) ≠ J b (p + j))) ?_ ?_ F 0 () (by omega) (by omega) (fun j hj => by omega)
  · intro f _ hK
    left
    refine ⟨?_, hK⟩
    show m43_3 F (f + 1) _ _ _ _ _ _ _ = _
    rw [m43_3]
    simp (disch := omega) only [rc0, gr0_0, gr0_1, gr0_2, gr0_3, gr0_4, gr0_5, gr0_6, gi0_7, pi0_7, rc1, gi1_0, pi1_0, gr1_1, gr1_2, rc4, gr4_0, gi4_1, pi4_1, gi4_2, pi4_2, gi4_3, pi4_3, gi4_4, pi4_4, gi4_5, pi4_5, gr4_6, gr4_7, rc8, gr8_0, gi8_1, pi8_1, gr8_2, gr8_3, gr8_4, gr8_5, gr8_6, rc14, gr14_0, gr14_1, gr14_2, gr14_3, gr14_4, gr14_5, rc19, gr19_0, gr19_1, gr19_2, gr19_3, rc22, gr22_0, gr22_1, gr22_2, gr22_3, Option.bind_some, hn, n_0, n_1, n_2, n_3, n_4, n_5, n_6, n_8, n_9, n_10, n_12, n_20, n_25, n_27, n_30, n_31, n_32, n_40, n_48, n_57, n_59, n_63, n_96, n_97, n_120, n_122, n_255, n_256, n_300, n_301, n_512, n_1000, n_1001, n_1002, n_1003, n_1004, n_1005, n_2000, n_2304, n_4096, nI_add, pk_mul, n_m, c_ge, c_gt, c_lt, c_le, c_eq, c_ne, d_lt, d_ge, d_ne, d_eq, d_gt, d_le, m_ltk, m_gek, m_eq, m_ne]
    rw [if_pos (by omega)]
  · intro f k _ hk hK
    show ((m43_3 F (f + 1) _ _ _ _ _ _ _ = _ ∧ _) ∨ (m43_3 F (f + 1) _ _ _ _ _ _ _ = _ ∧ _)) ∨ ∃ y, m43_3 F (f + 1) _ _ _ _ _ _ _ = _ ∧ _
    rw [m43_3]
    simp (disch := omega) only [rc0, gr0_0, gr0_1, gr0_2, gr0_3, gr0_4, gr0_5, gr0_6, gi0_7, pi0_7, rc1, gi1_0, pi1_0, gr1_1, gr1_2, rc4, gr4_0, gi4_1, pi4_1, gi4_2, pi4_2, gi4_3, pi4_3, gi4_4, pi4_4, gi4_5, pi4_5, gr4_6, gr4_7, rc8, gr8_0, gi8_1, pi8_1, gr8_2, gr8_3, gr8_4, gr8_5, gr8_6, rc14, gr14_0, gr14_1, gr14_2, gr14_3, gr14_4, gr14_5, rc19, gr19_0, gr19_1, gr19_2, gr19_3, rc22, gr22_0, gr22_1, gr22_2, gr22_3, Option.bind_some, hn, n_0, n_1, n_2, n_3, n_4, n_5, n_6, n_8, n_9, n_10, n_12, n_20, n_25, n_27, n_30, n_31, n_32, n_40, n_48, n_57, n_59, n_63, n_96, n_97, n_120, n_122, n_255, n_256, n_300, n_301, n_512, n_1000, n_1001, n_1002, n_1003, n_1004, n_1005, n_2000, n_2304, n_4096, nI_add, pk_mul, n_m, c_ge, c_gt, c_lt, c_le, c_eq, c_ne, d_lt, d_ge, d_ne, d_eq, d_gt, d_le, m_ltk, m_gek, m_eq, m_ne, rdJ_H ha hN, rdJ_H hb hM, k_eq]
    rw [if_neg (by omega)]
    by_cases h : J a (o + k) = J b (p + k)
    · right
      refine ⟨(), by rw [if_pos h], fun j hj => ?_⟩
      by_cases hj2 : j = k
      · rw [hj2, h]
      · exact hK j (by omega)
    · left
      right
      exact ⟨by rw [if_neg h], k, hk, h⟩
theorem bit_e : ∀ j, j < 5 → ∀ S, S < 32 → (nI S >>> (nI j &&& nI 31)) &&& nI 1 = nI (S / 2 ^ j % 2) := by decide +kernel
theorem or_e : ∀ k, k < 5 → ∀ S, S < 32 → S < 2 ^ k → nI S ||| (nI 1 <<< (nI k &&& nI 31)) = nI (S + 2 ^ k) := by decide +kernel
theorem shl_e : ∀ k, k ≤ 5 → nI 1 <<< (nI k &&& nI 31) = nI (2 ^ k) := by decide +kernel
theorem lb_e (hn : I 1 0 = nI n) (h5 : n ≤ 5) (hF : 6 ≤ F) (ha : (hs l s d tl)[a]? = some (.inl (1, N))) (hN : N < 2 ^ 31) (h1 : o + n ≤ N) {S : Nat} (hS : S < 32) : ∃ v, e45 F 1 a (nI o) (nI S) (mkH (hs l s d tl) I J) = some (v, (mkH (hs l s d tl) I J)) ∧ lst n (fun j => J a (o + j) < 0 ∧ S / 2 ^ j % 2 = 1) v := by
  refine lpc (fun f k (_ : Unit) => m45_3 F f 1 a (nI o) (nI S) (nI k) (mkH (hs l s d tl) I J)) n (fun k _ => ∀ j, j < k → ¬ (J a (o + j) < 0 ∧ S / 2 ^ j % 2 = 1)) (fun r => ∃ v, r = some (v, (mkH (hs l s d tl) I J)) ∧ lst n (fun j => J a (o + j) < 0 ∧ S / 2 ^ j % 2 = 1) v) ?_ ?_ F 0 () (by omega) (by omega) (fun j hj => by omega)
  · intro f _ hK
    refine ⟨gI 1, ?_, Or.inr ⟨rfl, hK⟩⟩
    show m45_3 F (f + 1) _ _ _ _ _ _ = _
    rw [m45_3]
    simp (disch := omega) only [rc0, gr0_0, gr0_1, gr0_2, gr0_3, gr0_4, gr0_5, gr0_6, gi0_7, pi0_7, rc1, gi1_0, pi1_0, gr1_1, gr1_2, rc4, gr4_0, gi4_1, pi4_1, gi4_2, pi4_2, gi4_3, pi4_3, gi4_4, pi4_4, gi4_5, pi4_5, gr4_6, gr4_7, rc8, gr8_0, gi8_1, pi8_1, gr8_2, gr8_3, gr8_4, gr8_5, gr8_6, rc14, gr14_0, gr14_1, gr14_2, gr14_3, gr14_4, gr14_5, rc19, gr19_0, gr19_1, gr19_2, gr19_3, rc22, gr22_0, gr22_1, gr22_2, gr22_3, Option.bind_some, hn, n_0, n_1, n_2, n_3, n_4, n_5, n_6, n_8, n_9, n_10, n_12, n_20, n_25, n_27, n_30, n_31, n_32, n_40, n_48, n_57, n_59, n_63, n_96, n_97, n_120, n_122, n_255, n_256, n_300, n_301, n_512, n_1000, n_1001, n_1002, n_1003, n_1004, n_1005, n_2000, n_2304, n_4096, nI_add, pk_mul, n_m, c_ge, c_gt, c_lt, c_le, c_eq, c_ne, d_lt, d_ge, d_ne, d_eq, d_gt, d_le, m_ltk, m_gek, m_eq, m_ne]
    rw [if_pos (by omega)]
  · intro f k _ hk hK
    show (∃ v, m45_3 F (f + 1) _ _ _ _ _ _ = _ ∧ _) ∨ ∃ y, m45_3 F (f + 1) _ _ _ _ _ _ = _ ∧ _
    rw [m45_3]
    simp (disch := omega) only [rc0, gr0_0, gr0_1, gr0_2, gr0_3, gr0_4, gr0_5, gr0_6, gi0_7, pi0_7, rc1, gi1_0, pi1_0, gr1_1, gr1_2, rc4, gr4_0, gi4_1, pi4_1, gi4_2, pi4_2, gi4_3, pi4_3, gi4_4, pi4_4, gi4_5, pi4_5, gr4_6, gr4_7, rc8, gr8_0, gi8_1, pi8_1, gr8_2, gr8_3, gr8_4, gr8_5, gr8_6, rc14, gr14_0, gr14_1, gr14_2, gr14_3, gr14_4, gr14_5, rc19, gr19_0, gr19_1, gr19_2, gr19_3, rc22, gr22_0, gr22_1, gr22_2, gr22_3, Option.bind_some, hn, n_0, n_1, n_2, n_3, n_4, n_5, n_6, n_8, n_9, n_10, n_12, n_20, n_25, n_27, n_30, n_31, n_32, n_40, n_48, n_57, n_59, n_63, n_96, n_97, n_120, n_122, n_255, n_256, n_300, n_301, n_512, n_1000, n_1001, n_1002, n_1003, n_1004, n_1005, n_2000, n_2304, n_4096, nI_add, pk_mul, n_m, c_ge, c_gt, c_lt, c_le, c_eq, c_ne, d_lt, d_ge, d_ne, d_eq, d_gt, d_le, m_ltk, m_gek, m_eq, m_ne, rdJ_H ha hN, k_ge]
    rw [if_neg (by omega)]
    have hk5 : k < 5 := by omega
    simp (disch := omega) only [bit_e k hk5 S hS, c_ne]
    have nx : ¬ (J a (o + k) < 0 ∧ S / 2 ^ k % 2 = 1) → ∀ j, j < k + 1 → ¬ (J a (o + j) < 0 ∧ S / 2 ^ j % 2 = 1) := by
      intro h j hj
      by_cases hj2 : j = k
      · rw [hj2]; exact h
      · exact hK j (by omega)
    by_cases h : J a (o + k) < 0
    · rw [if_neg (fun e => e h)]
      by_cases h3 : S / 2 ^ k % 2 = 1
      · rw [if_neg (fun e => e h3)]
        left
        exact ⟨nI k, rfl, Or.inl ⟨k, hk, rfl, ⟨h, h3⟩, hK⟩⟩
      · rw [if_pos h3]
        right
        refine ⟨(), ?_, nx (fun e => h3 e.2)⟩
        unfold m45_36
        simp only [n_0, n_1, n_2, n_3, n_4, n_5, n_6, n_8, n_9, n_10, n_12, n_20, n_25, n_27, n_30, n_31, n_32, n_40, n_48, n_57, n_59, n_63, n_96, n_97, n_120, n_122, n_255, n_256, n_300, n_301, n_512, n_1000, n_1001, n_1002, n_1003, n_1004, n_1005, n_2000, n_2304, n_4096, nI_add, pk_mul, n_m, c_ge, c_gt, c_lt, c_le, c_eq, c_ne, d_lt, d_ge, d_ne, d_eq, d_gt, d_le, m_ltk, m_gek, m_eq, m_ne]
    · rw [if_pos h]
      right
      refine ⟨(), ?_, nx (fun e => h e.1)⟩
      unfold m45_36
      simp only [n_0, n_1, n_2, n_3, n_4, n_5, n_6, n_8, n_9, n_10, n_12, n_20, n_25, n_27, n_30, n_31, n_32, n_40, n_48, n_57, n_59, n_63, n_96, n_97, n_120, n_122, n_255, n_256, n_300, n_301, n_512, n_1000, n_1001, n_1002, n_1003, n_1004, n_1005, n_2000, n_2304, n_4096, nI_add, pk_mul, n_m, c_ge, c_gt, c_lt, c_le, c_eq, c_ne, d_lt, d_ge, d_ne, d_eq, d_gt, d_le, m_ltk, m_gek, m_eq, m_ne]
theorem am_e (hn : I 1 0 = nI n) (h5 : n ≤ 5) (h0 : 1 ≤ n) : e46 F 1 (mkH (hs l s d tl) I J) = some (nI (2 ^ n - 1), (mkH (hs l s d tl) I J)) := by
  show m46_0 F 1 _ = _
  unfold m46_0
  simp (disch := omega) only [rc0, gr0_0, gr0_1, gr0_2, gr0_3, gr0_4, gr0_5, gr0_6, gi0_7, pi0_7, rc1, gi1_0, pi1_0, gr1_1, gr1_2, rc4, gr4_0, gi4_1, pi4_1, gi4_2, pi4_2, gi4_3, pi4_3, gi4_4, pi4_4, gi4_5, pi4_5, gr4_6, gr4_7, rc8, gr8_0, gi8_1, pi8_1, gr8_2, gr8_3, gr8_4, gr8_5, gr8_6, rc14, gr14_0, gr14_1, gr14_2, gr14_3, gr14_4, gr14_5, rc19, gr19_0, gr19_1, gr19_2, gr19_3, rc22, gr22_0, gr22_1, gr22_2, gr22_3, Option.bind_some, hn, n_0, n_1, n_2, n_3, n_4, n_5, n_6, n_8, n_9, n_10, n_12, n_20, n_25, n_27, n_30, n_31, n_32, n_40, n_48, n_57, n_59, n_63, n_96, n_97, n_120, n_122, n_255, n_256, n_300, n_301, n_512, n_1000, n_1001, n_1002, n_1003, n_1004, n_1005, n_2000, n_2304, n_4096, nI_add, pk_mul, n_m, c_ge, c_gt, c_lt, c_le, c_eq, c_ne, d_lt, d_ge, d_ne, d_eq, d_gt, d_le, m_ltk, m_gek, m_eq, m_ne]
  rw [shl_e n h5, pk_sub (Nat.one_le_two_pow)]
theorem sb_e (hn : I 1 0 = nI n) (h5 : n ≤ 5) (hF : 6 ≤ F) (ha : (hs l s d tl)[a]? = some (.inl (1, N))) (hN : N < 2 ^ 31) (h1 : o + n ≤ N) : ∃ S, e44 F 1 a (nI o) (mkH (hs l s d tl) I J) = some (nI S, (mkH (hs l s d tl) I J)) ∧ S < 2 ^ n ∧ ∀ j, j < n → (S / 2 ^ j % 2 = 1 ↔ J a (o + j) < 0) := by
  have tw : ∀ k : Nat, 2 ^ (k + 1) = 2 ^ k + 2 ^ k := fun k => by omega
  refine lpc (fun f k (S : Nat) => m44_5 F f 1 a (nI o) (nI S) (nI k) (mkH (hs l s d tl) I J)) n (fun k S => S < 2 ^ k ∧ ∀ j, j < k → (S / 2 ^ j % 2 = 1 ↔ J a (o + j) < 0)) (fun r => ∃ S, r = some (nI S, (mkH (hs l s d tl) I J)) ∧ S < 2 ^ n ∧ ∀ j, j < n → (S / 2 ^ j % 2 = 1 ↔ J a (o + j) < 0)) ?_ ?_ F 0 0 (by omega) (by omega) ⟨by decide, fun j hj => by omega⟩
  · intro f S hK
    refine ⟨S, ?_, hK⟩
    show m44_5 F (f + 1) _ _ _ _ _ _ = _
    rw [m44_5]
    simp (disch := omega) only [rc0, gr0_0, gr0_1, gr0_2, gr0_3, gr0_4, gr0_5, gr0_6, gi0_7, pi0_7, rc1, gi1_0, pi1_0, gr1_1, gr1_2, rc4, gr4_0, gi4_1, pi4_1, gi4_2, pi4_2, gi4_3, pi4_3, gi4_4, pi4_4, gi4_5, pi4_5, gr4_6, gr4_7, rc8, gr8_0, gi8_1, pi8_1, gr8_2, gr8_3, gr8_4, gr8_5, gr8_6, rc14, gr14_0, gr14_1, gr14_2, gr14_3, gr14_4, gr14_5, rc19, gr19_0, gr19_1, gr19_2, gr19_3, rc22, gr22_0, gr22_1, gr22_2, gr22_3, Option.bind_some, hn, n_0, n_1, n_2, n_3, n_4, n_5, n_6, n_8, n_9, n_10, n_12, n_20, n_25, n_27, n_30, n_31, n_32, n_40, n_48, n_57, n_59, n_63, n_96, n_97, n_120, n_122, n_255, n_256, n_300, n_301, n_512, n_1000, n_1001, n_1002, n_1003, n_1004, n_1005, n_2000, n_2304, n_4096, nI_add, pk_mul, n_m, c_ge, c_gt, c_lt, c_le, c_eq, c_ne, d_lt, d_ge, d_ne, d_eq, d_gt, d_le, m_ltk, m_gek, m_eq, m_ne]
    rw [if_pos (by omega)]
  · intro f k S hk hK
    right
    show ∃ y, m44_5 F (f + 1) _ _ _ _ _ _ = _ ∧ _
    rw [m44_5]
    simp (disch := omega) only [rc0, gr0_0, gr0_1, gr0_2, gr0_3, gr0_4, gr0_5, gr0_6, gi0_7, pi0_7, rc1, gi1_0, pi1_0, gr1_1, gr1_2, rc4, gr4_0, gi4_1, pi4_1, gi4_2, pi4_2, gi4_3, pi4_3, gi4_4, pi4_4, gi4_5, pi4_5, gr4_6, gr4_7, rc8, gr8_0, gi8_1, pi8_1, gr8_2, gr8_3, gr8_4, gr8_5, gr8_6, rc14, gr14_0, gr14_1, gr14_2, gr14_3, gr14_4, gr14_5, rc19, gr19_0, gr19_1, gr19_2, gr19_3, rc22, gr22_0, gr22_1, gr22_2, gr22_3, Option.bind_some, hn, n_0, n_1, n_2, n_3, n_4, n_5, n_6, n_8, n_9, n_10, n_12, n_20, n_25, n_27, n_30, n_31, n_32, n_40, n_48, n_57, n_59, n_63, n_96, n_97, n_120, n_122, n_255, n_256, n_300, n_301, n_512, n_1000, n_1001, n_1002, n_1003, n_1004, n_1005, n_2000, n_2304, n_4096, nI_add, pk_mul, n_m, c_ge, c_gt, c_lt, c_le, c_eq, c_ne, d_lt, d_ge, d_ne, d_eq, d_gt, d_le, m_ltk, m_gek, m_eq, m_ne, rdJ_H ha hN, k_ge]
    rw [if_neg (by omega)]
    have hk5 : k < 5 := by omega
    have h32 : 2 ^ k ≤ 16 := by
      have := Nat.pow_le_pow_right (n := 2) (by omega) (show k ≤ 4 by omega)
      omega
    have low : ∀ j, j < k → (S + 2 ^ k) / 2 ^ j % 2 = S / 2 ^ j % 2 := by
      intro j hj
      have e : 2 ^ k = 2 ^ j * (2 * 2 ^ (k - j - 1)) := by
        rw [← Nat.mul_assoc, ← Nat.pow_succ, ← Nat.pow_add]
        congr 1
        omega
      rw [e, Nat.add_mul_div_left _ _ (Nat.two_pow_pos j)]
      omega
    by_cases h : J a (o + k) < 0
    · rw [if_neg (fun e => e h)]
      refine ⟨S + 2 ^ k, ?_, by have := tw k; omega, fun j hj => ?_⟩
      · unfold m44_32
        simp only [n_0, n_1, n_2, n_3, n_4, n_5, n_6, n_8, n_9, n_10, n_12, n_20, n_25, n_27, n_30, n_31, n_32, n_40, n_48, n_57, n_59, n_63, n_96, n_97, n_120, n_122, n_255, n_256, n_300, n_301, n_512, n_1000, n_1001, n_1002, n_1003, n_1004, n_1005, n_2000, n_2304, n_4096, nI_add, pk_mul, n_m, c_ge, c_gt, c_lt, c_le, c_eq, c_ne, d_lt, d_ge, d_ne, d_eq, d_gt, d_le, m_ltk, m_gek, m_eq, m_ne]
        rw [or_e k hk5 S (by omega) hK.1]
      · by_cases hj2 : j = k
        · subst hj2
          rw [Nat.add_div_right _ (Nat.two_pow_pos j), Nat.div_eq_of_lt hK.1]
          exact ⟨fun _ => h, fun _ => rfl⟩
        · rw [low j (by omega)]
          exact hK.2 j (by omega)
    · rw [if_pos h]
      refine ⟨S, ?_, by have := tw k; omega, fun j hj => ?_⟩
      · unfold m44_32
        simp only [n_0, n_1, n_2, n_3, n_4, n_5, n_6, n_8, n_9, n_10, n_12, n_20, n_25, n_27, n_30, n_31, n_32, n_40, n_48, n_57, n_59, n_63, n_96, n_97, n_120, n_122, n_255, n_256, n_300, n_301, n_512, n_1000, n_1001, n_1002, n_1003, n_1004, n_1005, n_2000, n_2304, n_4096, nI_add, pk_mul, n_m, c_ge, c_gt, c_lt, c_le, c_eq, c_ne, d_lt, d_ge, d_ne, d_eq, d_gt, d_le, m_ltk, m_gek, m_eq, m_ne]
      · by_cases hj2 : j = k
        · subst hj2
          rw [Nat.div_eq_of_lt hK.1]
          exact ⟨fun e => by omega, fun e => absurd e h⟩
        · exact hK.2 j (by omega)
theorem hm_e (hn : I 1 0 = nI n) (h5 : n ≤ 5) {x : Int32} : (∃ j, j < n ∧ x = nI j ∧ e36 F 1 x (mkH (hs l s d tl) I J) = some (nI 1, (mkH (hs l s d tl) I J))) ∨ ((∀ j, j < n → x ≠ nI j) ∧ e36 F 1 x (mkH (hs l s d tl) I J) = some (nI 0, (mkH (hs l s d tl) I J))) := by
  show (∃ j, j < n ∧ x = nI j ∧ m36_0 F 1 x _ = _) ∨ (_ ∧ m36_0 F 1 x _ = _)
  unfold m36_0 m36_16 m36_17
  simp (disch := omega) only [rc0, gr0_0, gr0_1, gr0_2, gr0_3, gr0_4, gr0_5, gr0_6, gi0_7, pi0_7, rc1, gi1_0, pi1_0, gr1_1, gr1_2, rc4, gr4_0, gi4_1, pi4_1, gi4_2, pi4_2, gi4_3, pi4_3, gi4_4, pi4_4, gi4_5, pi4_5, gr4_6, gr4_7, rc8, gr8_0, gi8_1, pi8_1, gr8_2, gr8_3, gr8_4, gr8_5, gr8_6, rc14, gr14_0, gr14_1, gr14_2, gr14_3, gr14_4, gr14_5, rc19, gr19_0, gr19_1, gr19_2, gr19_3, rc22, gr22_0, gr22_1, gr22_2, gr22_3, Option.bind_some, hn]
  rcases pk_ix x (show n < 2 ^ 31 by omega) with h | h | ⟨j, hj, rfl⟩
  · right
    refine ⟨fun j hj e => ?_, ?_⟩
    · rw [e] at h
      exact nI_pos (by omega) h
    · have : mc1 .lt x = true := by unfold mc1; exact decide_eq_true h
      rw [if_pos this]
      rfl
  · right
    refine ⟨fun j hj e => ?_, ?_⟩
    · rw [e, nI_leI (by omega) (by omega)] at h
      omega
    · have h0 : ¬ mc1 .lt x = true := by
        unfold mc1
        rw [decide_eq_true_eq]
        intro e
        have := Int32.le_iff_toInt_le.mp h
        have e2 := Int32.lt_iff_toInt_lt.mp e
        rw [nI_toInt (by omega)] at this
        have : (0 : Int32).toInt = 0 := rfl
        omega
      have h1 : mc2 .ge x (nI n) = true := by unfold mc2; exact decide_eq_true h
      rw [if_neg h0, if_pos h1]
      rfl
  · left
    refine ⟨j, hj, rfl, ?_⟩
    simp (disch := omega) only [d_lt, c_ge, if_false]
    rw [if_neg (by omega)]
    rfl
end S
