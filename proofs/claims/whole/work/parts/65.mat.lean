/-! The reference: matrices. -/
/-- a square is what x makes of start roots -/
def sq (n : Nat) (A : Nat → Nat → Int) (x : List Nat) (f : Nat → Int64) (o : Nat) : Prop := ∀ i k, i < 5 → k < 5 → f (o + 5 * i + k) = zJ (cx_x n A x (cx_e i) k)
/-- what the reference knows of the group -/
def mo_n (n : Nat) (A : Nat → Nat → Int) (I : hI) : Prop := cx_ok n A ∧ 1 ≤ n ∧ n ≤ 5 ∧ I 26 0 = nI n ∧ ∀ i j, i < n → j < n → I 28 (5 * i + j) = zI (A i j) ∧ -3 ≤ A i j ∧ A i j ≤ 2
theorem k_lt (x y : Int64) : (mc1 .lt (lg_cmp x y) = true) = (x < y) := by
  have h := k_geg x y
  unfold mc1 at *
  dsimp only at *
  rw [decide_eq_true_eq] at *
  apply propext
  constructor
  · intro e
    apply Classical.byContradiction
    intro hn
    have := h.mpr hn
    rw [Int32.le_iff_toInt_le] at this
    rw [Int32.lt_iff_toInt_lt] at e
    omega
  · intro e
    apply Classical.byContradiction
    intro hn
    apply h.mp _ e
    rw [Int32.le_iff_toInt_le]
    rw [Int32.lt_iff_toInt_lt] at hn
    omega
section S
variable {n : Nat} {A : Nat → Nat → Int}
theorem sq_dn (hok : cx_ok n A) {u : List Nat} (hu : cx_L n u) (hl : cx_l n A u ≤ 31) (hn5 : n ≤ 5) {g : Nat → Int64} {o : Nat} (h : sq n A u g o) {j : Nat} (hj : j < n) : (∃ k, k < 5 ∧ g (o + 5 * j + k) < 0) ↔ dn n A u j := by
  unfold dn
  rw [← cx_dn hok hu hj]
  constructor
  · rintro ⟨k, hk, h1⟩
    rw [h j k (by omega) hk] at h1
    have hb := x_in hok hu hl hj k
    exact ⟨k, (zJ_lt hb.1 hb.2).mp h1⟩
  · rintro ⟨k, hk⟩
    have hb := x_in hok hu hl hj k
    by_cases hkn : k < 5
    · refine ⟨k, hkn, ?_⟩
      rw [h j k (by omega) hkn]
      exact (zJ_lt hb.1 hb.2).mpr hk
    · rw [cx_x_out hu (by omega)] at hk
      unfold cx_e at hk
      split at hk <;> omega
theorem sq_un (hok : cx_ok n A) (hn5 : n ≤ 5) {u v : List Nat} (hu : cx_L n u) (hv : cx_L n v) (hl : cx_l n A u ≤ 31) (hl' : cx_l n A v ≤ 31) {g g' : Nat → Int64} {o o' : Nat} (h : sq n A u g o) (h' : sq n A v g' o') : (∀ q, q < 25 → g (o + q) = g' (o' + q)) ↔ cx_g n A u = cx_g n A v := by
  constructor
  · intro he
    apply cx_faith hok hu hv
    intro t ht
    funext k
    by_cases hk : k < 5
    · have e := he (5 * t + k) (by omega)
      rw [← Nat.add_assoc, ← Nat.add_assoc, h t k (by omega) hk, h' t k (by omega) hk] at e
      have b1 := x_in hok hu hl ht k
      have b2 := x_in hok hv hl' ht k
      exact zJ_inj b1.1 b1.2 b2.1 b2.2 e
    · rw [cx_x_out hu (by omega), cx_x_out hv (by omega)]
  · intro hg q hq
    have e1 : o + q = o + 5 * (q / 5) + q % 5 := by omega
    have e2 : o' + q = o' + 5 * (q / 5) + q % 5 := by omega
    rw [e1, e2, h (q / 5) (q % 5) (by omega) (by omega), h' (q / 5) (q % 5) (by omega) (by omega), cx_x_g hg]
theorem sq_cg {u u' : List Nat} (hg : cx_g n A u = cx_g n A u') {g : Nat → Int64} {o : Nat} (h : sq n A u g o) : sq n A u' g o := by
  intro i k hi hk
  rw [h i k hi hk, cx_x_g hg]
theorem sq_ne {u : List Nat} {J J' : hJ} {b o : Nat} (e : J' b = J b) (h : sq n A u (J b) o) : sq n A u (J' b) o := by rw [e]; exact h
theorem sq_cp {u : List Nat} {J : hJ} {a b o p : Nat} (h : sq n A u (J a) o) : sq n A u (rwJ J b p 25 (fun q => J a (o + q)) b) p := by
  intro i k hi hk
  rw [Nat.add_assoc, rwJ_in (by omega), ← Nat.add_assoc, h i k hi hk]
theorem sq_nil {J : hJ} {b p : Nat} : sq n A [] (rwJ J b p 25 (fun q => zJ (if q / 5 = q % 5 then 1 else 0)) b) p := by
  intro i k hi hk
  rw [Nat.add_assoc, rwJ_in (by omega)]
  show _ = zJ (cx_e i k)
  unfold cx_e
  rw [show (5 * i + k) / 5 = i by omega, show (5 * i + k) % 5 = k by omega]
  by_cases h : i = k
  · rw [if_pos h, if_pos h.symm]
  · rw [if_neg h, if_neg (fun e => h e.symm)]
end S
section S
variable {l s d : Value} {tl : List hQ} {F : Nat} {I : hI} {J : hJ} {n a b o p N M : Nat} {A : Nat → Nat → Int} {els : List (List Nat)}
theorem mo_A (h : mo_n n A I) {i j : Nat} (hi : i < n) (hj : j < n) : (I 28 (5 * i + j)).toInt64 = zJ (A i j) := by
  have h2 := h.2.2.2.2 i j hi hj
  rw [h2.1, zI_J (by omega) (by omega)]
theorem mo_fr {I' : hI} (h : mo_n n A I) (h1 : I' 26 0 = I 26 0) (h3 : I' 28 = I 28) : mo_n n A I' := by
  unfold mo_n at *
  rw [h1, h3]
  exact h
/-- begin -/
theorem bg_e (hF : 30 ≤ F) : e154 F 26 (mkH (hs l s d tl) I J) = some ((), (mkH (hs l s d tl) I (rwJ J 32 0 25 (fun q => zJ (if q / 5 = q % 5 then 1 else 0))))) := by
  refine lpc (fun f k K => m154_2 F f 26 (nI k) (mkH (hs l s d tl) I K)) 25 (fun k K => K = rwJ J 32 0 k (fun q => zJ (if q / 5 = q % 5 then 1 else 0))) (fun r => r = some ((), (mkH (hs l s d tl) I (rwJ J 32 0 25 (fun q => zJ (if q / 5 = q % 5 then 1 else 0)))))) ?_ ?_ F 0 J (by omega) (by omega) rwJ_0.symm
  · intro f K hK
    subst hK
    show m154_2 F (f + 1) _ _ _ = _
    rw [m154_2]
    simp (disch := omega) only [n_0, n_1, n_2, n_3, n_4, n_5, n_6, n_8, n_9, n_10, n_12, n_20, n_25, n_27, n_30, n_31, n_32, n_40, n_48, n_57, n_59, n_63, n_96, n_97, n_120, n_122, n_255, n_256, n_300, n_301, n_512, n_1000, n_1001, n_1002, n_1003, n_1004, n_1005, n_2000, n_2304, n_4096, nI_add, pk_mul, n_m, c_ge, c_gt, c_lt, c_le, c_eq, c_ne, d_lt, d_ge, d_ne, d_eq, d_gt, d_le, m_ltk, m_gek, m_eq, m_ne]
    rw [if_pos (by omega)]
  · intro f k K hk hK
    right
    show ∃ y, m154_2 F (f + 1) _ _ _ = _ ∧ _
    rw [m154_2]
    simp (disch := omega) only [rc26, gi26_0, pi26_0, gr26_1, gr26_2, gr26_3, gr26_4, gi26_5, pi26_5, gi26_6, pi26_6, gi26_7, pi26_7, gl26_8, pl26_8, gi26_9, pi26_9, gi26_10, pi26_10, gr26_11, gi26_12, pi26_12, gr26_13, gr26_14, gi26_15, pi26_15, gi26_16, pi26_16, gr26_17, gr26_18, gi26_19, pi26_19, gr26_20, gr26_21, gr26_22, gr26_23, gr26_24, gr26_25, gr26_26, gi26_27, pi26_27, gr26_28, gr26_29, gi26_30, pi26_30, gi26_31, pi26_31, gr26_32, gr26_33, gr26_34, gr26_35, gr26_36, gr26_37, gr26_38, gr26_39, gr26_40, Option.bind_some, n_25, n_5, c_ge, pk_div]
    rw [if_neg (by omega)]
    unfold m154_27
    have up := upJ_rw (J := J) (b := 32) (o := 0) (k := k) (f := fun q => zJ (if q / 5 = q % 5 then 1 else 0))
    rw [Nat.zero_add] at up
    have er : nI k - nI (k / 5) * nI 5 = nI (k % 5) := by rw [← pk_div (by omega) (by omega) (by omega), pk_rem (by omega) (by omega) (by omega)]
    simp (disch := omega) only [er, c_ne]
    by_cases hc : k / 5 = k % 5
    · rw [if_neg (fun h => h hc)]
      rw [if_pos hc] at up
      simp (disch := omega) only [rJ32, wJ32, Option.bind_some, n_0, n_1, n_2, n_3, n_4, n_5, n_6, n_8, n_9, n_10, n_12, n_20, n_25, n_27, n_30, n_31, n_32, n_40, n_48, n_57, n_59, n_63, n_96, n_97, n_120, n_122, n_255, n_256, n_300, n_301, n_512, n_1000, n_1001, n_1002, n_1003, n_1004, n_1005, n_2000, n_2304, n_4096, nI_add, pk_mul, n_m, c_ge, c_gt, c_lt, c_le, c_eq, c_ne, d_lt, d_ge, d_ne, d_eq, d_gt, d_le, m_ltk, m_gek, m_eq, m_ne]
      rw [hK, j_1, up]
      exact ⟨_, rfl, rfl⟩
    · rw [if_pos hc]
      rw [if_neg hc] at up
      simp (disch := omega) only [rJ32, wJ32, Option.bind_some, n_0, n_1, n_2, n_3, n_4, n_5, n_6, n_8, n_9, n_10, n_12, n_20, n_25, n_27, n_30, n_31, n_32, n_40, n_48, n_57, n_59, n_63, n_96, n_97, n_120, n_122, n_255, n_256, n_300, n_301, n_512, n_1000, n_1001, n_1002, n_1003, n_1004, n_1005, n_2000, n_2304, n_4096, nI_add, pk_mul, n_m, c_ge, c_gt, c_lt, c_le, c_eq, c_ne, d_lt, d_ge, d_ne, d_eq, d_gt, d_le, m_ltk, m_gek, m_eq, m_ne]
      rw [hK, j_0, up]
      exact ⟨_, rfl, rfl⟩
theorem fo_in (hM : mo_n n A I) (hF : 30 ≤ F) {t j : Nat} (ht : t < n) (hj : j < n) (hjt : j ≠ t) (rc : Nat → Int32 → Int32 → Int32 → Nat → Int32 → List mE → Option (Unit × List mE)) (J : hJ) : m155_12 F rc F 32 (nI 0) (nI t) (nI n) 28 (nI j) (nI 0) (mkH (hs l s d tl) I J) = rc 32 (nI 0) (nI t) (nI n) 28 (nI (j + 1)) (mkH (hs l s d tl) I (rwJ J 32 (5 * j) n (fun k => J 32 (5 * j + k) - zJ (A t j) * J 32 (5 * t + k)))) := by
  have hn5 := hM.2.2.1
  refine lpc (fun f k K => m155_12 F rc f 32 (nI 0) (nI t) (nI n) 28 (nI j) (nI k) (mkH (hs l s d tl) I K)) n (fun k K => K = rwJ J 32 (5 * j) k (fun k => J 32 (5 * j + k) - zJ (A t j) * J 32 (5 * t + k))) (fun r => r = rc 32 (nI 0) (nI t) (nI n) 28 (nI (j + 1)) (mkH (hs l s d tl) I (rwJ J 32 (5 * j) n (fun k => J 32 (5 * j + k) - zJ (A t j) * J 32 (5 * t + k))))) ?_ ?_ F 0 J (by omega) (by omega) rwJ_0.symm
  · intro f K hK
    subst hK
    show m155_12 F _ (f + 1) _ _ _ _ _ _ _ _ = _
    rw [m155_12]
    simp (disch := omega) only [n_0, n_1, n_2, n_3, n_4, n_5, n_6, n_8, n_9, n_10, n_12, n_20, n_25, n_27, n_30, n_31, n_32, n_40, n_48, n_57, n_59, n_63, n_96, n_97, n_120, n_122, n_255, n_256, n_300, n_301, n_512, n_1000, n_1001, n_1002, n_1003, n_1004, n_1005, n_2000, n_2304, n_4096, nI_add, pk_mul, n_m, c_ge, c_gt, c_lt, c_le, c_eq, c_ne, d_lt, d_ge, d_ne, d_eq, d_gt, d_le, m_ltk, m_gek, m_eq, m_ne]
    rw [if_pos (by omega)]
    unfold m155_65
    simp only [n_0, n_1, n_2, n_3, n_4, n_5, n_6, n_8, n_9, n_10, n_12, n_20, n_25, n_27, n_30, n_31, n_32, n_40, n_48, n_57, n_59, n_63, n_96, n_97, n_120, n_122, n_255, n_256, n_300, n_301, n_512, n_1000, n_1001, n_1002, n_1003, n_1004, n_1005, n_2000, n_2304, n_4096, nI_add, pk_mul, n_m, c_ge, c_gt, c_lt, c_le, c_eq, c_ne, d_lt, d_ge, d_ne, d_eq, d_gt, d_le, m_ltk, m_gek, m_eq, m_ne]
  · intro f k K hk hK
    right
    refine ⟨_, ?_, rfl⟩
    show m155_12 F _ (f + 1) _ _ _ _ _ _ _ _ = _
    rw [m155_12]
    simp (disch := omega) only [n_0, n_1, n_2, n_3, n_4, n_5, n_6, n_8, n_9, n_10, n_12, n_20, n_25, n_27, n_30, n_31, n_32, n_40, n_48, n_57, n_59, n_63, n_96, n_97, n_120, n_122, n_255, n_256, n_300, n_301, n_512, n_1000, n_1001, n_1002, n_1003, n_1004, n_1005, n_2000, n_2304, n_4096, nI_add, pk_mul, n_m, c_ge, c_gt, c_lt, c_le, c_eq, c_ne, d_lt, d_ge, d_ne, d_eq, d_gt, d_le, m_ltk, m_gek, m_eq, m_ne, Option.bind_some, rJ32, wJ32, rI28, wI28, Nat.zero_add]
    rw [if_neg (by omega), if_neg hjt, mo_A hM ht hj]
    have e1 : K 32 (5 * j + k) = J 32 (5 * j + k) := by
      subst hK
      exact rwJ_out (by omega)
    have e2 : K 32 (5 * t + k) = J 32 (5 * t + k) := by
      subst hK
      exact rwJ_out (by omega)
    rw [e1, e2, hK]
    simp only [upJ_rw (f := fun k => J 32 (5 * j + k) - zJ (A t j) * J 32 (5 * t + k))]
theorem fo_same (hn : n ≤ 5) (h1 : 1 ≤ n) {t : Nat} (ht : t < n) (hF : 30 ≤ F) (rc : Nat → Int32 → Int32 → Int32 → Nat → Int32 → List mE → Option (Unit × List mE)) (J : hJ) : m155_12 F rc F 32 (nI 0) (nI t) (nI n) 28 (nI t) (nI 0) (mkH (hs l s d tl) I J) = rc 32 (nI 0) (nI t) (nI n) 28 (nI (t + 1)) (mkH (hs l s d tl) I J) := by
  obtain ⟨f, rfl⟩ : ∃ f, F = f + 1 := ⟨F - 1, by omega⟩
  rw [m155_12]
  simp (disch := omega) only [n_0, n_1, n_2, n_3, n_4, n_5, n_6, n_8, n_9, n_10, n_12, n_20, n_25, n_27, n_30, n_31, n_32, n_40, n_48, n_57, n_59, n_63, n_96, n_97, n_120, n_122, n_255, n_256, n_300, n_301, n_512, n_1000, n_1001, n_1002, n_1003, n_1004, n_1005, n_2000, n_2304, n_4096, nI_add, pk_mul, n_m, c_ge, c_gt, c_lt, c_le, c_eq, c_ne, d_lt, d_ge, d_ne, d_eq, d_gt, d_le, m_ltk, m_gek, m_eq, m_ne]
  rw [if_neg (by omega), if_pos trivial]
  unfold m155_65
  simp only [n_0, n_1, n_2, n_3, n_4, n_5, n_6, n_8, n_9, n_10, n_12, n_20, n_25, n_27, n_30, n_31, n_32, n_40, n_48, n_57, n_59, n_63, n_96, n_97, n_120, n_122, n_255, n_256, n_300, n_301, n_512, n_1000, n_1001, n_1002, n_1003, n_1004, n_1005, n_2000, n_2304, n_4096, nI_add, pk_mul, n_m, c_ge, c_gt, c_lt, c_le, c_eq, c_ne, d_lt, d_ge, d_ne, d_eq, d_gt, d_le, m_ltk, m_gek, m_eq, m_ne]
theorem fo_neg (hn : n ≤ 5) {t : Nat} (ht : t < n) (hF : 30 ≤ F) (J : hJ) : m155_74 F F 32 (nI 0) (nI t) (nI n) (nI 0) (mkH (hs l s d tl) I J) = some ((), (mkH (hs l s d tl) I (rwJ J 32 (5 * t) n (fun k => - J 32 (5 * t + k))))) := by
  refine lpc (fun f k K => m155_74 F f 32 (nI 0) (nI t) (nI n) (nI k) (mkH (hs l s d tl) I K)) n (fun k K => K = rwJ J 32 (5 * t) k (fun k => - J 32 (5 * t + k))) (fun r => r = some ((), (mkH (hs l s d tl) I (rwJ J 32 (5 * t) n (fun k => - J 32 (5 * t + k)))))) ?_ ?_ F 0 J (by omega) (by omega) rwJ_0.symm
  · intro f K hK
    subst hK
    show m155_74 F (f + 1) _ _ _ _ _ _ = _
    rw [m155_74]
    simp (disch := omega) only [n_0, n_1, n_2, n_3, n_4, n_5, n_6, n_8, n_9, n_10, n_12, n_20, n_25, n_27, n_30, n_31, n_32, n_40, n_48, n_57, n_59, n_63, n_96, n_97, n_120, n_122, n_255, n_256, n_300, n_301, n_512, n_1000, n_1001, n_1002, n_1003, n_1004, n_1005, n_2000, n_2304, n_4096, nI_add, pk_mul, n_m, c_ge, c_gt, c_lt, c_le, c_eq, c_ne, d_lt, d_ge, d_ne, d_eq, d_gt, d_le, m_ltk, m_gek, m_eq, m_ne]
    rw [if_pos (by omega)]
  · intro f k K hk hK
    right
    refine ⟨_, ?_, rfl⟩
    show m155_74 F (f + 1) _ _ _ _ _ _ = _
    rw [m155_74]
    simp (disch := omega) only [n_0, n_1, n_2, n_3, n_4, n_5, n_6, n_8, n_9, n_10, n_12, n_20, n_25, n_27, n_30, n_31, n_32, n_40, n_48, n_57, n_59, n_63, n_96, n_97, n_120, n_122, n_255, n_256, n_300, n_301, n_512, n_1000, n_1001, n_1002, n_1003, n_1004, n_1005, n_2000, n_2304, n_4096, nI_add, pk_mul, n_m, c_ge, c_gt, c_lt, c_le, c_eq, c_ne, d_lt, d_ge, d_ne, d_eq, d_gt, d_le, m_ltk, m_gek, m_eq, m_ne, Option.bind_some, rJ32, wJ32, Nat.zero_add]
    rw [if_neg (by omega)]
    have e1 : K 32 (5 * t + k) = J 32 (5 * t + k) := by
      subst hK
      exact rwJ_out (by omega)
    rw [e1, hK]
    simp only [upJ_rw (f := fun k => - J 32 (5 * t + k))]
/-- then: a letter more behind the word -/
theorem th_e (hM : mo_n n A I) (hF : 30 ≤ F) {t : Nat} (ht : t < n) {x : List Nat} (hx : cx_L n x) (hc : sq n A x (J 32) 0) : ∃ J', e156 F 26 (nI t) (mkH (hs l s d tl) I J) = some ((), (mkH (hs l s d tl) I J')) ∧ sq n A (x ++ [t]) (J' 32) 0 ∧ ∀ c, c ≠ 32 → J' c = J c := by
  have hMM := hM
  obtain ⟨hok, h1n, hn, hI0, hA⟩ := hM
  have key := lpc (fun f j K => m155_3 F f 32 (nI 0) (nI t) (nI n) 28 (nI j) (mkH (hs l s d tl) I K)) n (fun j K => (∀ i k, i < 5 → k < 5 → K 32 (5 * i + k) = if i < j ∧ i ≠ t ∧ k < n then J 32 (5 * i + k) - zJ (A t i) * J 32 (5 * t + k) else J 32 (5 * i + k)) ∧ ∀ c, c ≠ 32 → K c = J c) (fun r => ∃ J', r = some ((), (mkH (hs l s d tl) I J')) ∧ (∀ i k, i < 5 → k < 5 → J' 32 (5 * i + k) = if i = t ∧ k < n then - J 32 (5 * i + k) else if i < n ∧ k < n then J 32 (5 * i + k) - zJ (A t i) * J 32 (5 * t + k) else J 32 (5 * i + k)) ∧ ∀ c, c ≠ 32 → J' c = J c) ?_ ?_ F 0 J (by omega) (by omega) ⟨fun i k hi hk => by rw [if_neg (by omega)], fun _ _ => rfl⟩
  · obtain ⟨J', e1, e2, e3⟩ := key
    refine ⟨J', ?_, fun i k hi hk => ?_, e3⟩
    · show m156_0 F 26 _ _ = _
      unfold m156_0
      simp (disch := omega) only [rc26, gi26_0, pi26_0, gr26_1, gr26_2, gr26_3, gr26_4, gi26_5, pi26_5, gi26_6, pi26_6, gi26_7, pi26_7, gl26_8, pl26_8, gi26_9, pi26_9, gi26_10, pi26_10, gr26_11, gi26_12, pi26_12, gr26_13, gr26_14, gi26_15, pi26_15, gi26_16, pi26_16, gr26_17, gr26_18, gi26_19, pi26_19, gr26_20, gr26_21, gr26_22, gr26_23, gr26_24, gr26_25, gr26_26, gi26_27, pi26_27, gr26_28, gr26_29, gi26_30, pi26_30, gi26_31, pi26_31, gr26_32, gr26_33, gr26_34, gr26_35, gr26_36, gr26_37, gr26_38, gr26_39, gr26_40, Option.bind_some, n_0, n_1, n_2, n_3, n_4, n_5, n_6, n_8, n_9, n_10, n_12, n_20, n_25, n_27, n_30, n_31, n_32, n_40, n_48, n_57, n_59, n_63, n_96, n_97, n_120, n_122, n_255, n_256, n_300, n_301, n_512, n_1000, n_1001, n_1002, n_1003, n_1004, n_1005, n_2000, n_2304, n_4096, nI_add, pk_mul, n_m, c_ge, c_gt, c_lt, c_le, c_eq, c_ne, d_lt, d_ge, d_ne, d_eq, d_gt, d_le, m_ltk, m_gek, m_eq, m_ne, hI0]
      have e : e155 F 32 (nI 0) (nI t) (nI n) 28 (mkH (hs l s d tl) I J) = some ((), (mkH (hs l s d tl) I J')) := by
        show m155_0 F _ _ _ _ _ _ = _
        unfold m155_0
        simp only [n_0, n_1, n_2, n_3, n_4, n_5, n_6, n_8, n_9, n_10, n_12, n_20, n_25, n_27, n_30, n_31, n_32, n_40, n_48, n_57, n_59, n_63, n_96, n_97, n_120, n_122, n_255, n_256, n_300, n_301, n_512, n_1000, n_1001, n_1002, n_1003, n_1004, n_1005, n_2000, n_2304, n_4096, nI_add, pk_mul, n_m, c_ge, c_gt, c_lt, c_le, c_eq, c_ne, d_lt, d_ge, d_ne, d_eq, d_gt, d_le, m_ltk, m_gek, m_eq, m_ne]
        exact e1
      rw [e]
      rfl
    · have c1 := hc i k hi hk
      have c2 := hc t k (by omega) hk
      rw [Nat.zero_add] at c1 c2
      rw [Nat.zero_add, e2 i k hi hk, c1, c2, zJ_neg, zJ_mul, zJ_sub]
      by_cases hin : i < n
      · rw [cx_x_turn hin]
        by_cases hkn : k < n
        · by_cases hit : i = t
          · subst hit
            rw [if_pos ⟨rfl, hkn⟩, hok.1 i hin]
            congr 1
            omega
          · rw [if_neg (by omega), if_pos (by omega)]
        · rw [if_neg (by omega), if_neg (by omega), cx_x_out hx (by omega), cx_x_out hx (by omega)]
          congr 1
          have z : cx_e t k = 0 := by unfold cx_e; rw [if_neg (by omega)]
          rw [z, Int.mul_zero]
          omega
      · rw [if_neg (by omega), if_neg (by omega), cx_x_fix (x := x ++ [t]) (fun j hj => by unfold cx_e; rw [if_neg (by omega)]), cx_x_fix (x := x) (fun j hj => by unfold cx_e; rw [if_neg (by omega)])]
  · rintro f K ⟨k1, k2⟩
    show ∃ J', m155_3 F (f + 1) _ _ _ _ _ _ _ = _ ∧ _
    rw [m155_3]
    simp (disch := omega) only [n_0, n_1, n_2, n_3, n_4, n_5, n_6, n_8, n_9, n_10, n_12, n_20, n_25, n_27, n_30, n_31, n_32, n_40, n_48, n_57, n_59, n_63, n_96, n_97, n_120, n_122, n_255, n_256, n_300, n_301, n_512, n_1000, n_1001, n_1002, n_1003, n_1004, n_1005, n_2000, n_2304, n_4096, nI_add, pk_mul, n_m, c_ge, c_gt, c_lt, c_le, c_eq, c_ne, d_lt, d_ge, d_ne, d_eq, d_gt, d_le, m_ltk, m_gek, m_eq, m_ne]
    rw [if_pos (by omega), fo_neg hn ht hF K]
    refine ⟨_, rfl, fun i k hi hk => ?_, fun c hc => (rwJ_ne hc).trans (k2 c hc)⟩
    by_cases hit : i = t
    · subst hit
      by_cases hkn : k < n
      · rw [if_pos ⟨rfl, hkn⟩, rwJ_in hkn, k1 i k hi hk, if_neg (by omega)]
      · rw [if_neg (by omega), if_neg (by omega), rwJ_out (by omega), k1 i k hi hk, if_neg (by omega)]
    · rw [if_neg (by omega), rwJ_out (by omega), k1 i k hi hk]
      by_cases h : i < n ∧ k < n
      · rw [if_pos (by omega), if_pos h]
      · rw [if_neg (by omega), if_neg h]
  · rintro f j K hj ⟨k1, k2⟩
    right
    show ∃ y, m155_3 F (f + 1) _ _ _ _ _ _ _ = _ ∧ _
    rw [m155_3]
    simp (disch := omega) only [n_0, n_1, n_2, n_3, n_4, n_5, n_6, n_8, n_9, n_10, n_12, n_20, n_25, n_27, n_30, n_31, n_32, n_40, n_48, n_57, n_59, n_63, n_96, n_97, n_120, n_122, n_255, n_256, n_300, n_301, n_512, n_1000, n_1001, n_1002, n_1003, n_1004, n_1005, n_2000, n_2304, n_4096, nI_add, pk_mul, n_m, c_ge, c_gt, c_lt, c_le, c_eq, c_ne, d_lt, d_ge, d_ne, d_eq, d_gt, d_le, m_ltk, m_gek, m_eq, m_ne]
    rw [if_neg (by omega)]
    by_cases hjt : j = t
    · subst hjt
      rw [fo_same hn h1n ht hF]
      refine ⟨_, rfl, fun i k hi hk => ?_, k2⟩
      rw [k1 i k hi hk]
      by_cases h : i < j ∧ i ≠ j ∧ k < n
      · rw [if_pos h, if_pos (by omega)]
      · rw [if_neg h, if_neg (by omega)]
    · rw [fo_in hMM hF ht hj hjt]
      refine ⟨_, rfl, fun i k hi hk => ?_, fun c hc => (rwJ_ne hc).trans (k2 c hc)⟩
      by_cases hij : i = j
      · subst hij
        by_cases hkn : k < n
        · rw [rwJ_in hkn, k1 i k hi hk, k1 t k (by omega) hk, if_neg (by omega), if_neg (by omega), if_pos (by omega)]
        · rw [rwJ_out (by omega), k1 i k hi hk, if_neg (by omega), if_neg (by omega)]
      · rw [rwJ_out (by omega), k1 i k hi hk]
        by_cases h : i < j ∧ i ≠ t ∧ k < n
        · rw [if_pos h, if_pos (by omega)]
        · rw [if_neg h, if_neg (by omega)]
/-- isDown -/
theorem id_e (hF : 30 ≤ F) (ha : (hs l s d tl)[a]? = some (.inl (1, N))) (hN : N < 2 ^ 31) {t : Nat} (h1 : o + 5 * t + 5 ≤ N) : (e157 F a (nI o) (nI t) (mkH (hs l s d tl) I J) = some (nI 1, (mkH (hs l s d tl) I J)) ∧ ∃ k, k < 5 ∧ J a (o + 5 * t + k) < 0) ∨ (e157 F a (nI o) (nI t) (mkH (hs l s d tl) I J) = some (nI 0, (mkH (hs l s d tl) I J)) ∧ ¬ ∃ k, k < 5 ∧ J a (o + 5 * t + k) < 0) := by
  have key := lpc (fun f k (v : Nat) => m157_5 F f a (nI o) (nI t) (nI v) (nI k) (mkH (hs l s d tl) I J)) 5 (fun k v => (v = 1 ∧ ∃ j, j < k ∧ J a (o + 5 * t + j) < 0) ∨ (v = 0 ∧ ∀ j, j < k → ¬ J a (o + 5 * t + j) < 0)) (fun r => (r = some (nI 1, (mkH (hs l s d tl) I J)) ∧ ∃ k, k < 5 ∧ J a (o + 5 * t + k) < 0) ∨ (r = some (nI 0, (mkH (hs l s d tl) I J)) ∧ ¬ ∃ k, k < 5 ∧ J a (o + 5 * t + k) < 0)) ?_ ?_ F 0 0 (by omega) (by omega) (Or.inr ⟨rfl, fun j hj => by omega⟩)
  · have e : e157 F a (nI o) (nI t) (mkH (hs l s d tl) I J) = m157_5 F F a (nI o) (nI t) (nI 0) (nI 0) (mkH (hs l s d tl) I J) := rfl
    rw [e]
    exact key
  · intro f v hv
    show (m157_5 F (f + 1) _ _ _ _ _ _ = _ ∧ _) ∨ (m157_5 F (f + 1) _ _ _ _ _ _ = _ ∧ _)
    rw [m157_5]
    simp (disch := omega) only [n_0, n_1, n_2, n_3, n_4, n_5, n_6, n_8, n_9, n_10, n_12, n_20, n_25, n_27, n_30, n_31, n_32, n_40, n_48, n_57, n_59, n_63, n_96, n_97, n_120, n_122, n_255, n_256, n_300, n_301, n_512, n_1000, n_1001, n_1002, n_1003, n_1004, n_1005, n_2000, n_2304, n_4096, nI_add, pk_mul, n_m, c_ge, c_gt, c_lt, c_le, c_eq, c_ne, d_lt, d_ge, d_ne, d_eq, d_gt, d_le, m_ltk, m_gek, m_eq, m_ne]
    rw [if_pos (by omega)]
    rcases hv with ⟨rfl, h⟩ | ⟨rfl, h⟩
    · exact Or.inl ⟨rfl, h⟩
    · exact Or.inr ⟨rfl, fun ⟨k, hk, h2⟩ => h k hk h2⟩
  · intro f k v hk hv
    right
    show ∃ y, m157_5 F (f + 1) _ _ _ _ _ _ = _ ∧ _
    rw [m157_5]
    rcases hv with ⟨rfl, j, hj, h⟩ | ⟨rfl, h⟩
    · simp (disch := omega) only [n_0, n_1, n_2, n_3, n_4, n_5, n_6, n_8, n_9, n_10, n_12, n_20, n_25, n_27, n_30, n_31, n_32, n_40, n_48, n_57, n_59, n_63, n_96, n_97, n_120, n_122, n_255, n_256, n_300, n_301, n_512, n_1000, n_1001, n_1002, n_1003, n_1004, n_1005, n_2000, n_2304, n_4096, nI_add, pk_mul, n_m, c_ge, c_gt, c_lt, c_le, c_eq, c_ne, d_lt, d_ge, d_ne, d_eq, d_gt, d_le, m_ltk, m_gek, m_eq, m_ne]
      rw [if_neg (by omega), if_pos (by omega)]
      unfold m157_30 m157_35
      simp only [n_0, n_1, n_2, n_3, n_4, n_5, n_6, n_8, n_9, n_10, n_12, n_20, n_25, n_27, n_30, n_31, n_32, n_40, n_48, n_57, n_59, n_63, n_96, n_97, n_120, n_122, n_255, n_256, n_300, n_301, n_512, n_1000, n_1001, n_1002, n_1003, n_1004, n_1005, n_2000, n_2304, n_4096, nI_add, pk_mul, n_m, c_ge, c_gt, c_lt, c_le, c_eq, c_ne, d_lt, d_ge, d_ne, d_eq, d_gt, d_le, m_ltk, m_gek, m_eq, m_ne]
      exact ⟨1, rfl, Or.inl ⟨rfl, j, by omega, h⟩⟩
    · simp (disch := omega) only [n_0, n_1, n_2, n_3, n_4, n_5, n_6, n_8, n_9, n_10, n_12, n_20, n_25, n_27, n_30, n_31, n_32, n_40, n_48, n_57, n_59, n_63, n_96, n_97, n_120, n_122, n_255, n_256, n_300, n_301, n_512, n_1000, n_1001, n_1002, n_1003, n_1004, n_1005, n_2000, n_2304, n_4096, nI_add, pk_mul, n_m, c_ge, c_gt, c_lt, c_le, c_eq, c_ne, d_lt, d_ge, d_ne, d_eq, d_gt, d_le, m_ltk, m_gek, m_eq, m_ne, Option.bind_some, rdJ_H ha hN, k_ge]
      rw [if_neg (by omega), if_neg (by omega)]
      by_cases h2 : J a (o + 5 * t + k) < 0
      · rw [if_neg (fun h => h h2)]
        unfold m157_30 m157_35
        simp only [n_0, n_1, n_2, n_3, n_4, n_5, n_6, n_8, n_9, n_10, n_12, n_20, n_25, n_27, n_30, n_31, n_32, n_40, n_48, n_57, n_59, n_63, n_96, n_97, n_120, n_122, n_255, n_256, n_300, n_301, n_512, n_1000, n_1001, n_1002, n_1003, n_1004, n_1005, n_2000, n_2304, n_4096, nI_add, pk_mul, n_m, c_ge, c_gt, c_lt, c_le, c_eq, c_ne, d_lt, d_ge, d_ne, d_eq, d_gt, d_le, m_ltk, m_gek, m_eq, m_ne]
        exact ⟨1, rfl, Or.inl ⟨rfl, k, by omega, h2⟩⟩
      · rw [if_pos h2]
        unfold m157_35
        simp only [n_0, n_1, n_2, n_3, n_4, n_5, n_6, n_8, n_9, n_10, n_12, n_20, n_25, n_27, n_30, n_31, n_32, n_40, n_48, n_57, n_59, n_63, n_96, n_97, n_120, n_122, n_255, n_256, n_300, n_301, n_512, n_1000, n_1001, n_1002, n_1003, n_1004, n_1005, n_2000, n_2304, n_4096, nI_add, pk_mul, n_m, c_ge, c_gt, c_lt, c_le, c_eq, c_ne, d_lt, d_ge, d_ne, d_eq, d_gt, d_le, m_ltk, m_gek, m_eq, m_ne]
        refine ⟨0, rfl, Or.inr ⟨rfl, fun j hj => ?_⟩⟩
        by_cases hjk : j = k
        · subst hjk
          exact h2
        · exact h j (by omega)
/-- isDown of a square -/
theorem idq_e (hok : cx_ok n A) (hn5 : n ≤ 5) (hF : 30 ≤ F) (ha : (hs l s d tl)[a]? = some (.inl (1, N))) (hN : N < 2 ^ 31) {t : Nat} (ht : t < n) (h1 : o + 25 ≤ N) {x : List Nat} (hx : cx_L n x) (hl : cx_l n A x ≤ 31) (hq : sq n A x (J a) o) : (e157 F a (nI o) (nI t) (mkH (hs l s d tl) I J) = some (nI 1, (mkH (hs l s d tl) I J)) ∧ dn n A x t) ∨ (e157 F a (nI o) (nI t) (mkH (hs l s d tl) I J) = some (nI 0, (mkH (hs l s d tl) I J)) ∧ ¬ dn n A x t) := by
  rw [← sq_dn hok hx hl hn5 hq ht]
  exact id_e hF ha hN (by omega)
/-- leastDown -/
theorem ld_e (hM : mo_n n A I) (hF : 40 ≤ F) {x : List Nat} (hx : cx_L n x) (hl : cx_l n A x ≤ 31) (hq : sq n A x (J 32) 0) : ∃ v, e158 F 26 (mkH (hs l s d tl) I J) = some (v, (mkH (hs l s d tl) I J)) ∧ lst n (fun j => dn n A x j) v := by
  obtain ⟨hok, h1n, hn, hI0, hA⟩ := hM
  have key := lpc (fun f k (_ : Unit) => m158_2 F f 26 (nI k) (mkH (hs l s d tl) I J)) n (fun k _ => ∀ j, j < k → ¬ dn n A x j) (fun r => ∃ v, r = some (v, (mkH (hs l s d tl) I J)) ∧ lst n (fun j => dn n A x j) v) ?_ ?_ F 0 () (by omega) (by omega) (fun j hj => by omega)
  · exact key
  · intro f _ h
    show ∃ v, m158_2 F (f + 1) _ _ _ = _ ∧ _
    rw [m158_2]
    simp (disch := omega) only [rc26, gi26_0, pi26_0, gr26_1, gr26_2, gr26_3, gr26_4, gi26_5, pi26_5, gi26_6, pi26_6, gi26_7, pi26_7, gl26_8, pl26_8, gi26_9, pi26_9, gi26_10, pi26_10, gr26_11, gi26_12, pi26_12, gr26_13, gr26_14, gi26_15, pi26_15, gi26_16, pi26_16, gr26_17, gr26_18, gi26_19, pi26_19, gr26_20, gr26_21, gr26_22, gr26_23, gr26_24, gr26_25, gr26_26, gi26_27, pi26_27, gr26_28, gr26_29, gi26_30, pi26_30, gi26_31, pi26_31, gr26_32, gr26_33, gr26_34, gr26_35, gr26_36, gr26_37, gr26_38, gr26_39, gr26_40, Option.bind_some, n_0, n_1, n_2, n_3, n_4, n_5, n_6, n_8, n_9, n_10, n_12, n_20, n_25, n_27, n_30, n_31, n_32, n_40, n_48, n_57, n_59, n_63, n_96, n_97, n_120, n_122, n_255, n_256, n_300, n_301, n_512, n_1000, n_1001, n_1002, n_1003, n_1004, n_1005, n_2000, n_2304, n_4096, nI_add, pk_mul, n_m, c_ge, c_gt, c_lt, c_le, c_eq, c_ne, d_lt, d_ge, d_ne, d_eq, d_gt, d_le, m_ltk, m_gek, m_eq, m_ne, hI0]
    rw [if_pos (by omega)]
    exact ⟨gI 1, rfl, Or.inr ⟨rfl, h⟩⟩
  · intro f k _ hk h
    show (∃ v, m158_2 F (f + 1) _ _ _ = _ ∧ _) ∨ ∃ y : Unit, m158_2 F (f + 1) _ _ _ = _ ∧ _
    rw [m158_2]
    simp (disch := omega) only [rc26, gi26_0, pi26_0, gr26_1, gr26_2, gr26_3, gr26_4, gi26_5, pi26_5, gi26_6, pi26_6, gi26_7, pi26_7, gl26_8, pl26_8, gi26_9, pi26_9, gi26_10, pi26_10, gr26_11, gi26_12, pi26_12, gr26_13, gr26_14, gi26_15, pi26_15, gi26_16, pi26_16, gr26_17, gr26_18, gi26_19, pi26_19, gr26_20, gr26_21, gr26_22, gr26_23, gr26_24, gr26_25, gr26_26, gi26_27, pi26_27, gr26_28, gr26_29, gi26_30, pi26_30, gi26_31, pi26_31, gr26_32, gr26_33, gr26_34, gr26_35, gr26_36, gr26_37, gr26_38, gr26_39, gr26_40, Option.bind_some, n_0, n_1, n_2, n_3, n_4, n_5, n_6, n_8, n_9, n_10, n_12, n_20, n_25, n_27, n_30, n_31, n_32, n_40, n_48, n_57, n_59, n_63, n_96, n_97, n_120, n_122, n_255, n_256, n_300, n_301, n_512, n_1000, n_1001, n_1002, n_1003, n_1004, n_1005, n_2000, n_2304, n_4096, nI_add, pk_mul, n_m, c_ge, c_gt, c_lt, c_le, c_eq, c_ne, d_lt, d_ge, d_ne, d_eq, d_gt, d_le, m_ltk, m_gek, m_eq, m_ne, hI0]
    rw [if_neg (by omega)]
    rcases idq_e (l := l) (s := s) (d := d) (tl := tl) (F := F) (I := I) (J := J) hok hn (by omega) q32 (by decide) hk (by omega) hx hl hq with ⟨e, h2⟩ | ⟨e, h2⟩
    · rw [e]
      simp (disch := omega) only [Option.bind_some, d_eq]
      rw [if_neg (by omega)]
      exact Or.inl ⟨nI k, rfl, Or.inl ⟨k, hk, rfl, h2, h⟩⟩
    · rw [e]
      simp (disch := omega) only [Option.bind_some, d_eq, if_true]
      refine Or.inr ⟨(), by trivial, fun j hj => ?_⟩
      by_cases hjk : j = k
      · subst hjk
        exact h2
      · exact h j (by omega)
/-- isSame -/
theorem im_s (hF : 30 ≤ F) (ha : (hs l s d tl)[a]? = some (.inl (1, N))) (hb : (hs l s d tl)[b]? = some (.inl (1, M))) (hN : N < 2 ^ 31) (hM : M < 2 ^ 31) (h1 : o + 25 ≤ N) (h2 : p + 25 ≤ M) : (e176 F a (nI o) b (nI p) (mkH (hs l s d tl) I J) = some (nI 1, (mkH (hs l s d tl) I J)) ∧ ∀ q, q < 25 → J a (o + q) = J b (p + q)) ∨ (e176 F a (nI o) b (nI p) (mkH (hs l s d tl) I J) = some (nI 0, (mkH (hs l s d tl) I J)) ∧ ¬ ∀ q, q < 25 → J a (o + q) = J b (p + q)) := by
  have key := lpc (fun f k (v : Nat) => m176_6 F f a (nI o) b (nI p) (nI v) (nI k) (mkH (hs l s d tl) I J)) 25 (fun k v => (v = 1 ∧ ∀ j, j < k → J a (o + j) = J b (p + j)) ∨ (v = 0 ∧ ¬ ∀ q, q < 25 → J a (o + q) = J b (p + q))) (fun r => (r = some (nI 1, (mkH (hs l s d tl) I J)) ∧ ∀ q, q < 25 → J a (o + q) = J b (p + q)) ∨ (r = some (nI 0, (mkH (hs l s d tl) I J)) ∧ ¬ ∀ q, q < 25 → J a (o + q) = J b (p + q))) ?_ ?_ F 0 1 (by omega) (by omega) (Or.inl ⟨rfl, fun j hj => by omega⟩)
  · have e : e176 F a (nI o) b (nI p) (mkH (hs l s d tl) I J) = m176_6 F F a (nI o) b (nI p) (nI 1) (nI 0) (mkH (hs l s d tl) I J) := rfl
    rw [e]
    exact key
  · intro f v hv
    show (m176_6 F (f + 1) _ _ _ _ _ _ _ = _ ∧ _) ∨ (m176_6 F (f + 1) _ _ _ _ _ _ _ = _ ∧ _)
    rw [m176_6]
    simp (disch := omega) only [n_0, n_1, n_2, n_3, n_4, n_5, n_6, n_8, n_9, n_10, n_12, n_20, n_25, n_27, n_30, n_31, n_32, n_40, n_48, n_57, n_59, n_63, n_96, n_97, n_120, n_122, n_255, n_256, n_300, n_301, n_512, n_1000, n_1001, n_1002, n_1003, n_1004, n_1005, n_2000, n_2304, n_4096, nI_add, pk_mul, n_m, c_ge, c_gt, c_lt, c_le, c_eq, c_ne, d_lt, d_ge, d_ne, d_eq, d_gt, d_le, m_ltk, m_gek, m_eq, m_ne]
    rw [if_pos (by omega)]
    unfold m176_47
    rcases hv with ⟨rfl, h⟩ | ⟨rfl, h⟩
    · exact Or.inl ⟨rfl, h⟩
    · exact Or.inr ⟨rfl, h⟩
  · intro f k v hk hv
    show ((m176_6 F (f + 1) _ _ _ _ _ _ _ = _ ∧ _) ∨ (m176_6 F (f + 1) _ _ _ _ _ _ _ = _ ∧ _)) ∨ ∃ y, m176_6 F (f + 1) _ _ _ _ _ _ _ = _ ∧ _
    rw [m176_6]
    rcases hv with ⟨rfl, h⟩ | ⟨rfl, h⟩
    · right
      simp (disch := omega) only [n_0, n_1, n_2, n_3, n_4, n_5, n_6, n_8, n_9, n_10, n_12, n_20, n_25, n_27, n_30, n_31, n_32, n_40, n_48, n_57, n_59, n_63, n_96, n_97, n_120, n_122, n_255, n_256, n_300, n_301, n_512, n_1000, n_1001, n_1002, n_1003, n_1004, n_1005, n_2000, n_2304, n_4096, nI_add, pk_mul, n_m, c_ge, c_gt, c_lt, c_le, c_eq, c_ne, d_lt, d_ge, d_ne, d_eq, d_gt, d_le, m_ltk, m_gek, m_eq, m_ne, Option.bind_some, rdJ_H ha hN, rdJ_H hb hM, k_ne]
      rw [if_neg (by omega), if_neg (by omega)]
      by_cases h2 : J a (o + k) = J b (p + k)
      · rw [if_neg (fun h => h h2)]
        unfold m176_39
        simp only [n_0, n_1, n_2, n_3, n_4, n_5, n_6, n_8, n_9, n_10, n_12, n_20, n_25, n_27, n_30, n_31, n_32, n_40, n_48, n_57, n_59, n_63, n_96, n_97, n_120, n_122, n_255, n_256, n_300, n_301, n_512, n_1000, n_1001, n_1002, n_1003, n_1004, n_1005, n_2000, n_2304, n_4096, nI_add, pk_mul, n_m, c_ge, c_gt, c_lt, c_le, c_eq, c_ne, d_lt, d_ge, d_ne, d_eq, d_gt, d_le, m_ltk, m_gek, m_eq, m_ne]
        refine ⟨1, rfl, Or.inl ⟨rfl, fun j hj => ?_⟩⟩
        by_cases hjk : j = k
        · subst hjk
          exact h2
        · exact h j (by omega)
      · rw [if_pos h2]
        unfold m176_39
        simp only [n_0, n_1, n_2, n_3, n_4, n_5, n_6, n_8, n_9, n_10, n_12, n_20, n_25, n_27, n_30, n_31, n_32, n_40, n_48, n_57, n_59, n_63, n_96, n_97, n_120, n_122, n_255, n_256, n_300, n_301, n_512, n_1000, n_1001, n_1002, n_1003, n_1004, n_1005, n_2000, n_2304, n_4096, nI_add, pk_mul, n_m, c_ge, c_gt, c_lt, c_le, c_eq, c_ne, d_lt, d_ge, d_ne, d_eq, d_gt, d_le, m_ltk, m_gek, m_eq, m_ne]
        exact ⟨0, rfl, Or.inr ⟨rfl, fun h3 => h2 (h3 k hk)⟩⟩
    · left
      simp (disch := omega) only [n_0, n_1, n_2, n_3, n_4, n_5, n_6, n_8, n_9, n_10, n_12, n_20, n_25, n_27, n_30, n_31, n_32, n_40, n_48, n_57, n_59, n_63, n_96, n_97, n_120, n_122, n_255, n_256, n_300, n_301, n_512, n_1000, n_1001, n_1002, n_1003, n_1004, n_1005, n_2000, n_2304, n_4096, nI_add, pk_mul, n_m, c_ge, c_gt, c_lt, c_le, c_eq, c_ne, d_lt, d_ge, d_ne, d_eq, d_gt, d_le, m_ltk, m_gek, m_eq, m_ne]
      rw [if_neg (by omega), if_pos trivial]
      unfold m176_47
      exact Or.inr ⟨rfl, h⟩
/-- copy -/
theorem cp_e (hF : 30 ≤ F) (ha : (hs l s d tl)[a]? = some (.inl (1, N))) (hb : (hs l s d tl)[b]? = some (.inl (1, M))) (hN : N < 2 ^ 31) (hM : M < 2 ^ 31) (h1 : o + 25 ≤ N) (h2 : p + 25 ≤ M) (hab : a ≠ b) : e177 F a (nI o) b (nI p) (mkH (hs l s d tl) I J) = some ((), (mkH (hs l s d tl) I (rwJ J b p 25 (fun q => J a (o + q))))) := by
  refine lpc (fun f k K => m177_3 F f a (nI o) b (nI p) (nI k) (mkH (hs l s d tl) I K)) 25 (fun k K => K = rwJ J b p k (fun j => J a (o + j))) (fun r => r = some ((), (mkH (hs l s d tl) I (rwJ J b p 25 (fun j => J a (o + j)))))) ?_ ?_ F 0 J (by omega) (by omega) rwJ_0.symm
  · intro f K hK
    subst hK
    show m177_3 F (f + 1) _ _ _ _ _ _ = _
    rw [m177_3]
    simp (disch := omega) only [n_0, n_1, n_2, n_3, n_4, n_5, n_6, n_8, n_9, n_10, n_12, n_20, n_25, n_27, n_30, n_31, n_32, n_40, n_48, n_57, n_59, n_63, n_96, n_97, n_120, n_122, n_255, n_256, n_300, n_301, n_512, n_1000, n_1001, n_1002, n_1003, n_1004, n_1005, n_2000, n_2304, n_4096, nI_add, pk_mul, n_m, c_ge, c_gt, c_lt, c_le, c_eq, c_ne, d_lt, d_ge, d_ne, d_eq, d_gt, d_le, m_ltk, m_gek, m_eq, m_ne]
    rw [if_pos (by omega)]
  · intro f k K hk hK
    right
    refine ⟨_, ?_, rfl⟩
    show m177_3 F (f + 1) _ _ _ _ _ _ = _
    rw [m177_3]
    simp (disch := omega) only [Option.bind_some, n_0, n_1, n_2, n_3, n_4, n_5, n_6, n_8, n_9, n_10, n_12, n_20, n_25, n_27, n_30, n_31, n_32, n_40, n_48, n_57, n_59, n_63, n_96, n_97, n_120, n_122, n_255, n_256, n_300, n_301, n_512, n_1000, n_1001, n_1002, n_1003, n_1004, n_1005, n_2000, n_2304, n_4096, nI_add, pk_mul, n_m, c_ge, c_gt, c_lt, c_le, c_eq, c_ne, d_lt, d_ge, d_ne, d_eq, d_gt, d_le, m_ltk, m_gek, m_eq, m_ne, rdJ_H ha hN, wrJ_H hb hM]
    rw [if_neg (by omega)]
    have e : K a (o + k) = J a (o + k) := by
      subst hK
      rw [rwJ_ne hab]
    rw [e, hK]
    simp only [upJ_rw (f := fun j => J a (o + j))]
/-- putSquare: cur among m squares, or put behind them -/
theorem ps_e {m : Nat} (hF : 30 + m ≤ F) (hb : (hs l s d tl)[b]? = some (.inl (1, M))) (hM : M < 2 ^ 31) (h2 : 25 * m + 25 ≤ M) (hb32 : b ≠ 32) : (∃ k, k < m ∧ e178 F 26 b (nI m) (mkH (hs l s d tl) I J) = some (nI k, (mkH (hs l s d tl) I J)) ∧ (∀ q, q < 25 → J 32 (0 + q) = J b (25 * k + q))) ∨ (e178 F 26 b (nI m) (mkH (hs l s d tl) I J) = some (nI m, (mkH (hs l s d tl) I (rwJ J b (25 * m) 25 (fun q => J 32 (0 + q))))) ∧ ∀ k, k < m → ¬ ∀ q, q < 25 → J 32 (0 + q) = J b (25 * k + q)) := by
  have key := lpc (fun f k (_ : Unit) => m178_2 F f 26 b (nI m) (nI k) (mkH (hs l s d tl) I J)) m (fun k _ => ∀ j, j < k → ¬ ∀ q, q < 25 → J 32 (0 + q) = J b (25 * j + q)) (fun r => (∃ k, k < m ∧ r = some (nI k, (mkH (hs l s d tl) I J)) ∧ (∀ q, q < 25 → J 32 (0 + q) = J b (25 * k + q))) ∨ (r = some (nI m, (mkH (hs l s d tl) I (rwJ J b (25 * m) 25 (fun q => J 32 (0 + q))))) ∧ ∀ k, k < m → ¬ ∀ q, q < 25 → J 32 (0 + q) = J b (25 * k + q))) ?_ ?_ F 0 () (by omega) (by omega) (fun j hj => by omega)
  · exact key
  · intro f _ h
    show (∃ k, k < m ∧ m178_2 F (f + 1) _ _ _ _ _ = _ ∧ _) ∨ (m178_2 F (f + 1) _ _ _ _ _ = _ ∧ _)
    rw [m178_2]
    simp (disch := omega) only [rc26, gi26_0, pi26_0, gr26_1, gr26_2, gr26_3, gr26_4, gi26_5, pi26_5, gi26_6, pi26_6, gi26_7, pi26_7, gl26_8, pl26_8, gi26_9, pi26_9, gi26_10, pi26_10, gr26_11, gi26_12, pi26_12, gr26_13, gr26_14, gi26_15, pi26_15, gi26_16, pi26_16, gr26_17, gr26_18, gi26_19, pi26_19, gr26_20, gr26_21, gr26_22, gr26_23, gr26_24, gr26_25, gr26_26, gi26_27, pi26_27, gr26_28, gr26_29, gi26_30, pi26_30, gi26_31, pi26_31, gr26_32, gr26_33, gr26_34, gr26_35, gr26_36, gr26_37, gr26_38, gr26_39, gr26_40, Option.bind_some, n_0, n_1, n_2, n_3, n_4, n_5, n_6, n_8, n_9, n_10, n_12, n_20, n_25, n_27, n_30, n_31, n_32, n_40, n_48, n_57, n_59, n_63, n_96, n_97, n_120, n_122, n_255, n_256, n_300, n_301, n_512, n_1000, n_1001, n_1002, n_1003, n_1004, n_1005, n_2000, n_2304, n_4096, nI_add, pk_mul, n_m, c_ge, c_gt, c_lt, c_le, c_eq, c_ne, d_lt, d_ge, d_ne, d_eq, d_gt, d_le, m_ltk, m_gek, m_eq, m_ne, cp_e (by omega : 30 ≤ F) (q32 (l := l) (s := s) (d := d) (tl := tl)) hb (by decide) hM (by omega : 0 + 25 ≤ 25) h2 (Ne.symm hb32)]
    rw [if_pos (by omega)]
    exact Or.inr ⟨rfl, h⟩
  · intro f k _ hk h
    show ((∃ k, k < m ∧ m178_2 F (f + 1) _ _ _ _ _ = _ ∧ _) ∨ (m178_2 F (f + 1) _ _ _ _ _ = _ ∧ _)) ∨ ∃ y : Unit, m178_2 F (f + 1) _ _ _ _ _ = _ ∧ _
    rw [m178_2]
    simp (disch := omega) only [rc26, gi26_0, pi26_0, gr26_1, gr26_2, gr26_3, gr26_4, gi26_5, pi26_5, gi26_6, pi26_6, gi26_7, pi26_7, gl26_8, pl26_8, gi26_9, pi26_9, gi26_10, pi26_10, gr26_11, gi26_12, pi26_12, gr26_13, gr26_14, gi26_15, pi26_15, gi26_16, pi26_16, gr26_17, gr26_18, gi26_19, pi26_19, gr26_20, gr26_21, gr26_22, gr26_23, gr26_24, gr26_25, gr26_26, gi26_27, pi26_27, gr26_28, gr26_29, gi26_30, pi26_30, gi26_31, pi26_31, gr26_32, gr26_33, gr26_34, gr26_35, gr26_36, gr26_37, gr26_38, gr26_39, gr26_40, Option.bind_some, n_0, n_1, n_2, n_3, n_4, n_5, n_6, n_8, n_9, n_10, n_12, n_20, n_25, n_27, n_30, n_31, n_32, n_40, n_48, n_57, n_59, n_63, n_96, n_97, n_120, n_122, n_255, n_256, n_300, n_301, n_512, n_1000, n_1001, n_1002, n_1003, n_1004, n_1005, n_2000, n_2304, n_4096, nI_add, pk_mul, n_m, c_ge, c_gt, c_lt, c_le, c_eq, c_ne, d_lt, d_ge, d_ne, d_eq, d_gt, d_le, m_ltk, m_gek, m_eq, m_ne]
    rw [if_neg (by omega)]
    rcases im_s (I := I) (J := J) (o := 0) (p := 25 * k) (by omega : 30 ≤ F) (q32 (l := l) (s := s) (d := d) (tl := tl)) hb (by decide) hM (by omega) (by omega) with ⟨e, h3⟩ | ⟨e, h3⟩
    · rw [e]
      simp (disch := omega) only [Option.bind_some, d_eq]
      rw [if_neg (by omega)]
      exact Or.inl (Or.inl ⟨k, hk, rfl, h3⟩)
    · rw [e]
      simp (disch := omega) only [Option.bind_some, d_eq, if_true]
      refine Or.inr ⟨(), by trivial, fun j hj => ?_⟩
      by_cases hjk : j = k
      · subst hjk
        exact h3
      · exact h j (by omega)
end S
