/-! The class: orders. -/
def far (x : Int64) : Prop := 1000000000000 < x ∨ x < -1000000000000
def ostart (n : Nat) (A : Nat → Nat → Int) (y : List Nat) (t : Nat) : Prop := ∀ i k, i < n → k < n → zJ (cx_x n A (pwr y t) (cx_e i) k) = zJ (cx_e i k)
def ofar (n : Nat) (A : Nat → Nat → Int) (y : List Nat) (t : Nat) : Prop := ∃ i k, i < n ∧ k < n ∧ far (zJ (cx_x n A (pwr y t) (cx_e i) k))
def ordr (n : Nat) (A : Nat → Nat → Int) (y : List Nat) (v : Int32) : Prop := (∃ t, 1 ≤ t ∧ t ≤ 30 ∧ (∀ t', 1 ≤ t' → t' < t → ¬ ostart n A y t' ∧ ¬ ofar n A y t') ∧ ((ostart n A y t ∧ v = nI t) ∨ (¬ ostart n A y t ∧ ofar n A y t ∧ v = gI 1))) ∨ ((∀ t, 1 ≤ t → t ≤ 30 → ¬ ostart n A y t ∧ ¬ ofar n A y t) ∧ v = gI 1)
theorem ordr_un {n : Nat} {A : Nat → Nat → Int} {y : List Nat} {v v' : Int32} (h : ordr n A y v) (h' : ordr n A y v') : v = v' := by
  rcases h with ⟨t, h1, h2, h3, h4⟩ | ⟨h1, h2⟩
  · have hno : ¬ (¬ ostart n A y t ∧ ¬ ofar n A y t) := by
      rcases h4 with h4 | h4
      · exact fun h => h.1 h4.1
      · exact fun h => h.2 h4.2.1
    rcases h' with ⟨t', k1, k2, k3, k4⟩ | ⟨k1, k2⟩
    · have hno' : ¬ (¬ ostart n A y t' ∧ ¬ ofar n A y t') := by
        rcases k4 with h4 | h4
        · exact fun h => h.1 h4.1
        · exact fun h => h.2 h4.2.1
      have e : t = t' := by
        apply Nat.le_antisymm
        · exact Nat.le_of_not_lt (fun hlt => hno' (h3 t' k1 hlt))
        · exact Nat.le_of_not_lt (fun hlt => hno (k3 t h1 hlt))
      subst e
      rcases h4 with ⟨a1, a2⟩ | ⟨a1, a2, a3⟩
      · rcases k4 with ⟨b1, b2⟩ | ⟨b1, b2, b3⟩
        · rw [a2, b2]
        · exact absurd a1 b1
      · rcases k4 with ⟨b1, b2⟩ | ⟨b1, b2, b3⟩
        · exact absurd b1 a1
        · rw [a3, b3]
    · exact absurd (k1 t h1 h2) hno
  · rcases h' with ⟨t', k1, k2, k3, k4⟩ | ⟨k1, k2⟩
    · have hno' : ¬ (¬ ostart n A y t' ∧ ¬ ofar n A y t') := by
        rcases k4 with h4 | h4
        · exact fun h => h.1 h4.1
        · exact fun h => h.2 h4.2.1
      exact absurd (h1 t' k1 k2) hno'
    · rw [h2, k2]
section S
variable {l s d : Value} {tl : List hQ} {F : Nat} {I : hI} {J : hJ} {n a b o p N M : Nat} {A : Nat → Nat → Int} {els : List (List Nat)}
theorem is_e (hn : I 1 0 = nI n) (hn5 : n ≤ 5) (hF : 100 ≤ F) : Tr (hs l s d tl) (e57 F 19 (mkH (hs l s d tl) I J)) (fun v I' J' => ((v = nI 1 ∧ ∀ i k, i < n → k < n → J 21 (i * 5 + k) = zJ (cx_e i k)) ∨ (v = nI 0 ∧ ¬ ∀ i k, i < n → k < n → J 21 (i * 5 + k) = zJ (cx_e i k))) ∧ I' = I ∧ ∀ c, c ≠ 20 → J' c = J c) := by
  refine lpc (fun f i (K : hJ) => m57_2 F f 19 (nI i) (mkH (hs l s d tl) I K)) n (fun i K => (∀ c, c ≠ 20 → K c = J c) ∧ ∀ j k, j < i → k < n → J 21 (j * 5 + k) = zJ (cx_e j k)) (fun r => Tr (hs l s d tl) r _) ?_ ?_ F 0 J (by omega) (by omega) ⟨fun _ _ => rfl, fun j k hj => by omega⟩
  · rintro f K ⟨k1, k2⟩
    show Tr _ (m57_2 F (f + 1) _ _ _) _
    rw [m57_2]
    simp (disch := omega) only [rc0, gr0_0, gr0_1, gr0_2, gr0_3, gr0_4, gr0_5, gr0_6, gi0_7, pi0_7, rc1, gi1_0, pi1_0, gr1_1, gr1_2, rc4, gr4_0, gi4_1, pi4_1, gi4_2, pi4_2, gi4_3, pi4_3, gi4_4, pi4_4, gi4_5, pi4_5, gr4_6, gr4_7, rc8, gr8_0, gi8_1, pi8_1, gr8_2, gr8_3, gr8_4, gr8_5, gr8_6, rc14, gr14_0, gr14_1, gr14_2, gr14_3, gr14_4, gr14_5, rc19, gr19_0, gr19_1, gr19_2, gr19_3, rc22, gr22_0, gr22_1, gr22_2, gr22_3, Option.bind_some, n_0, n_1, n_2, n_3, n_4, n_5, n_6, n_8, n_9, n_10, n_12, n_20, n_25, n_27, n_30, n_31, n_32, n_40, n_48, n_57, n_59, n_63, n_96, n_97, n_120, n_122, n_255, n_256, n_300, n_301, n_512, n_1000, n_1001, n_1002, n_1003, n_1004, n_1005, n_2000, n_2304, n_4096, nI_add, pk_mul, n_m, c_ge, c_gt, c_lt, c_le, c_eq, c_ne, d_lt, d_ge, d_ne, d_eq, d_gt, d_le, m_ltk, m_gek, m_eq, m_ne, hn]
    rw [if_pos (by omega)]
    exact Tr_ret ⟨Or.inl ⟨rfl, k2⟩, rfl, k1⟩
  · rintro f i K hi ⟨k1, k2⟩
    show Tr _ (m57_2 F (f + 1) _ _ _) _ ∨ ∃ y, m57_2 F (f + 1) _ _ _ = _ ∧ _
    rw [m57_2]
    simp (disch := omega) only [rc0, gr0_0, gr0_1, gr0_2, gr0_3, gr0_4, gr0_5, gr0_6, gi0_7, pi0_7, rc1, gi1_0, pi1_0, gr1_1, gr1_2, rc4, gr4_0, gi4_1, pi4_1, gi4_2, pi4_2, gi4_3, pi4_3, gi4_4, pi4_4, gi4_5, pi4_5, gr4_6, gr4_7, rc8, gr8_0, gi8_1, pi8_1, gr8_2, gr8_3, gr8_4, gr8_5, gr8_6, rc14, gr14_0, gr14_1, gr14_2, gr14_3, gr14_4, gr14_5, rc19, gr19_0, gr19_1, gr19_2, gr19_3, rc22, gr22_0, gr22_1, gr22_2, gr22_3, Option.bind_some, n_0, n_1, n_2, n_3, n_4, n_5, n_6, n_8, n_9, n_10, n_12, n_20, n_25, n_27, n_30, n_31, n_32, n_40, n_48, n_57, n_59, n_63, n_96, n_97, n_120, n_122, n_255, n_256, n_300, n_301, n_512, n_1000, n_1001, n_1002, n_1003, n_1004, n_1005, n_2000, n_2304, n_4096, nI_add, pk_mul, n_m, c_ge, c_gt, c_lt, c_le, c_eq, c_ne, d_lt, d_ge, d_ne, d_eq, d_gt, d_le, m_ltk, m_gek, m_eq, m_ne, hn, sr_e hn hn5 (by omega : 6 ≤ F) (q20 (l := l) (s := s) (d := d) (tl := tl)) (by decide) (by omega : 0 + n ≤ 5) hi]
    rw [if_neg (by omega)]
    have h21 : ∀ j, rwJ K 20 0 n (fun j => zJ (cx_e i j)) 21 j = J 21 j := fun j => by rw [rwJ_ne (by decide), k1 21 (by decide)]
    have h20 : ∀ j, j < n → rwJ K 20 0 n (fun j => zJ (cx_e i j)) 20 (0 + j) = zJ (cx_e i j) := fun j hj => rwJ_in hj
    have hfr : ∀ c, c ≠ 20 → rwJ K 20 0 n (fun j => zJ (cx_e i j)) c = J c := fun c hc => (rwJ_ne hc).trans (k1 c hc)
    rcases sm_e (I := I) (J := rwJ K 20 0 n (fun j => zJ (cx_e i j))) (o := 0) (p := i * 5) hn hn5 (by omega : 6 ≤ F) (q20 (l := l) (s := s) (d := d) (tl := tl)) q21 (by decide) (by decide) (by omega) (by omega) with ⟨e1, e2⟩ | ⟨e1, j, hj, e2⟩
    · right
      rw [e1]
      simp (disch := omega) only [Option.bind_some, d_ne]
      rw [if_pos (by omega)]
      refine ⟨_, rfl, hfr, fun j k hj hk => ?_⟩
      by_cases hji : j = i
      · subst hji
        have := e2 k hk
        rw [h20 k hk, h21] at this
        exact this.symm
      · exact k2 j k (by omega) hk
    · left
      rw [e1]
      simp (disch := omega) only [Option.bind_some, d_ne]
      rw [if_neg (by omega)]
      refine Tr_ret ⟨Or.inr ⟨rfl, fun h => ?_⟩, rfl, hfr⟩
      rw [h20 j hj, h21] at e2
      exact e2 (h i j hi hj).symm
theorem if_e (hn : I 1 0 = nI n) (hn5 : n ≤ 5) (hF : 100 ≤ F) : (e58 F 19 (mkH (hs l s d tl) I J) = some (nI 1, (mkH (hs l s d tl) I J)) ∧ ∃ i k, i < n ∧ k < n ∧ far (J 21 (i * 5 + k))) ∨ (e58 F 19 (mkH (hs l s d tl) I J) = some (nI 0, (mkH (hs l s d tl) I J)) ∧ ¬ ∃ i k, i < n ∧ k < n ∧ far (J 21 (i * 5 + k))) := by
  refine lpc (fun f i (_ : Unit) => m58_2 F f 19 (nI i) (mkH (hs l s d tl) I J)) n (fun i _ => ∀ j k, j < i → k < n → ¬ far (J 21 (j * 5 + k))) (fun r => (r = some (nI 1, (mkH (hs l s d tl) I J)) ∧ ∃ i k, i < n ∧ k < n ∧ far (J 21 (i * 5 + k))) ∨ (r = some (nI 0, (mkH (hs l s d tl) I J)) ∧ ¬ ∃ i k, i < n ∧ k < n ∧ far (J 21 (i * 5 + k)))) ?_ ?_ F 0 () (by omega) (by omega) (fun j k hj => by omega)
  · rintro f _ k1
    right
    show m58_2 F (f + 1) _ _ _ = _ ∧ _
    rw [m58_2]
    simp (disch := omega) only [rc0, gr0_0, gr0_1, gr0_2, gr0_3, gr0_4, gr0_5, gr0_6, gi0_7, pi0_7, rc1, gi1_0, pi1_0, gr1_1, gr1_2, rc4, gr4_0, gi4_1, pi4_1, gi4_2, pi4_2, gi4_3, pi4_3, gi4_4, pi4_4, gi4_5, pi4_5, gr4_6, gr4_7, rc8, gr8_0, gi8_1, pi8_1, gr8_2, gr8_3, gr8_4, gr8_5, gr8_6, rc14, gr14_0, gr14_1, gr14_2, gr14_3, gr14_4, gr14_5, rc19, gr19_0, gr19_1, gr19_2, gr19_3, rc22, gr22_0, gr22_1, gr22_2, gr22_3, Option.bind_some, n_0, n_1, n_2, n_3, n_4, n_5, n_6, n_8, n_9, n_10, n_12, n_20, n_25, n_27, n_30, n_31, n_32, n_40, n_48, n_57, n_59, n_63, n_96, n_97, n_120, n_122, n_255, n_256, n_300, n_301, n_512, n_1000, n_1001, n_1002, n_1003, n_1004, n_1005, n_2000, n_2304, n_4096, nI_add, pk_mul, n_m, c_ge, c_gt, c_lt, c_le, c_eq, c_ne, d_lt, d_ge, d_ne, d_eq, d_gt, d_le, m_ltk, m_gek, m_eq, m_ne, hn]
    rw [if_pos (by omega)]
    exact ⟨rfl, fun ⟨i, k, hi, hk, hf⟩ => k1 i k hi hk hf⟩
  · rintro f i _ hi k1
    show ((m58_2 F (f + 1) _ _ _ = _ ∧ _) ∨ (m58_2 F (f + 1) _ _ _ = _ ∧ _)) ∨ ∃ y, m58_2 F (f + 1) _ _ _ = _ ∧ _
    rw [m58_2]
    simp (disch := omega) only [rc0, gr0_0, gr0_1, gr0_2, gr0_3, gr0_4, gr0_5, gr0_6, gi0_7, pi0_7, rc1, gi1_0, pi1_0, gr1_1, gr1_2, rc4, gr4_0, gi4_1, pi4_1, gi4_2, pi4_2, gi4_3, pi4_3, gi4_4, pi4_4, gi4_5, pi4_5, gr4_6, gr4_7, rc8, gr8_0, gi8_1, pi8_1, gr8_2, gr8_3, gr8_4, gr8_5, gr8_6, rc14, gr14_0, gr14_1, gr14_2, gr14_3, gr14_4, gr14_5, rc19, gr19_0, gr19_1, gr19_2, gr19_3, rc22, gr22_0, gr22_1, gr22_2, gr22_3, Option.bind_some, n_0, n_1, n_2, n_3, n_4, n_5, n_6, n_8, n_9, n_10, n_12, n_20, n_25, n_27, n_30, n_31, n_32, n_40, n_48, n_57, n_59, n_63, n_96, n_97, n_120, n_122, n_255, n_256, n_300, n_301, n_512, n_1000, n_1001, n_1002, n_1003, n_1004, n_1005, n_2000, n_2304, n_4096, nI_add, pk_mul, n_m, c_ge, c_gt, c_lt, c_le, c_eq, c_ne, d_lt, d_ge, d_ne, d_eq, d_gt, d_le, m_ltk, m_gek, m_eq, m_ne, hn]
    rw [if_neg (by omega)]
    refine lpc (fun g k (_ : Unit) => m58_15 F (m58_2 F f) g 19 (nI i) (nI k) (mkH (hs l s d tl) I J)) n (fun k _ => ∀ j, j < k → ¬ far (J 21 (i * 5 + j))) (fun r => ((r = some (nI 1, (mkH (hs l s d tl) I J)) ∧ ∃ i k, i < n ∧ k < n ∧ far (J 21 (i * 5 + k))) ∨ (r = some (nI 0, (mkH (hs l s d tl) I J)) ∧ ¬ ∃ i k, i < n ∧ k < n ∧ far (J 21 (i * 5 + k)))) ∨ ∃ y : Unit, r = m58_2 F f 19 (nI (i + 1)) (mkH (hs l s d tl) I J) ∧ ∀ j k, j < i + 1 → k < n → ¬ far (J 21 (j * 5 + k))) ?_ ?_ F 0 () (by omega) (by omega) (fun j hj => by omega)
    · rintro g _ k2
      right
      refine ⟨(), ?_, fun j k hj hk => ?_⟩
      · show m58_15 F _ (g + 1) _ _ _ _ = _
        rw [m58_15]
        simp (disch := omega) only [rc0, gr0_0, gr0_1, gr0_2, gr0_3, gr0_4, gr0_5, gr0_6, gi0_7, pi0_7, rc1, gi1_0, pi1_0, gr1_1, gr1_2, rc4, gr4_0, gi4_1, pi4_1, gi4_2, pi4_2, gi4_3, pi4_3, gi4_4, pi4_4, gi4_5, pi4_5, gr4_6, gr4_7, rc8, gr8_0, gi8_1, pi8_1, gr8_2, gr8_3, gr8_4, gr8_5, gr8_6, rc14, gr14_0, gr14_1, gr14_2, gr14_3, gr14_4, gr14_5, rc19, gr19_0, gr19_1, gr19_2, gr19_3, rc22, gr22_0, gr22_1, gr22_2, gr22_3, Option.bind_some, n_0, n_1, n_2, n_3, n_4, n_5, n_6, n_8, n_9, n_10, n_12, n_20, n_25, n_27, n_30, n_31, n_32, n_40, n_48, n_57, n_59, n_63, n_96, n_97, n_120, n_122, n_255, n_256, n_300, n_301, n_512, n_1000, n_1001, n_1002, n_1003, n_1004, n_1005, n_2000, n_2304, n_4096, nI_add, pk_mul, n_m, c_ge, c_gt, c_lt, c_le, c_eq, c_ne, d_lt, d_ge, d_ne, d_eq, d_gt, d_le, m_ltk, m_gek, m_eq, m_ne, hn]
        rw [if_pos (by omega)]
      · by_cases hji : j = i
        · subst hji
          exact k2 k hk
        · exact k1 j k (by omega) hk
    · rintro g k _ hk k2
      show (((m58_15 F _ (g + 1) _ _ _ _ = _ ∧ _) ∨ (m58_15 F _ (g + 1) _ _ _ _ = _ ∧ _)) ∨ ∃ y : Unit, m58_15 F _ (g + 1) _ _ _ _ = _ ∧ _) ∨ ∃ y : Unit, m58_15 F _ (g + 1) _ _ _ _ = _ ∧ _
      rw [m58_15]
      simp (disch := omega) only [rc0, gr0_0, gr0_1, gr0_2, gr0_3, gr0_4, gr0_5, gr0_6, gi0_7, pi0_7, rc1, gi1_0, pi1_0, gr1_1, gr1_2, rc4, gr4_0, gi4_1, pi4_1, gi4_2, pi4_2, gi4_3, pi4_3, gi4_4, pi4_4, gi4_5, pi4_5, gr4_6, gr4_7, rc8, gr8_0, gi8_1, pi8_1, gr8_2, gr8_3, gr8_4, gr8_5, gr8_6, rc14, gr14_0, gr14_1, gr14_2, gr14_3, gr14_4, gr14_5, rc19, gr19_0, gr19_1, gr19_2, gr19_3, rc22, gr22_0, gr22_1, gr22_2, gr22_3, Option.bind_some, n_0, n_1, n_2, n_3, n_4, n_5, n_6, n_8, n_9, n_10, n_12, n_20, n_25, n_27, n_30, n_31, n_32, n_40, n_48, n_57, n_59, n_63, n_96, n_97, n_120, n_122, n_255, n_256, n_300, n_301, n_512, n_1000, n_1001, n_1002, n_1003, n_1004, n_1005, n_2000, n_2304, n_4096, nI_add, pk_mul, n_m, c_ge, c_gt, c_lt, c_le, c_eq, c_ne, d_lt, d_ge, d_ne, d_eq, d_gt, d_le, m_ltk, m_gek, m_eq, m_ne, rJ21, wJ21, hn, k_gt, k_geg]
      rw [if_neg (by omega)]
      unfold m58_53
      by_cases h1 : 1000000000000 < J 21 (i * 5 + k)
      · rw [if_pos h1]
        left
        left
        left
        exact ⟨rfl, i, k, hi, hk, Or.inl h1⟩
      · rw [if_neg h1]
        by_cases h2 : J 21 (i * 5 + k) < -1000000000000
        · rw [if_neg (fun h => h h2)]
          left
          left
          left
          exact ⟨rfl, i, k, hi, hk, Or.inr h2⟩
        · rw [if_pos h2]
          right
          refine ⟨(), rfl, fun j hj => ?_⟩
          by_cases hjk : j = k
          · subst hjk
            exact fun h => h.elim h1 h2
          · exact k2 j (by omega)
/-- orderOf -/
theorem or_o (hc : cl_n n A I) (hk : kp n A els I J) (hF : 200 ≤ F) {y : List Nat} (hb : els[b]? = some y) :
    Tr (hs l s d tl) (e56 F 19 (nI b) (mkH (hs l s d tl) I J)) (fun v I' J' => ordr n A y v ∧ I' = I ∧ ∀ c, c ≠ 20 → c ≠ 21 → J' c = J c) := by
  have hn := hc.2.2.2.1
  have hn5 := hc.2.2.1
  obtain ⟨yc, yL, yl, y20, b40, yb⟩ := kp_c hk hb
  refine lpc (fun f k (K : hJ) => m56_2 F f 19 (nI b) (nI k) (mkH (hs l s d tl) I K)) n (fun k K => (∀ i, i < k → rt n A [] i (K 21) (i * 5)) ∧ ∀ c, c ≠ 20 → c ≠ 21 → K c = J c) (fun r => Tr (hs l s d tl) r _) ?_ ?_ F 0 J (by omega) (by omega) ⟨fun i hi => by omega, fun _ _ _ => rfl⟩
  · rintro f K ⟨k1, k2⟩
    show Tr _ (m56_2 F (f + 1) _ _ _ _) _
    rw [m56_2]
    simp (disch := omega) only [rc0, gr0_0, gr0_1, gr0_2, gr0_3, gr0_4, gr0_5, gr0_6, gi0_7, pi0_7, rc1, gi1_0, pi1_0, gr1_1, gr1_2, rc4, gr4_0, gi4_1, pi4_1, gi4_2, pi4_2, gi4_3, pi4_3, gi4_4, pi4_4, gi4_5, pi4_5, gr4_6, gr4_7, rc8, gr8_0, gi8_1, pi8_1, gr8_2, gr8_3, gr8_4, gr8_5, gr8_6, rc14, gr14_0, gr14_1, gr14_2, gr14_3, gr14_4, gr14_5, rc19, gr19_0, gr19_1, gr19_2, gr19_3, rc22, gr22_0, gr22_1, gr22_2, gr22_3, Option.bind_some, n_0, n_1, n_2, n_3, n_4, n_5, n_6, n_8, n_9, n_10, n_12, n_20, n_25, n_27, n_30, n_31, n_32, n_40, n_48, n_57, n_59, n_63, n_96, n_97, n_120, n_122, n_255, n_256, n_300, n_301, n_512, n_1000, n_1001, n_1002, n_1003, n_1004, n_1005, n_2000, n_2304, n_4096, nI_add, pk_mul, n_m, c_ge, c_gt, c_lt, c_le, c_eq, c_ne, d_lt, d_ge, d_ne, d_eq, d_gt, d_le, m_ltk, m_gek, m_eq, m_ne, hn]
    rw [if_pos (by omega)]
    refine lpc (fun f t (K : hJ) => m56_36 F f 19 (nI b) (nI t) (mkH (hs l s d tl) I K)) 31 (fun t K => 1 ≤ t ∧ (∀ i, i < n → rt n A (pwr y (t - 1)) i (K 21) (i * 5)) ∧ (∀ c, c ≠ 20 → c ≠ 21 → K c = J c) ∧ ∀ t', 1 ≤ t' → t' < t → ¬ ostart n A y t' ∧ ¬ ofar n A y t') (fun r => Tr (hs l s d tl) r _) ?_ ?_ F 1 K (by omega) (by omega) ⟨by omega, k1, k2, fun t' h1 h2 => by omega⟩
    · rintro f K ⟨j0, j1, j2, j3⟩
      show Tr _ (m56_36 F (f + 1) _ _ _ _) _
      rw [m56_36]
      simp (disch := omega) only [n_0, n_1, n_2, n_3, n_4, n_5, n_6, n_8, n_9, n_10, n_12, n_20, n_25, n_27, n_30, n_31, n_32, n_40, n_48, n_57, n_59, n_63, n_96, n_97, n_120, n_122, n_255, n_256, n_300, n_301, n_512, n_1000, n_1001, n_1002, n_1003, n_1004, n_1005, n_2000, n_2304, n_4096, nI_add, pk_mul, n_m, c_ge, c_gt, c_lt, c_le, c_eq, c_ne, d_lt, d_ge, d_ne, d_eq, d_gt, d_le, m_ltk, m_gek, m_eq, m_ne]
      rw [if_pos (by omega)]
      exact Tr_ret ⟨Or.inr ⟨fun t h1 h2 => j3 t h1 (by omega), rfl⟩, rfl, j2⟩
    · rintro f t K ht ⟨j0, j1, j2, j3⟩
      show Tr _ (m56_36 F (f + 1) _ _ _ _) _ ∨ ∃ y, m56_36 F (f + 1) _ _ _ _ = _ ∧ _
      rw [m56_36]
      simp (disch := omega) only [n_0, n_1, n_2, n_3, n_4, n_5, n_6, n_8, n_9, n_10, n_12, n_20, n_25, n_27, n_30, n_31, n_32, n_40, n_48, n_57, n_59, n_63, n_96, n_97, n_120, n_122, n_255, n_256, n_300, n_301, n_512, n_1000, n_1001, n_1002, n_1003, n_1004, n_1005, n_2000, n_2304, n_4096, nI_add, pk_mul, n_m, c_ge, c_gt, c_lt, c_le, c_eq, c_ne, d_lt, d_ge, d_ne, d_eq, d_gt, d_le, m_ltk, m_gek, m_eq, m_ne]
      rw [if_neg (by omega)]
      obtain ⟨t, rfl⟩ : ∃ r, t = r + 1 := ⟨t - 1, by omega⟩
      rw [Nat.add_sub_cancel] at j1
      refine lpc (fun g i (K : hJ) => m56_44 F (m56_36 F f) g 19 (nI b) (nI (t + 1)) (nI i) (mkH (hs l s d tl) I K)) n (fun i K => (∀ j, j < n → (j < i → rt n A (pwr y (t + 1)) j (K 21) (j * 5)) ∧ (i ≤ j → rt n A (pwr y t) j (K 21) (j * 5))) ∧ ∀ c, c ≠ 20 → c ≠ 21 → K c = J c) (fun r => Tr (hs l s d tl) r (fun v I' J' => ordr n A y v ∧ I' = I ∧ ∀ c, c ≠ 20 → c ≠ 21 → J' c = J c) ∨ ∃ K : hJ, r = m56_36 F f 19 (nI b) (nI (t + 1 + 1)) (mkH (hs l s d tl) I K) ∧ 1 ≤ t + 1 + 1 ∧ (∀ i, i < n → rt n A (pwr y (t + 1 + 1 - 1)) i (K 21) (i * 5)) ∧ (∀ c, c ≠ 20 → c ≠ 21 → K c = J c) ∧ ∀ t', 1 ≤ t' → t' < t + 1 + 1 → ¬ ostart n A y t' ∧ ¬ ofar n A y t') ?_ ?_ F 0 K (by omega) (by omega) ⟨fun j hj => ⟨fun h => by omega, fun _ => j1 j hj⟩, j2⟩
      · rintro g K ⟨i1, i2⟩
        have i1' : ∀ j, j < n → rt n A (pwr y (t + 1)) j (K 21) (j * 5) := fun j hj => (i1 j hj).1 hj
        have hst : (∀ i k, i < n → k < n → K 21 (i * 5 + k) = zJ (cx_e i k)) ↔ ostart n A y (t + 1) := by
          constructor
          · intro h i k hi hk
            rw [← i1' i hi k hk]
            exact h i k hi hk
          · intro h i k hi hk
            rw [i1' i hi k hk]
            exact h i k hi hk
        show Tr _ (m56_44 F _ (g + 1) _ _ _ _ _) _ ∨ ∃ y, m56_44 F _ (g + 1) _ _ _ _ _ = _ ∧ _
        rw [m56_44]
        simp (disch := omega) only [rc0, gr0_0, gr0_1, gr0_2, gr0_3, gr0_4, gr0_5, gr0_6, gi0_7, pi0_7, rc1, gi1_0, pi1_0, gr1_1, gr1_2, rc4, gr4_0, gi4_1, pi4_1, gi4_2, pi4_2, gi4_3, pi4_3, gi4_4, pi4_4, gi4_5, pi4_5, gr4_6, gr4_7, rc8, gr8_0, gi8_1, pi8_1, gr8_2, gr8_3, gr8_4, gr8_5, gr8_6, rc14, gr14_0, gr14_1, gr14_2, gr14_3, gr14_4, gr14_5, rc19, gr19_0, gr19_1, gr19_2, gr19_3, rc22, gr22_0, gr22_1, gr22_2, gr22_3, Option.bind_some, n_0, n_1, n_2, n_3, n_4, n_5, n_6, n_8, n_9, n_10, n_12, n_20, n_25, n_27, n_30, n_31, n_32, n_40, n_48, n_57, n_59, n_63, n_96, n_97, n_120, n_122, n_255, n_256, n_300, n_301, n_512, n_1000, n_1001, n_1002, n_1003, n_1004, n_1005, n_2000, n_2304, n_4096, nI_add, pk_mul, n_m, c_ge, c_gt, c_lt, c_le, c_eq, c_ne, d_lt, d_ge, d_ne, d_eq, d_gt, d_le, m_ltk, m_gek, m_eq, m_ne, hn]
        rw [if_pos (by omega)]
        obtain ⟨v, I1, K1, e1, h1, h2, h3⟩ := is_e (l := l) (s := s) (d := d) (tl := tl) (F := F) (J := K) hn hn5 (by omega)
        subst h2
        have hfr : ∀ c, c ≠ 20 → c ≠ 21 → K1 c = J c := fun c c1 c2 => (h3 c c1).trans (i2 c c1 c2)
        have hfa : (∃ i k, i < n ∧ k < n ∧ far (K1 21 (i * 5 + k))) ↔ ofar n A y (t + 1) := by
          constructor
          · rintro ⟨i, k, hi, hk, h⟩
            rw [h3 21 (by decide), i1' i hi k hk] at h
            exact ⟨i, k, hi, hk, h⟩
          · rintro ⟨i, k, hi, hk, h⟩
            refine ⟨i, k, hi, hk, ?_⟩
            rw [h3 21 (by decide), i1' i hi k hk]
            exact h
        rw [e1]
        rcases h1 with ⟨v1, v2⟩ | ⟨v1, v2⟩
        · left
          rw [v1]
          simp (disch := omega) only [Option.bind_some, d_eq]
          rw [if_neg (by omega)]
          exact Tr_ret ⟨Or.inl ⟨t + 1, by omega, by omega, fun t' a1 a2 => j3 t' a1 a2, Or.inl ⟨hst.mp v2, rfl⟩⟩, rfl, hfr⟩
        · rw [v1]
          simp (disch := omega) only [rc0, gr0_0, gr0_1, gr0_2, gr0_3, gr0_4, gr0_5, gr0_6, gi0_7, pi0_7, rc1, gi1_0, pi1_0, gr1_1, gr1_2, rc4, gr4_0, gi4_1, pi4_1, gi4_2, pi4_2, gi4_3, pi4_3, gi4_4, pi4_4, gi4_5, pi4_5, gr4_6, gr4_7, rc8, gr8_0, gi8_1, pi8_1, gr8_2, gr8_3, gr8_4, gr8_5, gr8_6, rc14, gr14_0, gr14_1, gr14_2, gr14_3, gr14_4, gr14_5, rc19, gr19_0, gr19_1, gr19_2, gr19_3, rc22, gr22_0, gr22_1, gr22_2, gr22_3, Option.bind_some, d_eq, if_true]
          rcases if_e (l := l) (s := s) (d := d) (tl := tl) (F := F) (I := I1) (J := K1) hn hn5 (by omega) with ⟨e2, h4⟩ | ⟨e2, h4⟩
          · left
            rw [e2]
            simp (disch := omega) only [Option.bind_some, n_0, n_1, n_2, n_3, n_4, n_5, n_6, n_8, n_9, n_10, n_12, n_20, n_25, n_27, n_30, n_31, n_32, n_40, n_48, n_57, n_59, n_63, n_96, n_97, n_120, n_122, n_255, n_256, n_300, n_301, n_512, n_1000, n_1001, n_1002, n_1003, n_1004, n_1005, n_2000, n_2304, n_4096, nI_add, pk_mul, n_m, c_ge, c_gt, c_lt, c_le, c_eq, c_ne, d_lt, d_ge, d_ne, d_eq, d_gt, d_le, m_ltk, m_gek, m_eq, m_ne]
            rw [if_neg (by omega)]
            exact Tr_ret ⟨Or.inl ⟨t + 1, by omega, by omega, fun t' a1 a2 => j3 t' a1 a2, Or.inr ⟨fun h => v2 (hst.mpr h), hfa.mp h4, rfl⟩⟩, rfl, hfr⟩
          · right
            rw [e2]
            simp (disch := omega) only [Option.bind_some, n_0, n_1, n_2, n_3, n_4, n_5, n_6, n_8, n_9, n_10, n_12, n_20, n_25, n_27, n_30, n_31, n_32, n_40, n_48, n_57, n_59, n_63, n_96, n_97, n_120, n_122, n_255, n_256, n_300, n_301, n_512, n_1000, n_1001, n_1002, n_1003, n_1004, n_1005, n_2000, n_2304, n_4096, nI_add, pk_mul, n_m, c_ge, c_gt, c_lt, c_le, c_eq, c_ne, d_lt, d_ge, d_ne, d_eq, d_gt, d_le, m_ltk, m_gek, m_eq, m_ne, if_true]
            refine ⟨K1, by trivial, by omega, fun i hi => ?_, hfr, fun t' a1 a2 => ?_⟩
            · rw [h3 21 (by decide)]
              exact i1' i hi
            · by_cases htt : t' = t + 1
              · subst htt
                exact ⟨fun h => v2 (hst.mpr h), fun h => h4 (hfa.mpr h)⟩
              · exact j3 t' a1 (by omega)
      · rintro g i K hi ⟨i1, i2⟩
        right
        obtain ⟨_, I1, K1, e1, h1, h2, h3, h4⟩ := tb_e (l := l) (s := s) (d := d) (tl := tl) (F := F) (a := 21) (x := pwr y t) (i := i) (p := i * 5) (J := K) hc (kp_fr hk rfl rfl rfl (i2 11 (by decide) (by decide)) (i2 12 (by decide) (by decide))) (by omega) hb q21 (by decide) (by omega) (by decide) (by decide) ((i1 i hi).2 (Nat.le_refl _))
        subst h2
        show ∃ y, m56_44 F _ (g + 1) _ _ _ _ _ = _ ∧ _
        rw [m56_44]
        simp (disch := omega) only [rc0, gr0_0, gr0_1, gr0_2, gr0_3, gr0_4, gr0_5, gr0_6, gi0_7, pi0_7, rc1, gi1_0, pi1_0, gr1_1, gr1_2, rc4, gr4_0, gi4_1, pi4_1, gi4_2, pi4_2, gi4_3, pi4_3, gi4_4, pi4_4, gi4_5, pi4_5, gr4_6, gr4_7, rc8, gr8_0, gi8_1, pi8_1, gr8_2, gr8_3, gr8_4, gr8_5, gr8_6, rc14, gr14_0, gr14_1, gr14_2, gr14_3, gr14_4, gr14_5, rc19, gr19_0, gr19_1, gr19_2, gr19_3, rc22, gr22_0, gr22_1, gr22_2, gr22_3, Option.bind_some, n_0, n_1, n_2, n_3, n_4, n_5, n_6, n_8, n_9, n_10, n_12, n_20, n_25, n_27, n_30, n_31, n_32, n_40, n_48, n_57, n_59, n_63, n_96, n_97, n_120, n_122, n_255, n_256, n_300, n_301, n_512, n_1000, n_1001, n_1002, n_1003, n_1004, n_1005, n_2000, n_2304, n_4096, nI_add, pk_mul, n_m, c_ge, c_gt, c_lt, c_le, c_eq, c_ne, d_lt, d_ge, d_ne, d_eq, d_gt, d_le, m_ltk, m_gek, m_eq, m_ne, hn, e1]
        rw [if_neg (by omega)]
        refine ⟨_, rfl, fun j hj => ?_, fun c c1 c2 => (h3 c c2).trans (i2 c c1 c2)⟩
        by_cases hji : j = i
        · subst hji
          exact ⟨fun _ => h1, fun h => by omega⟩
        · have hrow : ∀ x, rt n A x j (K 21) (j * 5) → rt n A x j (K1 21) (j * 5) := by
            intro x hx k hk
            rw [h4 (j * 5 + k) (by omega)]
            exact hx k hk
          exact ⟨fun h => hrow _ ((i1 j hj).1 (by omega)), fun h => hrow _ ((i1 j hj).2 (by omega))⟩
  · rintro f k K hkn ⟨k1, k2⟩
    right
    show ∃ y, m56_2 F (f + 1) _ _ _ _ = _ ∧ _
    rw [m56_2]
    simp (disch := omega) only [rc0, gr0_0, gr0_1, gr0_2, gr0_3, gr0_4, gr0_5, gr0_6, gi0_7, pi0_7, rc1, gi1_0, pi1_0, gr1_1, gr1_2, rc4, gr4_0, gi4_1, pi4_1, gi4_2, pi4_2, gi4_3, pi4_3, gi4_4, pi4_4, gi4_5, pi4_5, gr4_6, gr4_7, rc8, gr8_0, gi8_1, pi8_1, gr8_2, gr8_3, gr8_4, gr8_5, gr8_6, rc14, gr14_0, gr14_1, gr14_2, gr14_3, gr14_4, gr14_5, rc19, gr19_0, gr19_1, gr19_2, gr19_3, rc22, gr22_0, gr22_1, gr22_2, gr22_3, Option.bind_some, n_0, n_1, n_2, n_3, n_4, n_5, n_6, n_8, n_9, n_10, n_12, n_20, n_25, n_27, n_30, n_31, n_32, n_40, n_48, n_57, n_59, n_63, n_96, n_97, n_120, n_122, n_255, n_256, n_300, n_301, n_512, n_1000, n_1001, n_1002, n_1003, n_1004, n_1005, n_2000, n_2304, n_4096, nI_add, pk_mul, n_m, c_ge, c_gt, c_lt, c_le, c_eq, c_ne, d_lt, d_ge, d_ne, d_eq, d_gt, d_le, m_ltk, m_gek, m_eq, m_ne, hn, sr_e hn hn5 (by omega : 6 ≤ F) (q21 (l := l) (s := s) (d := d) (tl := tl)) (by decide) (by omega : k * 5 + n ≤ 25) hkn]
    rw [if_neg (by omega)]
    refine ⟨_, rfl, fun i hi => ?_, fun c c1 c2 => (rwJ_ne c2).trans (k2 c c1 c2)⟩
    by_cases hik : i = k
    · subst hik
      exact rt_nil
    · intro j hj
      rw [rwJ_out (by omega)]
      exact k1 i (by omega) j hj
end S
