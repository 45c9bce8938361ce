/-! The class: Words, of kept elements. -/
/-- u, w kept, or LARGE -/
def tms (n : Nat) (A : Nat → Nat → Int) (els : List (List Nat)) (u w : List Nat) (v : Int32) (els' : List (List Nat)) : Prop :=
  ((∃ k, k ≤ w.length ∧ 20 < cx_l n A (u ++ w.take k)) ∧ v = gI 1005 ∧ els' = els) ∨ ((∀ k, k ≤ w.length → cx_l n A (u ++ w.take k) ≤ 20) ∧ ∃ y, cx_c n A y ∧ cx_g n A y = cx_g n A (u ++ w) ∧ kpr els y v els')
/-- an element's word is kept -/
def kpx (n : Nat) (A : Nat → Nat → Int) (els : List (List Nat)) (u : List Nat) (v : Int32) (els' : List (List Nat)) : Prop := ∃ y, cx_c n A y ∧ cx_g n A y = cx_g n A u ∧ kpr els y v els'
theorem kpx_un {n : Nat} {A : Nat → Nat → Int} (hok : cx_ok n A) {els : List (List Nat)} {u : List Nat} {v v' : Int32} {e e' : List (List Nat)} (h : kpx n A els u v e) (h' : kpx n A els u v' e') : v = v' ∧ e = e' := by
  obtain ⟨y, h1, h2, h3⟩ := h
  obtain ⟨y', k1, k2, k3⟩ := h'
  have := cx_c_un hok h1 k1 (h2.trans k2.symm)
  subst this
  exact kpr_un h3 k3
theorem tms_un {n : Nat} {A : Nat → Nat → Int} (hok : cx_ok n A) {els : List (List Nat)} {u w : List Nat} {v v' : Int32} {e e' : List (List Nat)} (h : tms n A els u w v e) (h' : tms n A els u w v' e') : v = v' ∧ e = e' := by
  rcases h with ⟨⟨k, h0, h1⟩, h2, h3⟩ | ⟨h1, h2⟩
  · rcases h' with ⟨_, k2, k3⟩ | ⟨k1, k2⟩
    · exact ⟨h2.trans k2.symm, h3.trans k3.symm⟩
    · have := k1 k h0
      omega
  · rcases h' with ⟨⟨k, k0, k1⟩, k2, k3⟩ | ⟨k1, k2⟩
    · have := h1 k k0
      omega
    · exact kpx_un hok h2 k2
section S
variable {l s d : Value} {tl : List hQ} {F : Nat} {I : hI} {J : hJ} {n a b o p N M : Nat} {A : Nat → Nat → Int} {els : List (List Nat)}
/-- where the class may write, when an element is kept -/
def fkI (I I' : hI) : Prop := ∀ c, c ≠ 8 → c ≠ 9 → c ≠ 10 → c ≠ 17 → c ≠ 18 → I' c = I c
def fkJ (J J' : hJ) : Prop := ∀ c, c ≠ 11 → c ≠ 12 → c ≠ 13 → c ≠ 15 → J' c = J c
theorem kp_c (hk : kp n A els I J) {w : Nat} {y : List Nat} (h : els[w]? = some y) : cx_c n A y ∧ cx_L n y ∧ cx_l n A y = y.length ∧ y.length ≤ 20 ∧ w < 40 ∧ I 10 w = nI y.length := by
  have h1 := hk.2.2.2.2 w y h
  exact ⟨h1.1, cx_c_L h1.1, cx_c_l h1.1, h1.2.1, (kp_lt hk h).2, h1.2.2.1⟩
theorem take_app {u y : List Nat} {k t : Nat} (h : y[k]? = some t) : u ++ y.take (k + 1) = u ++ y.take k ++ [t] := by rw [take_c h, List.append_assoc]
theorem pr_e (hc : cl_n n A I) (hk : kp n A els I J) (hF : 100 ≤ F) {u y : List Nat} (ha : els[a]? = some u) (hb : els[b]? = some y) :
    Tr (hs l s d tl) (e91 F 14 (nI a) (nI b) (mkH (hs l s d tl) I J)) (fun v I' J' => ∃ els', tms n A els u y v els' ∧ kp n A els' I' J' ∧ fkI I I' ∧ fkJ J J') := by
  have hok := hc.1
  have hn := hc.2.2.2.1
  have hn5 := hc.2.2.1
  obtain ⟨uc, uL, ul, u20, a40, ua⟩ := kp_c hk ha
  obtain ⟨yc, yL, yl, y20, b40, yb⟩ := kp_c hk hb
  show Tr _ (m91_0 F 14 _ _ _) _
  unfold m91_0
  simp (disch := omega) only [rc0, gr0_0, gr0_1, gr0_2, gr0_3, gr0_4, gr0_5, gr0_6, gi0_7, pi0_7, rc1, gi1_0, pi1_0, gr1_1, gr1_2, rc4, gr4_0, gi4_1, pi4_1, gi4_2, pi4_2, gi4_3, pi4_3, gi4_4, pi4_4, gi4_5, pi4_5, gr4_6, gr4_7, rc8, gr8_0, gi8_1, pi8_1, gr8_2, gr8_3, gr8_4, gr8_5, gr8_6, rc14, gr14_0, gr14_1, gr14_2, gr14_3, gr14_4, gr14_5, rc19, gr19_0, gr19_1, gr19_2, gr19_3, rc22, gr22_0, gr22_1, gr22_2, gr22_3, Option.bind_some, n_0, n_1, n_2, n_3, n_4, n_5, n_6, n_8, n_9, n_10, n_12, n_20, n_25, n_27, n_30, n_31, n_32, n_40, n_48, n_57, n_59, n_63, n_96, n_97, n_120, n_122, n_255, n_256, n_300, n_301, n_512, n_1000, n_1001, n_1002, n_1003, n_1004, n_1005, n_2000, n_2304, n_4096, nI_add, pk_mul, n_m, c_ge, c_gt, c_lt, c_le, c_eq, c_ne, d_lt, d_ge, d_ne, d_eq, d_gt, d_le, m_ltk, m_gek, m_eq, m_ne, rI10, wI10, ua, cr_e hn hn5 (by omega : 6 ≤ F) (q12 (l := l) (s := s) (d := d) (tl := tl)) q15 (by decide) (by decide) (by omega : a * 5 + n ≤ 200) (by omega : 0 + n ≤ 5) (Or.inl (by decide))]
  have e0 : nI u.length = nI (cx_l n A (u ++ y.take 0)) := by rw [List.take_zero, List.append_nil, ul]
  rw [e0]
  refine lpc (fun f k (K : hJ) => m91_35 F f 14 (nI b) (nI (cx_l n A (u ++ y.take k))) (nI k) (mkH (hs l s d tl) I K)) y.length (fun k K => wt n A (u ++ y.take k) (K 15) 0 ∧ (∀ c, c ≠ 15 → K c = J c) ∧ ∀ i, i ≤ k → cx_l n A (u ++ y.take i) ≤ 20) (fun r => Tr (hs l s d tl) r _) ?_ ?_ F 0 (rwJ J 15 0 n (fun j => J 12 (a * 5 + j))) (by omega) (by omega) ⟨by rw [List.take_zero, List.append_nil]; exact wt_cp (hk.2.2.2.2 a u ha).2.2.2.2.2, fun c hc => rwJ_ne hc, fun i hi => by
    have : i = 0 := by omega
    subst this
    rw [List.take_zero, List.append_nil]
    omega⟩
  · rintro f K ⟨h1, h2, h3⟩
    show Tr _ (m91_35 F (f + 1) _ _ _ _ _) _
    rw [m91_35]
    simp (disch := omega) only [rc0, gr0_0, gr0_1, gr0_2, gr0_3, gr0_4, gr0_5, gr0_6, gi0_7, pi0_7, rc1, gi1_0, pi1_0, gr1_1, gr1_2, rc4, gr4_0, gi4_1, pi4_1, gi4_2, pi4_2, gi4_3, pi4_3, gi4_4, pi4_4, gi4_5, pi4_5, gr4_6, gr4_7, rc8, gr8_0, gi8_1, pi8_1, gr8_2, gr8_3, gr8_4, gr8_5, gr8_6, rc14, gr14_0, gr14_1, gr14_2, gr14_3, gr14_4, gr14_5, rc19, gr19_0, gr19_1, gr19_2, gr19_3, rc22, gr22_0, gr22_1, gr22_2, gr22_3, Option.bind_some, n_0, n_1, n_2, n_3, n_4, n_5, n_6, n_8, n_9, n_10, n_12, n_20, n_25, n_27, n_30, n_31, n_32, n_40, n_48, n_57, n_59, n_63, n_96, n_97, n_120, n_122, n_255, n_256, n_300, n_301, n_512, n_1000, n_1001, n_1002, n_1003, n_1004, n_1005, n_2000, n_2304, n_4096, nI_add, pk_mul, n_m, c_ge, c_gt, c_lt, c_le, c_eq, c_ne, d_lt, d_ge, d_ne, d_eq, d_gt, d_le, m_ltk, m_gek, m_eq, m_ne, rI10, wI10, yb]
    rw [if_pos (by omega)]
    rw [List.take_length] at h1
    have hL := cx_L_app uL yL
    have hl := h3 y.length (Nat.le_refl _)
    rw [List.take_length] at hl
    obtain ⟨z, hz, hg⟩ := cx_c_ex hok _ hL rfl
    obtain ⟨v, I2, J2, e2, els', k1, k2, k3, k4⟩ := kr_e (l := l) (s := s) (d := d) (tl := tl) (F := F) (I := I) (J := K) hc (kp_fr hk rfl rfl rfl (h2 11 (by decide)) (h2 12 (by decide))) hF hL hl h1 hz hg
    rw [e2]
    simp only [Option.bind_some]
    exact Tr_ret ⟨els', Or.inr ⟨h3, z, hz, hg, k1⟩, k2, k3, fun c c1 c2 c3 c4 => (k4 c c1 c2 c3 c4).trans (h2 c c4)⟩
  · rintro f k K hky ⟨h1, h2, h3⟩
    obtain ⟨t, ht⟩ := ex_at hky
    have htn := cx_L_at yL ht
    have hL := cx_L_app uL (take_L yL k)
    have hl := h3 k (Nat.le_refl _)
    have hd := wt_dn hok hL (by omega) h1 htn
    rw [Nat.zero_add] at hd
    have hkK := kp_fr (n := n) (A := A) hk (I' := I) (J' := K) rfl rfl rfl (h2 11 (by decide)) (h2 12 (by decide))
    show Tr _ (m91_35 F (f + 1) _ _ _ _ _) _ ∨ ∃ y, m91_35 F (f + 1) _ _ _ _ _ = _ ∧ _
    rw [m91_35]
    simp (disch := omega) only [rc0, gr0_0, gr0_1, gr0_2, gr0_3, gr0_4, gr0_5, gr0_6, gi0_7, pi0_7, rc1, gi1_0, pi1_0, gr1_1, gr1_2, rc4, gr4_0, gi4_1, pi4_1, gi4_2, pi4_2, gi4_3, pi4_3, gi4_4, pi4_4, gi4_5, pi4_5, gr4_6, gr4_7, rc8, gr8_0, gi8_1, pi8_1, gr8_2, gr8_3, gr8_4, gr8_5, gr8_6, rc14, gr14_0, gr14_1, gr14_2, gr14_3, gr14_4, gr14_5, rc19, gr19_0, gr19_1, gr19_2, gr19_3, rc22, gr22_0, gr22_1, gr22_2, gr22_3, Option.bind_some, n_0, n_1, n_2, n_3, n_4, n_5, n_6, n_8, n_9, n_10, n_12, n_20, n_25, n_27, n_30, n_31, n_32, n_40, n_48, n_57, n_59, n_63, n_96, n_97, n_120, n_122, n_255, n_256, n_300, n_301, n_512, n_1000, n_1001, n_1002, n_1003, n_1004, n_1005, n_2000, n_2304, n_4096, nI_add, pk_mul, n_m, c_ge, c_gt, c_lt, c_le, c_eq, c_ne, d_lt, d_ge, d_ne, d_eq, d_gt, d_le, m_ltk, m_gek, m_eq, m_ne, rI10, wI10, rJ15, wJ15, yb, lo_e hkK hb ht, k_ge]
    rw [if_neg (by omega)]
    have tw := fun (K : hJ) => tw_e (l := l) (s := s) (d := d) (tl := tl) (F := F) (J := K) (b := 15) (p := 0) hc (by omega : 6 ≤ F) q15 (by decide) (by omega : 0 + n ≤ 5) htn
    by_cases hdn : dn n A (u ++ y.take k) t
    · rw [if_neg (fun h => h (hd.mpr hdn))]
      right
      unfold m91_79
      have h4 := dn_1 hok hL htn hdn
      rw [← take_app ht] at h4
      have e4 : nI (cx_l n A (u ++ y.take k)) + gI 1 = nI (cx_l n A (u ++ y.take (k + 1))) := by
        rw [p_m1, pk_sub (by omega)]
        congr 1
        omega
      simp (disch := omega) only [rc0, gr0_0, gr0_1, gr0_2, gr0_3, gr0_4, gr0_5, gr0_6, gi0_7, pi0_7, rc1, gi1_0, pi1_0, gr1_1, gr1_2, rc4, gr4_0, gi4_1, pi4_1, gi4_2, pi4_2, gi4_3, pi4_3, gi4_4, pi4_4, gi4_5, pi4_5, gr4_6, gr4_7, rc8, gr8_0, gi8_1, pi8_1, gr8_2, gr8_3, gr8_4, gr8_5, gr8_6, rc14, gr14_0, gr14_1, gr14_2, gr14_3, gr14_4, gr14_5, rc19, gr19_0, gr19_1, gr19_2, gr19_3, rc22, gr22_0, gr22_1, gr22_2, gr22_3, Option.bind_some, n_0, n_1, n_2, n_3, n_4, n_5, n_6, n_8, n_9, n_10, n_12, n_20, n_25, n_27, n_30, n_31, n_32, n_40, n_48, n_57, n_59, n_63, n_96, n_97, n_120, n_122, n_255, n_256, n_300, n_301, n_512, n_1000, n_1001, n_1002, n_1003, n_1004, n_1005, n_2000, n_2304, n_4096, nI_add, pk_mul, n_m, c_ge, c_gt, c_lt, c_le, c_eq, c_ne, d_lt, d_ge, d_ne, d_eq, d_gt, d_le, m_ltk, m_gek, m_eq, m_ne, e4, tw]
      rw [if_pos (by omega)]
      refine ⟨_, rfl, ?_, fun c hc => (rwJ_ne hc).trans (h2 c hc), fun i hi => ?_⟩
      · rw [take_app ht]
        exact wt_turn h1 htn
      · by_cases hik : i = k + 1
        · subst hik
          omega
        · exact h3 i (by omega)
    · rw [if_pos (fun h => hdn (hd.mp h))]
      unfold m91_79
      have h4 := up_1 hok hL htn hdn
      rw [← take_app ht] at h4
      have e4 : nI (cx_l n A (u ++ y.take k)) + nI 1 = nI (cx_l n A (u ++ y.take (k + 1))) := by
        rw [nI_add]
        congr 1
        omega
      simp (disch := omega) only [n_1, e4]
      simp (disch := omega) only [rc0, gr0_0, gr0_1, gr0_2, gr0_3, gr0_4, gr0_5, gr0_6, gi0_7, pi0_7, rc1, gi1_0, pi1_0, gr1_1, gr1_2, rc4, gr4_0, gi4_1, pi4_1, gi4_2, pi4_2, gi4_3, pi4_3, gi4_4, pi4_4, gi4_5, pi4_5, gr4_6, gr4_7, rc8, gr8_0, gi8_1, pi8_1, gr8_2, gr8_3, gr8_4, gr8_5, gr8_6, rc14, gr14_0, gr14_1, gr14_2, gr14_3, gr14_4, gr14_5, rc19, gr19_0, gr19_1, gr19_2, gr19_3, rc22, gr22_0, gr22_1, gr22_2, gr22_3, Option.bind_some, n_0, n_1, n_2, n_3, n_4, n_5, n_6, n_8, n_9, n_10, n_12, n_20, n_25, n_27, n_30, n_31, n_32, n_40, n_48, n_57, n_59, n_63, n_96, n_97, n_120, n_122, n_255, n_256, n_300, n_301, n_512, n_1000, n_1001, n_1002, n_1003, n_1004, n_1005, n_2000, n_2304, n_4096, nI_add, pk_mul, n_m, c_ge, c_gt, c_lt, c_le, c_eq, c_ne, d_lt, d_ge, d_ne, d_eq, d_gt, d_le, m_ltk, m_gek, m_eq, m_ne, tw]
      by_cases hle : cx_l n A (u ++ y.take (k + 1)) ≤ 20
      · rw [if_pos hle]
        right
        refine ⟨_, rfl, ?_, fun c hc => (rwJ_ne hc).trans (h2 c hc), fun i hi => ?_⟩
        · rw [take_app ht]
          exact wt_turn h1 htn
        · by_cases hik : i = k + 1
          · subst hik
            omega
          · exact h3 i (by omega)
      · rw [if_neg hle]
        left
        exact Tr_ret ⟨els, Or.inl ⟨⟨k + 1, by omega, by omega⟩, rfl, rfl⟩, hkK, fun _ _ _ _ _ _ => rfl, fun c _ _ _ c4 => h2 c c4⟩
theorem bk_e (hc : cl_n n A I) (hk : kp n A els I J) (hF : 100 ≤ F) {y : List Nat} (hb : els[b]? = some y) :
    Tr (hs l s d tl) (e92 F 14 (nI b) (mkH (hs l s d tl) I J)) (fun v I' J' => ∃ els', kpx n A els y.reverse v els' ∧ kp n A els' I' J' ∧ fkI I I' ∧ fkJ J J') := by
  have hok := hc.1
  obtain ⟨yc, yL, yl, y20, b40, yb⟩ := kp_c hk hb
  refine lpc (fun f k (I1 : hI) => m92_2 F f 14 (nI b) (nI k) (mkH (hs l s d tl) I1 J)) y.length (fun k I1 => wd (I1 17) 0 (y.take k) ∧ ∀ c, c ≠ 17 → I1 c = I c) (fun r => Tr (hs l s d tl) r _) ?_ ?_ F 0 I (by omega) (by omega) ⟨wd_nil, fun _ _ => rfl⟩
  · rintro f I1 ⟨h1, h2⟩
    show Tr _ (m92_2 F (f + 1) _ _ _ _) _
    rw [m92_2]
    have yb1 : I1 10 b = nI y.length := by rw [h2 10 (by decide), yb]
    simp (disch := omega) only [rc0, gr0_0, gr0_1, gr0_2, gr0_3, gr0_4, gr0_5, gr0_6, gi0_7, pi0_7, rc1, gi1_0, pi1_0, gr1_1, gr1_2, rc4, gr4_0, gi4_1, pi4_1, gi4_2, pi4_2, gi4_3, pi4_3, gi4_4, pi4_4, gi4_5, pi4_5, gr4_6, gr4_7, rc8, gr8_0, gi8_1, pi8_1, gr8_2, gr8_3, gr8_4, gr8_5, gr8_6, rc14, gr14_0, gr14_1, gr14_2, gr14_3, gr14_4, gr14_5, rc19, gr19_0, gr19_1, gr19_2, gr19_3, rc22, gr22_0, gr22_1, gr22_2, gr22_3, Option.bind_some, n_0, n_1, n_2, n_3, n_4, n_5, n_6, n_8, n_9, n_10, n_12, n_20, n_25, n_27, n_30, n_31, n_32, n_40, n_48, n_57, n_59, n_63, n_96, n_97, n_120, n_122, n_255, n_256, n_300, n_301, n_512, n_1000, n_1001, n_1002, n_1003, n_1004, n_1005, n_2000, n_2304, n_4096, nI_add, pk_mul, n_m, c_ge, c_gt, c_lt, c_le, c_eq, c_ne, d_lt, d_ge, d_ne, d_eq, d_gt, d_le, m_ltk, m_gek, m_eq, m_ne, rI10, wI10, yb1]
    rw [if_pos (by omega)]
    rw [List.take_length] at h1
    obtain ⟨z, hz, hg⟩ := cx_c_ex hok _ (cx_L_rev yL) rfl
    obtain ⟨v, I2, J2, e2, els', k1, k2, k3, k4⟩ := kt_e (l := l) (s := s) (d := d) (tl := tl) (F := F) (I := I1) (J := J) (cl_fr hc (h2 1 (by decide)) (h2 3 (by decide))) (kp_fr hk (h2 8 (by decide)) (h2 9 (by decide)) (h2 10 (by decide)) rfl rfl) hF yL y20 h1 hz hg
    rw [e2]
    simp only [Option.bind_some]
    exact Tr_ret ⟨els', ⟨z, hz, hg, k1⟩, k2, fun c c1 c2 c3 c4 c5 => (k3 c c1 c2 c3 c5).trans (h2 c c4), fun c c1 c2 c3 _ => k4 c c1 c2 c3⟩
  · rintro f k I1 hky ⟨h1, h2⟩
    right
    obtain ⟨t, ht⟩ := ex_at hky
    have hk1 := kp_fr (J' := J) hk (h2 8 (by decide)) (h2 9 (by decide)) (h2 10 (by decide)) rfl rfl
    have yb1 : I1 10 b = nI y.length := by rw [h2 10 (by decide), yb]
    show ∃ y, m92_2 F (f + 1) _ _ _ _ = _ ∧ _
    rw [m92_2]
    simp (disch := omega) only [rc0, gr0_0, gr0_1, gr0_2, gr0_3, gr0_4, gr0_5, gr0_6, gi0_7, pi0_7, rc1, gi1_0, pi1_0, gr1_1, gr1_2, rc4, gr4_0, gi4_1, pi4_1, gi4_2, pi4_2, gi4_3, pi4_3, gi4_4, pi4_4, gi4_5, pi4_5, gr4_6, gr4_7, rc8, gr8_0, gi8_1, pi8_1, gr8_2, gr8_3, gr8_4, gr8_5, gr8_6, rc14, gr14_0, gr14_1, gr14_2, gr14_3, gr14_4, gr14_5, rc19, gr19_0, gr19_1, gr19_2, gr19_3, rc22, gr22_0, gr22_1, gr22_2, gr22_3, Option.bind_some, n_0, n_1, n_2, n_3, n_4, n_5, n_6, n_8, n_9, n_10, n_12, n_20, n_25, n_27, n_30, n_31, n_32, n_40, n_48, n_57, n_59, n_63, n_96, n_97, n_120, n_122, n_255, n_256, n_300, n_301, n_512, n_1000, n_1001, n_1002, n_1003, n_1004, n_1005, n_2000, n_2304, n_4096, nI_add, pk_mul, n_m, c_ge, c_gt, c_lt, c_le, c_eq, c_ne, d_lt, d_ge, d_ne, d_eq, d_gt, d_le, m_ltk, m_gek, m_eq, m_ne, rI10, wI10, rI17, wI17, yb1, lo_e hk1 hb ht]
    rw [if_neg (by omega)]
    refine ⟨_, rfl, ?_, fun c hc => (upI_ne hc).trans (h2 c hc)⟩
    rw [take_c ht]
    have := wd_snoc (c := t) h1
    rw [List.length_take, Nat.min_eq_left (by omega), Nat.zero_add] at this
    exact this
/-- keepLeast -/
theorem kl_e (hc : cl_n n A I) (hk : kp n A els I J) (hF : 100 ≤ F) {S : Nat} (hS : S < 32) {y z : List Nat} (hb : els[b]? = some y) (hz : tk n A (bt S) y z) :
    Tr (hs l s d tl) (e93 F 14 (nI b) (nI S) (mkH (hs l s d tl) I J)) (fun v I' J' => ∃ els', kpx n A els (y ++ z) v els' ∧ kp n A els' I' J' ∧ fkI I I' ∧ fkJ J J') := by
  have hok := hc.1
  have hn := hc.2.2.2.1
  have hn5 := hc.2.2.1
  obtain ⟨yc, yL, yl, y20, b40, yb⟩ := kp_c hk hb
  have hlen := tk_len hok yL hz
  show Tr _ (m93_0 F 14 _ _ _) _
  unfold m93_0
  simp (disch := omega) only [rc0, gr0_0, gr0_1, gr0_2, gr0_3, gr0_4, gr0_5, gr0_6, gi0_7, pi0_7, rc1, gi1_0, pi1_0, gr1_1, gr1_2, rc4, gr4_0, gi4_1, pi4_1, gi4_2, pi4_2, gi4_3, pi4_3, gi4_4, pi4_4, gi4_5, pi4_5, gr4_6, gr4_7, rc8, gr8_0, gi8_1, pi8_1, gr8_2, gr8_3, gr8_4, gr8_5, gr8_6, rc14, gr14_0, gr14_1, gr14_2, gr14_3, gr14_4, gr14_5, rc19, gr19_0, gr19_1, gr19_2, gr19_3, rc22, gr22_0, gr22_1, gr22_2, gr22_3, Option.bind_some, n_0, n_1, n_2, n_3, n_4, n_5, n_6, n_8, n_9, n_10, n_12, n_20, n_25, n_27, n_30, n_31, n_32, n_40, n_48, n_57, n_59, n_63, n_96, n_97, n_120, n_122, n_255, n_256, n_300, n_301, n_512, n_1000, n_1001, n_1002, n_1003, n_1004, n_1005, n_2000, n_2304, n_4096, nI_add, pk_mul, n_m, c_ge, c_gt, c_lt, c_le, c_eq, c_ne, d_lt, d_ge, d_ne, d_eq, d_gt, d_le, m_ltk, m_gek, m_eq, m_ne, cr_e hn hn5 (by omega : 6 ≤ F) (q12 (l := l) (s := s) (d := d) (tl := tl)) q15 (by decide) (by decide) (by omega : b * 5 + n ≤ 200) (by omega : 0 + n ≤ 5) (Or.inl (by decide))]
  obtain ⟨v, I1, J1, e1, h1, h2, h3, h4, h5⟩ := td_e (l := l) (s := s) (d := d) (tl := tl) (F := F) (I := I) (J := rwJ J 15 0 n (fun j => J 12 (b * 5 + j))) hc (by omega) hS yL (by omega) hz (wt_cp (hk.2.2.2.2 b y hb).2.2.2.2.2)
  rw [e1]
  simp (disch := omega) only [rc0, gr0_0, gr0_1, gr0_2, gr0_3, gr0_4, gr0_5, gr0_6, gi0_7, pi0_7, rc1, gi1_0, pi1_0, gr1_1, gr1_2, rc4, gr4_0, gi4_1, pi4_1, gi4_2, pi4_2, gi4_3, pi4_3, gi4_4, pi4_4, gi4_5, pi4_5, gr4_6, gr4_7, rc8, gr8_0, gi8_1, pi8_1, gr8_2, gr8_3, gr8_4, gr8_5, gr8_6, rc14, gr14_0, gr14_1, gr14_2, gr14_3, gr14_4, gr14_5, rc19, gr19_0, gr19_1, gr19_2, gr19_3, rc22, gr22_0, gr22_1, gr22_2, gr22_3, Option.bind_some]
  have hL := cx_L_app yL hlen.1
  obtain ⟨x, hx, hg⟩ := cx_c_ex hok _ hL rfl
  have hJ : ∀ c, c ≠ 15 → J1 c = J c := fun c hc => (h5 c hc).trans (rwJ_ne hc)
  obtain ⟨v2, I2, J2, e2, els', k1, k2, k3, k4⟩ := kr_e (l := l) (s := s) (d := d) (tl := tl) (F := F) (I := I1) (J := J1) (cl_fr hc (h4 1 (by decide)) (h4 3 (by decide))) (kp_fr hk (h4 8 (by decide)) (h4 9 (by decide)) (h4 10 (by decide)) (hJ 11 (by decide)) (hJ 12 (by decide))) hF hL (by omega) h3 hx hg
  rw [e2]
  simp only [Option.bind_some]
  exact Tr_ret ⟨els', ⟨x, hx, hg, k1⟩, k2, fun c c1 c2 c3 c4 c5 => (k3 c c1 c2 c3 c4 c5).trans (h4 c c4), fun c c1 c2 c3 c4 => (k4 c c1 c2 c3 c4).trans (hJ c c4)⟩
/-- keepRest -/
theorem ks_e (hc : cl_n n A I) (hk : kp n A els I J) (hF : 100 ≤ F) {S : Nat} (hS : S < 32) {y z : List Nat} (hb : els[b]? = some y) (hz : tk n A (bt S) y z) :
    Tr (hs l s d tl) (e94 F 14 (nI b) (nI S) (mkH (hs l s d tl) I J)) (fun v I' J' => ∃ els', kpx n A els z.reverse v els' ∧ kp n A els' I' J' ∧ fkI I I' ∧ fkJ J J') := by
  have hok := hc.1
  have hn := hc.2.2.2.1
  have hn5 := hc.2.2.1
  obtain ⟨yc, yL, yl, y20, b40, yb⟩ := kp_c hk hb
  have hlen := tk_len hok yL hz
  show Tr _ (m94_0 F 14 _ _ _) _
  unfold m94_0
  simp (disch := omega) only [rc0, gr0_0, gr0_1, gr0_2, gr0_3, gr0_4, gr0_5, gr0_6, gi0_7, pi0_7, rc1, gi1_0, pi1_0, gr1_1, gr1_2, rc4, gr4_0, gi4_1, pi4_1, gi4_2, pi4_2, gi4_3, pi4_3, gi4_4, pi4_4, gi4_5, pi4_5, gr4_6, gr4_7, rc8, gr8_0, gi8_1, pi8_1, gr8_2, gr8_3, gr8_4, gr8_5, gr8_6, rc14, gr14_0, gr14_1, gr14_2, gr14_3, gr14_4, gr14_5, rc19, gr19_0, gr19_1, gr19_2, gr19_3, rc22, gr22_0, gr22_1, gr22_2, gr22_3, Option.bind_some, n_0, n_1, n_2, n_3, n_4, n_5, n_6, n_8, n_9, n_10, n_12, n_20, n_25, n_27, n_30, n_31, n_32, n_40, n_48, n_57, n_59, n_63, n_96, n_97, n_120, n_122, n_255, n_256, n_300, n_301, n_512, n_1000, n_1001, n_1002, n_1003, n_1004, n_1005, n_2000, n_2304, n_4096, nI_add, pk_mul, n_m, c_ge, c_gt, c_lt, c_le, c_eq, c_ne, d_lt, d_ge, d_ne, d_eq, d_gt, d_le, m_ltk, m_gek, m_eq, m_ne, cr_e hn hn5 (by omega : 6 ≤ F) (q12 (l := l) (s := s) (d := d) (tl := tl)) q15 (by decide) (by decide) (by omega : b * 5 + n ≤ 200) (by omega : 0 + n ≤ 5) (Or.inl (by decide))]
  obtain ⟨v, I1, J1, e1, h1, h2, h3, h4, h5⟩ := td_e (l := l) (s := s) (d := d) (tl := tl) (F := F) (I := I) (J := rwJ J 15 0 n (fun j => J 12 (b * 5 + j))) hc (by omega) hS yL (by omega) hz (wt_cp (hk.2.2.2.2 b y hb).2.2.2.2.2)
  rw [e1]
  simp (disch := omega) only [rc0, gr0_0, gr0_1, gr0_2, gr0_3, gr0_4, gr0_5, gr0_6, gi0_7, pi0_7, rc1, gi1_0, pi1_0, gr1_1, gr1_2, rc4, gr4_0, gi4_1, pi4_1, gi4_2, pi4_2, gi4_3, pi4_3, gi4_4, pi4_4, gi4_5, pi4_5, gr4_6, gr4_7, rc8, gr8_0, gi8_1, pi8_1, gr8_2, gr8_3, gr8_4, gr8_5, gr8_6, rc14, gr14_0, gr14_1, gr14_2, gr14_3, gr14_4, gr14_5, rc19, gr19_0, gr19_1, gr19_2, gr19_3, rc22, gr22_0, gr22_1, gr22_2, gr22_3, Option.bind_some]
  rw [h1]
  obtain ⟨x, hx, hg⟩ := cx_c_ex hok _ (cx_L_rev hlen.1) rfl
  have hJ : ∀ c, c ≠ 15 → J1 c = J c := fun c hc => (h5 c hc).trans (rwJ_ne hc)
  obtain ⟨v2, I2, J2, e2, els', k1, k2, k3, k4⟩ := kt_e (l := l) (s := s) (d := d) (tl := tl) (F := F) (I := I1) (J := J1) (cl_fr hc (h4 1 (by decide)) (h4 3 (by decide))) (kp_fr hk (h4 8 (by decide)) (h4 9 (by decide)) (h4 10 (by decide)) (hJ 11 (by decide)) (hJ 12 (by decide))) hF hlen.1 (by omega) h2 hx hg
  rw [e2]
  simp only [Option.bind_some]
  exact Tr_ret ⟨els', ⟨x, hx, hg, k1⟩, k2, fun c c1 c2 c3 c4 c5 => (k3 c c1 c2 c3 c5).trans (h4 c c4), fun c c1 c2 c3 c4 => (k4 c c1 c2 c3).trans (hJ c c4)⟩
end S
