/-! The class: both-sided cosets, order, covers. -/
section S
variable {l s d : Value} {tl : List hQ} {F : Nat} {I : hI} {J : hJ} {n a b o p N M : Nat} {A : Nat → Nat → Int} {els : List (List Nat)}
/-- turnOver -/
theorem to_e (hc : cl_n n A I) (hF : 100 ≤ F) {u : List Nat} (hu : cx_L n u) (hl : cx_l n A u ≤ 20) (hw : wt n A u (J 15) 0) :
    Tr (hs l s d tl) (e100 F 14 (mkH (hs l s d tl) I J)) (fun v I' J' => v = nI (cx_l n A u) ∧ wt n A u.reverse (J' 15) 0 ∧ (∀ c, c ≠ 17 → I' c = I c) ∧ ∀ c, c ≠ 15 → J' c = J c) := by
  have hok := hc.1
  have hn5 := hc.2.2.1
  obtain ⟨z, hz⟩ := tk_ex hok (fun _ => True) _ hu rfl
  have hzc := tk_c hok hu hz
  have hzL := cx_c_L hzc.1
  have hzl : z.length = cx_l n A u := by
    have h1 := cx_c_l hzc.1
    have h2 := cx_l_eq hzc.2
    have h3 := cx_l_rev hok hu
    omega
  show Tr _ (m100_0 F 14 _) _
  unfold m100_0
  simp (disch := omega) only [rc0, gr0_0, gr0_1, gr0_2, gr0_3, gr0_4, gr0_5, gr0_6, gi0_7, pi0_7, rc1, gi1_0, pi1_0, gr1_1, gr1_2, rc4, gr4_0, gi4_1, pi4_1, gi4_2, pi4_2, gi4_3, pi4_3, gi4_4, pi4_4, gi4_5, pi4_5, gr4_6, gr4_7, rc8, gr8_0, gi8_1, pi8_1, gr8_2, gr8_3, gr8_4, gr8_5, gr8_6, rc14, gr14_0, gr14_1, gr14_2, gr14_3, gr14_4, gr14_5, rc19, gr19_0, gr19_1, gr19_2, gr19_3, rc22, gr22_0, gr22_1, gr22_2, gr22_3, Option.bind_some, n_0, n_1, n_2, n_3, n_4, n_5, n_6, n_8, n_9, n_10, n_12, n_20, n_25, n_27, n_30, n_31, n_32, n_40, n_48, n_57, n_59, n_63, n_96, n_97, n_120, n_122, n_255, n_256, n_300, n_301, n_512, n_1000, n_1001, n_1002, n_1003, n_1004, n_1005, n_2000, n_2304, n_4096, nI_add, pk_mul, n_m, c_ge, c_gt, c_lt, c_le, c_eq, c_ne, d_lt, d_ge, d_ne, d_eq, d_gt, d_le, m_ltk, m_gek, m_eq, m_ne]
  obtain ⟨v, I1, J1, e1, h1, h2, h3, h4, h5⟩ := spell_e (l := l) (s := s) (d := d) (tl := tl) (F := F) (J := J) (p := 0) (a := 15) (b := 17) hc (by omega) q15 (by decide) (by decide) q17 (by decide) (by decide) hu (by omega) hz (by omega) hw
  have hc1 : cl_n n A I1 := cl_fr hc (h3 1 (by decide)) (h3 3 (by decide))
  rw [e1]
  simp (disch := omega) only [rc0, gr0_0, gr0_1, gr0_2, gr0_3, gr0_4, gr0_5, gr0_6, gi0_7, pi0_7, rc1, gi1_0, pi1_0, gr1_1, gr1_2, rc4, gr4_0, gi4_1, pi4_1, gi4_2, pi4_2, gi4_3, pi4_3, gi4_4, pi4_4, gi4_5, pi4_5, gr4_6, gr4_7, rc8, gr8_0, gi8_1, pi8_1, gr8_2, gr8_3, gr8_4, gr8_5, gr8_6, rc14, gr14_0, gr14_1, gr14_2, gr14_3, gr14_4, gr14_5, rc19, gr19_0, gr19_1, gr19_2, gr19_3, rc22, gr22_0, gr22_1, gr22_2, gr22_3, Option.bind_some, sw_e hc1.2.2.2.1 hn5 (by omega : 6 ≤ F) (q15 (l := l) (s := s) (d := d) (tl := tl)) (by decide) (by omega : 0 + n ≤ 5)]
  rw [h1]
  refine lpc (fun f k (K : hJ) => m100_31 F f 14 (nI z.length) (nI k) (mkH (hs l s d tl) I1 K)) z.length (fun k K => wt n A (z.take k) (K 15) 0 ∧ ∀ c, c ≠ 15 → K c = J c) (fun r => Tr (hs l s d tl) r _) ?_ ?_ F 0 (rwJ J1 15 0 n (fun _ => zJ 1)) (by omega) (by omega) ⟨wt_nil, fun c hc => (rwJ_ne hc).trans (h5 c hc)⟩
  · rintro f K ⟨k1, k2⟩
    show Tr _ (m100_31 F (f + 1) _ _ _ _) _
    rw [m100_31]
    simp (disch := omega) only [n_0, n_1, n_2, n_3, n_4, n_5, n_6, n_8, n_9, n_10, n_12, n_20, n_25, n_27, n_30, n_31, n_32, n_40, n_48, n_57, n_59, n_63, n_96, n_97, n_120, n_122, n_255, n_256, n_300, n_301, n_512, n_1000, n_1001, n_1002, n_1003, n_1004, n_1005, n_2000, n_2304, n_4096, nI_add, pk_mul, n_m, c_ge, c_gt, c_lt, c_le, c_eq, c_ne, d_lt, d_ge, d_ne, d_eq, d_gt, d_le, m_ltk, m_gek, m_eq, m_ne]
    rw [if_pos (by omega)]
    rw [List.take_length] at k1
    exact Tr_ret ⟨by rw [hzl], wt_cg hzc.2 k1, h3, k2⟩
  · rintro f k K hk ⟨k1, k2⟩
    right
    obtain ⟨t, ht⟩ := ex_at hk
    have htn := cx_L_at hzL ht
    have h17 : I1 17 k = nI t := by
      have := h2 k t ht
      rw [Nat.zero_add] at this
      exact this
    show ∃ y, m100_31 F (f + 1) _ _ _ _ = _ ∧ _
    rw [m100_31]
    simp (disch := omega) only [rc0, gr0_0, gr0_1, gr0_2, gr0_3, gr0_4, gr0_5, gr0_6, gi0_7, pi0_7, rc1, gi1_0, pi1_0, gr1_1, gr1_2, rc4, gr4_0, gi4_1, pi4_1, gi4_2, pi4_2, gi4_3, pi4_3, gi4_4, pi4_4, gi4_5, pi4_5, gr4_6, gr4_7, rc8, gr8_0, gi8_1, pi8_1, gr8_2, gr8_3, gr8_4, gr8_5, gr8_6, rc14, gr14_0, gr14_1, gr14_2, gr14_3, gr14_4, gr14_5, rc19, gr19_0, gr19_1, gr19_2, gr19_3, rc22, gr22_0, gr22_1, gr22_2, gr22_3, Option.bind_some, n_0, n_1, n_2, n_3, n_4, n_5, n_6, n_8, n_9, n_10, n_12, n_20, n_25, n_27, n_30, n_31, n_32, n_40, n_48, n_57, n_59, n_63, n_96, n_97, n_120, n_122, n_255, n_256, n_300, n_301, n_512, n_1000, n_1001, n_1002, n_1003, n_1004, n_1005, n_2000, n_2304, n_4096, nI_add, pk_mul, n_m, c_ge, c_gt, c_lt, c_le, c_eq, c_ne, d_lt, d_ge, d_ne, d_eq, d_gt, d_le, m_ltk, m_gek, m_eq, m_ne, rI17, wI17, h17, tw_e hc1 (by omega : 6 ≤ F) (q15 (l := l) (s := s) (d := d) (tl := tl)) (by decide) (by omega : 0 + n ≤ 5) htn]
    rw [if_neg (by omega)]
    refine ⟨_, rfl, ?_, fun c hc => (rwJ_ne hc).trans (k2 c hc)⟩
    rw [take_c ht]
    exact wt_turn k1 htn
/-- shortestBetween -/
theorem sh_e (hc : cl_n n A I) (hk : kp n A els I J) (hF : 100 ≤ F) {L R : Nat} (hL : L < 32) (hR : R < 32) {y z1 z2 : List Nat} (hb : els[b]? = some y) (hz1 : tk n A (bt R) y z1) (hz2 : tk n A (bt L) (y ++ z1).reverse z2) :
    Tr (hs l s d tl) (e95 F 14 (nI b) (nI L) (nI R) (mkH (hs l s d tl) I J)) (fun v I' J' => v = nI (cx_l n A ((y ++ z1).reverse ++ z2)) ∧ (∀ c, c ≠ 17 → I' c = I c) ∧ ∀ c, c ≠ 15 → J' c = J c) := by
  have hok := hc.1
  have hn := hc.2.2.2.1
  have hn5 := hc.2.2.1
  obtain ⟨yc, yL, yl, y20, b40, yb⟩ := kp_c hk hb
  have hlen := tk_len hok yL hz1
  have hL1 := cx_L_app yL hlen.1
  have hlen2 := tk_len hok (cx_L_rev hL1) hz2
  rw [cx_l_rev hok hL1] at hlen2
  show Tr _ (m95_0 F 14 _ _ _ _) _
  unfold m95_0
  simp (disch := omega) only [rc0, gr0_0, gr0_1, gr0_2, gr0_3, gr0_4, gr0_5, gr0_6, gi0_7, pi0_7, rc1, gi1_0, pi1_0, gr1_1, gr1_2, rc4, gr4_0, gi4_1, pi4_1, gi4_2, pi4_2, gi4_3, pi4_3, gi4_4, pi4_4, gi4_5, pi4_5, gr4_6, gr4_7, rc8, gr8_0, gi8_1, pi8_1, gr8_2, gr8_3, gr8_4, gr8_5, gr8_6, rc14, gr14_0, gr14_1, gr14_2, gr14_3, gr14_4, gr14_5, rc19, gr19_0, gr19_1, gr19_2, gr19_3, rc22, gr22_0, gr22_1, gr22_2, gr22_3, Option.bind_some, n_0, n_1, n_2, n_3, n_4, n_5, n_6, n_8, n_9, n_10, n_12, n_20, n_25, n_27, n_30, n_31, n_32, n_40, n_48, n_57, n_59, n_63, n_96, n_97, n_120, n_122, n_255, n_256, n_300, n_301, n_512, n_1000, n_1001, n_1002, n_1003, n_1004, n_1005, n_2000, n_2304, n_4096, nI_add, pk_mul, n_m, c_ge, c_gt, c_lt, c_le, c_eq, c_ne, d_lt, d_ge, d_ne, d_eq, d_gt, d_le, m_ltk, m_gek, m_eq, m_ne, cr_e hn hn5 (by omega : 6 ≤ F) (q12 (l := l) (s := s) (d := d) (tl := tl)) q15 (by decide) (by decide) (by omega : b * 5 + n ≤ 200) (by omega : 0 + n ≤ 5) (Or.inl (by decide))]
  obtain ⟨v, I1, J1, e1, h1, h2, h3, h4, h5⟩ := td_e (l := l) (s := s) (d := d) (tl := tl) (F := F) (I := I) (J := rwJ J 15 0 n (fun j => J 12 (b * 5 + j))) hc (by omega) hR yL (by omega) hz1 (wt_cp (hk.2.2.2.2 b y hb).2.2.2.2.2)
  rw [e1]
  simp (disch := omega) only [rc0, gr0_0, gr0_1, gr0_2, gr0_3, gr0_4, gr0_5, gr0_6, gi0_7, pi0_7, rc1, gi1_0, pi1_0, gr1_1, gr1_2, rc4, gr4_0, gi4_1, pi4_1, gi4_2, pi4_2, gi4_3, pi4_3, gi4_4, pi4_4, gi4_5, pi4_5, gr4_6, gr4_7, rc8, gr8_0, gi8_1, pi8_1, gr8_2, gr8_3, gr8_4, gr8_5, gr8_6, rc14, gr14_0, gr14_1, gr14_2, gr14_3, gr14_4, gr14_5, rc19, gr19_0, gr19_1, gr19_2, gr19_3, rc22, gr22_0, gr22_1, gr22_2, gr22_3, Option.bind_some]
  have hc1 : cl_n n A I1 := cl_fr hc (h4 1 (by decide)) (h4 3 (by decide))
  obtain ⟨v2, I2, J2, e2, k1, k2, k3, k4⟩ := to_e (l := l) (s := s) (d := d) (tl := tl) (F := F) (I := I1) (J := J1) hc1 hF hL1 (by omega) h3
  rw [e2]
  simp (disch := omega) only [rc0, gr0_0, gr0_1, gr0_2, gr0_3, gr0_4, gr0_5, gr0_6, gi0_7, pi0_7, rc1, gi1_0, pi1_0, gr1_1, gr1_2, rc4, gr4_0, gi4_1, pi4_1, gi4_2, pi4_2, gi4_3, pi4_3, gi4_4, pi4_4, gi4_5, pi4_5, gr4_6, gr4_7, rc8, gr8_0, gi8_1, pi8_1, gr8_2, gr8_3, gr8_4, gr8_5, gr8_6, rc14, gr14_0, gr14_1, gr14_2, gr14_3, gr14_4, gr14_5, rc19, gr19_0, gr19_1, gr19_2, gr19_3, rc22, gr22_0, gr22_1, gr22_2, gr22_3, Option.bind_some]
  have hc2 : cl_n n A I2 := cl_fr hc1 (k3 1 (by decide)) (k3 3 (by decide))
  obtain ⟨v3, I3, J3, e3, m1, m2, m3, m4, m5⟩ := td_e (l := l) (s := s) (d := d) (tl := tl) (F := F) (I := I2) (J := J2) hc2 (by omega) hL (cx_L_rev hL1) (by rw [cx_l_rev hok hL1]; omega) hz2 k2
  rw [e3]
  simp only [Option.bind_some]
  refine Tr_ret ⟨?_, fun c hc => ((m4 c hc).trans (k3 c hc)).trans (h4 c hc), fun c hc => (((m5 c hc).trans (k4 c hc)).trans (h5 c hc)).trans (rwJ_ne hc)⟩
  rw [k1, m1, pk_sub (by omega)]
  congr 1
  omega
/-- standsBelow -/
theorem st_e (hc : cl_n n A I) (hk : kp n A els I J) (hF : 100 ≤ F) {u y : List Nat} (ha : els[a]? = some u) (hb : els[b]? = some y) :
    Tr (hs l s d tl) (e96 F 14 (nI a) (nI b) (mkH (hs l s d tl) I J)) (fun v I' J' => ((v = nI 1 ∧ sbw n A u y) ∨ (v = nI 0 ∧ ¬ sbw n A u y)) ∧ I' = I ∧ ∀ c, c ≠ 15 → J' c = J c) := by
  have hok := hc.1
  have hn := hc.2.2.2.1
  have hn5 := hc.2.2.1
  obtain ⟨uc, uL, ul, u20, a40, ua⟩ := kp_c hk ha
  obtain ⟨yc, yL, yl, y20, b40, yb⟩ := kp_c hk hb
  show Tr _ (m96_0 F 14 _ _ _) _
  unfold m96_0
  simp (disch := omega) only [rc0, gr0_0, gr0_1, gr0_2, gr0_3, gr0_4, gr0_5, gr0_6, gi0_7, pi0_7, rc1, gi1_0, pi1_0, gr1_1, gr1_2, rc4, gr4_0, gi4_1, pi4_1, gi4_2, pi4_2, gi4_3, pi4_3, gi4_4, pi4_4, gi4_5, pi4_5, gr4_6, gr4_7, rc8, gr8_0, gi8_1, pi8_1, gr8_2, gr8_3, gr8_4, gr8_5, gr8_6, rc14, gr14_0, gr14_1, gr14_2, gr14_3, gr14_4, gr14_5, rc19, gr19_0, gr19_1, gr19_2, gr19_3, rc22, gr22_0, gr22_1, gr22_2, gr22_3, Option.bind_some, n_0, n_1, n_2, n_3, n_4, n_5, n_6, n_8, n_9, n_10, n_12, n_20, n_25, n_27, n_30, n_31, n_32, n_40, n_48, n_57, n_59, n_63, n_96, n_97, n_120, n_122, n_255, n_256, n_300, n_301, n_512, n_1000, n_1001, n_1002, n_1003, n_1004, n_1005, n_2000, n_2304, n_4096, nI_add, pk_mul, n_m, c_ge, c_gt, c_lt, c_le, c_eq, c_ne, d_lt, d_ge, d_ne, d_eq, d_gt, d_le, m_ltk, m_gek, m_eq, m_ne, cr_e hn hn5 (by omega : 6 ≤ F) (q11 (l := l) (s := s) (d := d) (tl := tl)) q15 (by decide) (by decide) (by omega : a * 5 + n ≤ 200) (by omega : 0 + n ≤ 5) (Or.inl (by decide))]
  refine lpc (fun f k (x : hJ × List Nat) => m96_24 F f 14 (nI b) (nI k) (mkH (hs l s d tl) I x.1)) y.length (fun k x => cx_L n x.2 ∧ cx_l n A x.2 ≤ 20 ∧ wt n A x.2 (x.1 15) 0 ∧ (∀ c, c ≠ 15 → x.1 c = J c) ∧ (sbw n A u y ↔ gb n A x.2 (y.drop k))) (fun r => Tr (hs l s d tl) r _) ?_ ?_ F 0 (rwJ J 15 0 n (fun j => J 11 (a * 5 + j)), u.reverse) (by omega) (by omega) ⟨cx_L_rev uL, by rw [cx_l_rev hok uL]; omega, by dsimp only; exact wt_cp (hk.2.2.2.2 a u ha).2.2.2.2.1, fun c hc => by dsimp only; exact rwJ_ne hc, (gb_l hok uL yL).symm⟩
  · rintro f ⟨K, x⟩ ⟨h1, h2, h3, h4, h5⟩
    dsimp only at h1 h2 h3 h4 h5
    rw [List.drop_length] at h5
    obtain ⟨v, hv, hlst⟩ := lb_e (l := l) (s := s) (d := d) (tl := tl) (F := F) (I := I) (J := K) (o := 0) hn hn5 (by omega) q15 (by decide) (by omega) (all32 n hn5)
    show Tr _ (m96_24 F (f + 1) _ _ _ _) _
    rw [m96_24]
    simp (disch := omega) only [rc0, gr0_0, gr0_1, gr0_2, gr0_3, gr0_4, gr0_5, gr0_6, gi0_7, pi0_7, rc1, gi1_0, pi1_0, gr1_1, gr1_2, rc4, gr4_0, gi4_1, pi4_1, gi4_2, pi4_2, gi4_3, pi4_3, gi4_4, pi4_4, gi4_5, pi4_5, gr4_6, gr4_7, rc8, gr8_0, gi8_1, pi8_1, gr8_2, gr8_3, gr8_4, gr8_5, gr8_6, rc14, gr14_0, gr14_1, gr14_2, gr14_3, gr14_4, gr14_5, rc19, gr19_0, gr19_1, gr19_2, gr19_3, rc22, gr22_0, gr22_1, gr22_2, gr22_3, Option.bind_some, n_0, n_1, n_2, n_3, n_4, n_5, n_6, n_8, n_9, n_10, n_12, n_20, n_25, n_27, n_30, n_31, n_32, n_40, n_48, n_57, n_59, n_63, n_96, n_97, n_120, n_122, n_255, n_256, n_300, n_301, n_512, n_1000, n_1001, n_1002, n_1003, n_1004, n_1005, n_2000, n_2304, n_4096, nI_add, pk_mul, n_m, c_ge, c_gt, c_lt, c_le, c_eq, c_ne, d_lt, d_ge, d_ne, d_eq, d_gt, d_le, m_ltk, m_gek, m_eq, m_ne, rI10, wI10, yb, am_e hn hn5 hc.2.1, hv, g_ne]
    rw [if_pos (by omega)]
    unfold m96_108
    have hz : gb n A x [] ↔ cx_l n A x = 0 := Iff.rfl
    rw [hz] at h5
    rcases hlst with ⟨j, j1, j2, j3, j4⟩ | ⟨j1, j2⟩
    · rw [if_pos (by rw [j2]; exact Ne.symm (gI_nI (by omega) (by omega) (by omega))), n_0, if_pos (Or.inl rfl)]
      refine Tr_ret ⟨Or.inr ⟨rfl, fun h => ?_⟩, rfl, h4⟩
      have := (wt_dn hok h1 (by omega) h3 j1).mp j3.1
      unfold dn at this
      have := h5.mp h
      omega
    · rw [if_neg (fun h => h j1), n_1, if_pos (Or.inr rfl)]
      refine Tr_ret ⟨Or.inl ⟨rfl, h5.mpr ?_⟩, rfl, h4⟩
      apply Classical.byContradiction
      intro h
      obtain ⟨t, ht, hd⟩ := cx_ex_dn hok h1 h
      exact j2 t ht ⟨(wt_dn hok h1 (by omega) h3 ht).mpr hd, allbit n hn5 t ht⟩
  · rintro f k ⟨K, x⟩ hky ⟨h1, h2, h3, h4, h5⟩
    dsimp only at h1 h2 h3 h4 h5
    right
    obtain ⟨t, ht⟩ := ex_at hky
    have htn := cx_L_at yL ht
    rw [drop_c ht] at h5
    have hd := wt_dn hok h1 (by omega) h3 htn
    rw [Nat.zero_add] at hd
    have hkK := kp_fr (n := n) (A := A) hk (I' := I) (J' := K) rfl rfl rfl (h4 11 (by decide)) (h4 12 (by decide))
    show ∃ y, m96_24 F (f + 1) _ _ _ _ = _ ∧ _
    rw [m96_24]
    simp (disch := omega) only [rc0, gr0_0, gr0_1, gr0_2, gr0_3, gr0_4, gr0_5, gr0_6, gi0_7, pi0_7, rc1, gi1_0, pi1_0, gr1_1, gr1_2, rc4, gr4_0, gi4_1, pi4_1, gi4_2, pi4_2, gi4_3, pi4_3, gi4_4, pi4_4, gi4_5, pi4_5, gr4_6, gr4_7, rc8, gr8_0, gi8_1, pi8_1, gr8_2, gr8_3, gr8_4, gr8_5, gr8_6, rc14, gr14_0, gr14_1, gr14_2, gr14_3, gr14_4, gr14_5, rc19, gr19_0, gr19_1, gr19_2, gr19_3, rc22, gr22_0, gr22_1, gr22_2, gr22_3, Option.bind_some, n_0, n_1, n_2, n_3, n_4, n_5, n_6, n_8, n_9, n_10, n_12, n_20, n_25, n_27, n_30, n_31, n_32, n_40, n_48, n_57, n_59, n_63, n_96, n_97, n_120, n_122, n_255, n_256, n_300, n_301, n_512, n_1000, n_1001, n_1002, n_1003, n_1004, n_1005, n_2000, n_2304, n_4096, nI_add, pk_mul, n_m, c_ge, c_gt, c_lt, c_le, c_eq, c_ne, d_lt, d_ge, d_ne, d_eq, d_gt, d_le, m_ltk, m_gek, m_eq, m_ne, rI10, wI10, rJ15, wJ15, yb, lo_e hkK hb ht, k_ge]
    rw [if_neg (by omega)]
    unfold m96_74
    by_cases hdn : dn n A x t
    · rw [if_neg (fun h => h (hd.mpr hdn))]
      simp (disch := omega) only [rc0, gr0_0, gr0_1, gr0_2, gr0_3, gr0_4, gr0_5, gr0_6, gi0_7, pi0_7, rc1, gi1_0, pi1_0, gr1_1, gr1_2, rc4, gr4_0, gi4_1, pi4_1, gi4_2, pi4_2, gi4_3, pi4_3, gi4_4, pi4_4, gi4_5, pi4_5, gr4_6, gr4_7, rc8, gr8_0, gi8_1, pi8_1, gr8_2, gr8_3, gr8_4, gr8_5, gr8_6, rc14, gr14_0, gr14_1, gr14_2, gr14_3, gr14_4, gr14_5, rc19, gr19_0, gr19_1, gr19_2, gr19_3, rc22, gr22_0, gr22_1, gr22_2, gr22_3, Option.bind_some, n_0, n_1, n_2, n_3, n_4, n_5, n_6, n_8, n_9, n_10, n_12, n_20, n_25, n_27, n_30, n_31, n_32, n_40, n_48, n_57, n_59, n_63, n_96, n_97, n_120, n_122, n_255, n_256, n_300, n_301, n_512, n_1000, n_1001, n_1002, n_1003, n_1004, n_1005, n_2000, n_2304, n_4096, nI_add, pk_mul, n_m, c_ge, c_gt, c_lt, c_le, c_eq, c_ne, d_lt, d_ge, d_ne, d_eq, d_gt, d_le, m_ltk, m_gek, m_eq, m_ne, tw_e hc (by omega : 6 ≤ F) (q15 (l := l) (s := s) (d := d) (tl := tl)) (by decide) (by omega : 0 + n ≤ 5) htn, Prod.exists]
      refine ⟨_, x ++ [t], rfl, cx_L_app h1 (cx_L_1 htn), by have := dn_1 hok h1 htn hdn; omega, wt_turn h3 htn, fun c hc => (rwJ_ne hc).trans (h4 c hc), ?_⟩
      rw [h5]
      exact ⟨fun h => h.1 hdn, fun h => ⟨fun _ => h, fun h2 => absurd hdn h2⟩⟩
    · rw [if_pos (fun h => hdn (hd.mp h))]
      simp (disch := omega) only [n_0, n_1, n_2, n_3, n_4, n_5, n_6, n_8, n_9, n_10, n_12, n_20, n_25, n_27, n_30, n_31, n_32, n_40, n_48, n_57, n_59, n_63, n_96, n_97, n_120, n_122, n_255, n_256, n_300, n_301, n_512, n_1000, n_1001, n_1002, n_1003, n_1004, n_1005, n_2000, n_2304, n_4096, nI_add, pk_mul, n_m, c_ge, c_gt, c_lt, c_le, c_eq, c_ne, d_lt, d_ge, d_ne, d_eq, d_gt, d_le, m_ltk, m_gek, m_eq, m_ne, Prod.exists]
      refine ⟨_, x, rfl, h1, h2, h3, h4, ?_⟩
      rw [h5]
      exact ⟨fun h => h.2 hdn, fun h => ⟨fun h2 => absurd h2 hdn, fun _ => h⟩⟩
theorem er_app (y : List Nat) (i : Nat) : y.eraseIdx i = y.take i ++ y.drop (i + 1) := List.eraseIdx_eq_take_drop_succ y i
/-- staysShortest -/
theorem ss_e (hc : cl_n n A I) (hk : kp n A els I J) (hF : 100 ≤ F) {y : List Nat} (hb : els[b]? = some y) {i : Nat} (hi : i < y.length) (hw : wt n A (y.take i) (J 16) 0) :
    Tr (hs l s d tl) (e98 F 14 (nI b) (nI i) (mkH (hs l s d tl) I J)) (fun v I' J' => ((v = nI 1 ∧ cx_l n A (y.eraseIdx i) + 1 = y.length) ∨ (v = nI 0 ∧ cx_l n A (y.eraseIdx i) + 1 ≠ y.length)) ∧ I' = I ∧ ∀ c, c ≠ 15 → J' c = J c) := by
  have hok := hc.1
  have hn := hc.2.2.2.1
  have hn5 := hc.2.2.1
  obtain ⟨yc, yL, yl, y20, b40, yb⟩ := kp_c hk hb
  have hr := red_take hok yL yl i
  rw [List.length_take, Nat.min_eq_left (by omega)] at hr
  show Tr _ (m98_0 F 14 _ _ _) _
  unfold m98_0
  simp (disch := omega) only [rc0, gr0_0, gr0_1, gr0_2, gr0_3, gr0_4, gr0_5, gr0_6, gi0_7, pi0_7, rc1, gi1_0, pi1_0, gr1_1, gr1_2, rc4, gr4_0, gi4_1, pi4_1, gi4_2, pi4_2, gi4_3, pi4_3, gi4_4, pi4_4, gi4_5, pi4_5, gr4_6, gr4_7, rc8, gr8_0, gi8_1, pi8_1, gr8_2, gr8_3, gr8_4, gr8_5, gr8_6, rc14, gr14_0, gr14_1, gr14_2, gr14_3, gr14_4, gr14_5, rc19, gr19_0, gr19_1, gr19_2, gr19_3, rc22, gr22_0, gr22_1, gr22_2, gr22_3, Option.bind_some, n_0, n_1, n_2, n_3, n_4, n_5, n_6, n_8, n_9, n_10, n_12, n_20, n_25, n_27, n_30, n_31, n_32, n_40, n_48, n_57, n_59, n_63, n_96, n_97, n_120, n_122, n_255, n_256, n_300, n_301, n_512, n_1000, n_1001, n_1002, n_1003, n_1004, n_1005, n_2000, n_2304, n_4096, nI_add, pk_mul, n_m, c_ge, c_gt, c_lt, c_le, c_eq, c_ne, d_lt, d_ge, d_ne, d_eq, d_gt, d_le, m_ltk, m_gek, m_eq, m_ne, cr_e hn hn5 (by omega : 6 ≤ F) (q16 (l := l) (s := s) (d := d) (tl := tl)) q15 (by decide) (by decide) (by omega : 0 + n ≤ 5) (by omega : 0 + n ≤ 5) (Or.inl (by decide))]
  have L1 := take_L yL i
  have L2 := drop_L yL (i + 1)
  refine lpc (fun f k (K : hJ) => m98_21 F f 14 (nI b) (nI k) (mkH (hs l s d tl) I K)) y.length (fun k K => i + 1 ≤ k ∧ wt n A (y.take i ++ (y.drop (i + 1)).take (k - (i + 1))) (K 15) 0 ∧ cx_l n A (y.take i ++ (y.drop (i + 1)).take (k - (i + 1))) + 1 = k ∧ (∀ c, c ≠ 15 → K c = J c)) (fun r => Tr (hs l s d tl) r _) ?_ ?_ F (i + 1) (rwJ J 15 0 n (fun j => J 16 (0 + j))) (by omega) (by omega) ⟨Nat.le_refl _, by rw [Nat.sub_self, List.take_zero, List.append_nil]; exact wt_cp hw, by rw [Nat.sub_self, List.take_zero, List.append_nil]; omega, fun c hc => rwJ_ne hc⟩
  · rintro f K ⟨h0, h1, h2, h3⟩
    have e : (y.drop (i + 1)).take (y.length - (i + 1)) = y.drop (i + 1) := by rw [← List.length_drop, List.take_length]
    rw [e, ← er_app] at h1 h2
    show Tr _ (m98_21 F (f + 1) _ _ _ _) _
    rw [m98_21]
    simp (disch := omega) only [rc0, gr0_0, gr0_1, gr0_2, gr0_3, gr0_4, gr0_5, gr0_6, gi0_7, pi0_7, rc1, gi1_0, pi1_0, gr1_1, gr1_2, rc4, gr4_0, gi4_1, pi4_1, gi4_2, pi4_2, gi4_3, pi4_3, gi4_4, pi4_4, gi4_5, pi4_5, gr4_6, gr4_7, rc8, gr8_0, gi8_1, pi8_1, gr8_2, gr8_3, gr8_4, gr8_5, gr8_6, rc14, gr14_0, gr14_1, gr14_2, gr14_3, gr14_4, gr14_5, rc19, gr19_0, gr19_1, gr19_2, gr19_3, rc22, gr22_0, gr22_1, gr22_2, gr22_3, Option.bind_some, n_0, n_1, n_2, n_3, n_4, n_5, n_6, n_8, n_9, n_10, n_12, n_20, n_25, n_27, n_30, n_31, n_32, n_40, n_48, n_57, n_59, n_63, n_96, n_97, n_120, n_122, n_255, n_256, n_300, n_301, n_512, n_1000, n_1001, n_1002, n_1003, n_1004, n_1005, n_2000, n_2304, n_4096, nI_add, pk_mul, n_m, c_ge, c_gt, c_lt, c_le, c_eq, c_ne, d_lt, d_ge, d_ne, d_eq, d_gt, d_le, m_ltk, m_gek, m_eq, m_ne, rI10, wI10, yb]
    rw [if_pos (by omega)]
    exact Tr_ret ⟨Or.inl ⟨rfl, h2⟩, rfl, h3⟩
  · rintro f k K hky ⟨h0, h1, h2, h3⟩
    obtain ⟨t, ht⟩ := ex_at hky
    have htn := cx_L_at yL ht
    have ht2 : (y.drop (i + 1))[k - (i + 1)]? = some t := by
      rw [List.getElem?_drop, ← ht]
      congr 1
      omega
    have L3 := cx_L_app L1 (take_L L2 (k - (i + 1)))
    have hd := wt_dn hok L3 (by omega) h1 htn
    rw [Nat.zero_add] at hd
    have hkK := kp_fr (n := n) (A := A) hk (I' := I) (J' := K) rfl rfl rfl (h3 11 (by decide)) (h3 12 (by decide))
    show Tr _ (m98_21 F (f + 1) _ _ _ _) _ ∨ ∃ y, m98_21 F (f + 1) _ _ _ _ = _ ∧ _
    rw [m98_21]
    simp (disch := omega) only [rc0, gr0_0, gr0_1, gr0_2, gr0_3, gr0_4, gr0_5, gr0_6, gi0_7, pi0_7, rc1, gi1_0, pi1_0, gr1_1, gr1_2, rc4, gr4_0, gi4_1, pi4_1, gi4_2, pi4_2, gi4_3, pi4_3, gi4_4, pi4_4, gi4_5, pi4_5, gr4_6, gr4_7, rc8, gr8_0, gi8_1, pi8_1, gr8_2, gr8_3, gr8_4, gr8_5, gr8_6, rc14, gr14_0, gr14_1, gr14_2, gr14_3, gr14_4, gr14_5, rc19, gr19_0, gr19_1, gr19_2, gr19_3, rc22, gr22_0, gr22_1, gr22_2, gr22_3, Option.bind_some, n_0, n_1, n_2, n_3, n_4, n_5, n_6, n_8, n_9, n_10, n_12, n_20, n_25, n_27, n_30, n_31, n_32, n_40, n_48, n_57, n_59, n_63, n_96, n_97, n_120, n_122, n_255, n_256, n_300, n_301, n_512, n_1000, n_1001, n_1002, n_1003, n_1004, n_1005, n_2000, n_2304, n_4096, nI_add, pk_mul, n_m, c_ge, c_gt, c_lt, c_le, c_eq, c_ne, d_lt, d_ge, d_ne, d_eq, d_gt, d_le, m_ltk, m_gek, m_eq, m_ne, rI10, wI10, rJ15, wJ15, yb, lo_e hkK hb ht, k_ge]
    rw [if_neg (by omega)]
    have ek : k + 1 - (i + 1) = k - (i + 1) + 1 := by omega
    by_cases hdn : dn n A (y.take i ++ (y.drop (i + 1)).take (k - (i + 1))) t
    · rw [if_neg (fun h => h (hd.mpr hdn))]
      left
      refine Tr_ret ⟨Or.inr ⟨rfl, fun h => ?_⟩, rfl, h3⟩
      rw [er_app] at h
      refine (cx_red_l hok L1 L2 ?_).2 ⟨k - (i + 1), t, ht2, hdn⟩
      rw [List.length_append, List.length_take, List.length_drop, Nat.min_eq_left (by omega)]
      omega
    · rw [if_pos (fun h => hdn (hd.mp h))]
      right
      simp (disch := omega) only [rc0, gr0_0, gr0_1, gr0_2, gr0_3, gr0_4, gr0_5, gr0_6, gi0_7, pi0_7, rc1, gi1_0, pi1_0, gr1_1, gr1_2, rc4, gr4_0, gi4_1, pi4_1, gi4_2, pi4_2, gi4_3, pi4_3, gi4_4, pi4_4, gi4_5, pi4_5, gr4_6, gr4_7, rc8, gr8_0, gi8_1, pi8_1, gr8_2, gr8_3, gr8_4, gr8_5, gr8_6, rc14, gr14_0, gr14_1, gr14_2, gr14_3, gr14_4, gr14_5, rc19, gr19_0, gr19_1, gr19_2, gr19_3, rc22, gr22_0, gr22_1, gr22_2, gr22_3, Option.bind_some, n_0, n_1, n_2, n_3, n_4, n_5, n_6, n_8, n_9, n_10, n_12, n_20, n_25, n_27, n_30, n_31, n_32, n_40, n_48, n_57, n_59, n_63, n_96, n_97, n_120, n_122, n_255, n_256, n_300, n_301, n_512, n_1000, n_1001, n_1002, n_1003, n_1004, n_1005, n_2000, n_2304, n_4096, nI_add, pk_mul, n_m, c_ge, c_gt, c_lt, c_le, c_eq, c_ne, d_lt, d_ge, d_ne, d_eq, d_gt, d_le, m_ltk, m_gek, m_eq, m_ne, tw_e hc (by omega : 6 ≤ F) (q15 (l := l) (s := s) (d := d) (tl := tl)) (by decide) (by omega : 0 + n ≤ 5) htn]
      refine ⟨_, rfl, by omega, ?_, ?_, fun c hc => (rwJ_ne hc).trans (h3 c hc)⟩
      · rw [ek, take_app ht2]
        exact wt_turn h1 htn
      · rw [ek, take_app ht2]
        have := up_1 hok L3 htn hdn
        omega
/-- countCovers -/
theorem cc_e (hc : cl_n n A I) (hk : kp n A els I J) (hF : 200 ≤ F) {y : List Nat} (hb : els[b]? = some y) :
    Tr (hs l s d tl) (e97 F 14 (nI b) (mkH (hs l s d tl) I J)) (fun v I' J' => v = nI (cvn n A y y.length) ∧ I' = I ∧ ∀ c, c ≠ 15 → c ≠ 16 → J' c = J c) := by
  have hok := hc.1
  have hn := hc.2.2.2.1
  have hn5 := hc.2.2.1
  obtain ⟨yc, yL, yl, y20, b40, yb⟩ := kp_c hk hb
  show Tr _ (m97_0 F 14 _ _) _
  unfold m97_0
  simp (disch := omega) only [rc0, gr0_0, gr0_1, gr0_2, gr0_3, gr0_4, gr0_5, gr0_6, gi0_7, pi0_7, rc1, gi1_0, pi1_0, gr1_1, gr1_2, rc4, gr4_0, gi4_1, pi4_1, gi4_2, pi4_2, gi4_3, pi4_3, gi4_4, pi4_4, gi4_5, pi4_5, gr4_6, gr4_7, rc8, gr8_0, gi8_1, pi8_1, gr8_2, gr8_3, gr8_4, gr8_5, gr8_6, rc14, gr14_0, gr14_1, gr14_2, gr14_3, gr14_4, gr14_5, rc19, gr19_0, gr19_1, gr19_2, gr19_3, rc22, gr22_0, gr22_1, gr22_2, gr22_3, Option.bind_some, n_0, n_1, n_2, n_3, n_4, n_5, n_6, n_8, n_9, n_10, n_12, n_20, n_25, n_27, n_30, n_31, n_32, n_40, n_48, n_57, n_59, n_63, n_96, n_97, n_120, n_122, n_255, n_256, n_300, n_301, n_512, n_1000, n_1001, n_1002, n_1003, n_1004, n_1005, n_2000, n_2304, n_4096, nI_add, pk_mul, n_m, c_ge, c_gt, c_lt, c_le, c_eq, c_ne, d_lt, d_ge, d_ne, d_eq, d_gt, d_le, m_ltk, m_gek, m_eq, m_ne, sw_e hn hn5 (by omega : 6 ≤ F) (q16 (l := l) (s := s) (d := d) (tl := tl)) (by decide) (by omega : 0 + n ≤ 5)]
  refine lpc (fun f k (K : hJ) => m97_16 F f 14 (nI b) (nI (cvn n A y k)) (nI k) (mkH (hs l s d tl) I K)) y.length (fun k K => wt n A (y.take k) (K 16) 0 ∧ (∀ c, c ≠ 15 → c ≠ 16 → K c = J c)) (fun r => Tr (hs l s d tl) r _) ?_ ?_ F 0 (rwJ J 16 0 n (fun _ => zJ 1)) (by omega) (by omega) ⟨wt_nil, fun c _ hc => rwJ_ne hc⟩
  · rintro f K ⟨h1, h2⟩
    show Tr _ (m97_16 F (f + 1) _ _ _ _ _) _
    rw [m97_16]
    simp (disch := omega) only [rc0, gr0_0, gr0_1, gr0_2, gr0_3, gr0_4, gr0_5, gr0_6, gi0_7, pi0_7, rc1, gi1_0, pi1_0, gr1_1, gr1_2, rc4, gr4_0, gi4_1, pi4_1, gi4_2, pi4_2, gi4_3, pi4_3, gi4_4, pi4_4, gi4_5, pi4_5, gr4_6, gr4_7, rc8, gr8_0, gi8_1, pi8_1, gr8_2, gr8_3, gr8_4, gr8_5, gr8_6, rc14, gr14_0, gr14_1, gr14_2, gr14_3, gr14_4, gr14_5, rc19, gr19_0, gr19_1, gr19_2, gr19_3, rc22, gr22_0, gr22_1, gr22_2, gr22_3, Option.bind_some, n_0, n_1, n_2, n_3, n_4, n_5, n_6, n_8, n_9, n_10, n_12, n_20, n_25, n_27, n_30, n_31, n_32, n_40, n_48, n_57, n_59, n_63, n_96, n_97, n_120, n_122, n_255, n_256, n_300, n_301, n_512, n_1000, n_1001, n_1002, n_1003, n_1004, n_1005, n_2000, n_2304, n_4096, nI_add, pk_mul, n_m, c_ge, c_gt, c_lt, c_le, c_eq, c_ne, d_lt, d_ge, d_ne, d_eq, d_gt, d_le, m_ltk, m_gek, m_eq, m_ne, rI10, wI10, yb]
    rw [if_pos (by omega)]
    exact Tr_ret ⟨rfl, rfl, h2⟩
  · rintro f k K hky ⟨h1, h2⟩
    right
    obtain ⟨t, ht⟩ := ex_at hky
    have htn := cx_L_at yL ht
    have hkK := kp_fr (n := n) (A := A) hk (I' := I) (J' := K) rfl rfl rfl (h2 11 (by decide) (by decide)) (h2 12 (by decide) (by decide))
    have hcv := cvn_le (n := n) (A := A) y k
    obtain ⟨v, I1, K1, e1, k1, k2, k3⟩ := ss_e (l := l) (s := s) (d := d) (tl := tl) (F := F) hc hkK (by omega) hb hky h1
    subst k2
    have hkK1 := kp_fr (n := n) (A := A) hkK (I' := I1) (J' := K1) rfl rfl rfl (k3 11 (by decide)) (k3 12 (by decide))
    show ∃ y, m97_16 F (f + 1) _ _ _ _ _ = _ ∧ _
    rw [m97_16]
    simp (disch := omega) only [rc0, gr0_0, gr0_1, gr0_2, gr0_3, gr0_4, gr0_5, gr0_6, gi0_7, pi0_7, rc1, gi1_0, pi1_0, gr1_1, gr1_2, rc4, gr4_0, gi4_1, pi4_1, gi4_2, pi4_2, gi4_3, pi4_3, gi4_4, pi4_4, gi4_5, pi4_5, gr4_6, gr4_7, rc8, gr8_0, gi8_1, pi8_1, gr8_2, gr8_3, gr8_4, gr8_5, gr8_6, rc14, gr14_0, gr14_1, gr14_2, gr14_3, gr14_4, gr14_5, rc19, gr19_0, gr19_1, gr19_2, gr19_3, rc22, gr22_0, gr22_1, gr22_2, gr22_3, Option.bind_some, n_0, n_1, n_2, n_3, n_4, n_5, n_6, n_8, n_9, n_10, n_12, n_20, n_25, n_27, n_30, n_31, n_32, n_40, n_48, n_57, n_59, n_63, n_96, n_97, n_120, n_122, n_255, n_256, n_300, n_301, n_512, n_1000, n_1001, n_1002, n_1003, n_1004, n_1005, n_2000, n_2304, n_4096, nI_add, pk_mul, n_m, c_ge, c_gt, c_lt, c_le, c_eq, c_ne, d_lt, d_ge, d_ne, d_eq, d_gt, d_le, m_ltk, m_gek, m_eq, m_ne, rI10, wI10, yb, e1]
    rw [if_neg (by omega)]
    unfold m97_41
    simp (disch := omega) only [rc0, gr0_0, gr0_1, gr0_2, gr0_3, gr0_4, gr0_5, gr0_6, gi0_7, pi0_7, rc1, gi1_0, pi1_0, gr1_1, gr1_2, rc4, gr4_0, gi4_1, pi4_1, gi4_2, pi4_2, gi4_3, pi4_3, gi4_4, pi4_4, gi4_5, pi4_5, gr4_6, gr4_7, rc8, gr8_0, gi8_1, pi8_1, gr8_2, gr8_3, gr8_4, gr8_5, gr8_6, rc14, gr14_0, gr14_1, gr14_2, gr14_3, gr14_4, gr14_5, rc19, gr19_0, gr19_1, gr19_2, gr19_3, rc22, gr22_0, gr22_1, gr22_2, gr22_3, Option.bind_some, n_0, n_1, n_2, n_3, n_4, n_5, n_6, n_8, n_9, n_10, n_12, n_20, n_25, n_27, n_30, n_31, n_32, n_40, n_48, n_57, n_59, n_63, n_96, n_97, n_120, n_122, n_255, n_256, n_300, n_301, n_512, n_1000, n_1001, n_1002, n_1003, n_1004, n_1005, n_2000, n_2304, n_4096, nI_add, pk_mul, n_m, c_ge, c_gt, c_lt, c_le, c_eq, c_ne, d_lt, d_ge, d_ne, d_eq, d_gt, d_le, m_ltk, m_gek, m_eq, m_ne, lo_e hkK1 hb ht, tw_e hc (by omega : 6 ≤ F) (q16 (l := l) (s := s) (d := d) (tl := tl)) (by decide) (by omega : 0 + n ≤ 5) htn]
    have hw2 : wt n A (y.take (k + 1)) (rwJ K1 16 0 n (fun j => K1 16 (0 + j) - K1 16 (0 + t) * zJ (A j t)) 16) 0 := by
      rw [take_c ht]
      exact wt_turn (by rw [k3 16 (by decide)]; exact h1) htn
    have hfr : ∀ c, c ≠ 15 → c ≠ 16 → rwJ K1 16 0 n (fun j => K1 16 (0 + j) - K1 16 (0 + t) * zJ (A j t)) c = J c := fun c c1 c2 => ((rwJ_ne c2).trans (k3 c c1)).trans (h2 c c1 c2)
    rcases k1 with ⟨v1, v2⟩ | ⟨v1, v2⟩
    · rw [v1, cvn, if_pos v2]
      simp (disch := omega) only [d_eq]
      rw [if_neg (by omega)]
      exact ⟨_, rfl, hw2, hfr⟩
    · rw [v1, cvn, if_neg v2]
      simp (disch := omega) only [d_eq]
      simp only [if_true]
      exact ⟨_, rfl, hw2, hfr⟩
end S
