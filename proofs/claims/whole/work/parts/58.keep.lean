/-! The class: keepWord. -/
theorem z_m1 : nI 0 - nI 1 = gI 1 := by decide
theorem p_m1 (c : Nat) : nI c + gI 1 = nI c - nI 1 := by
  unfold gI
  rw [Int32.sub_eq_add_neg]
theorem drop_c {x : List Nat} {c t : Nat} (h : x[c]? = some t) : x.drop c = t :: x.drop (c + 1) := by
  obtain ⟨h1, h2⟩ := List.getElem?_eq_some_iff.mp h
  rw [List.drop_eq_getElem_cons h1, h2]
theorem take_c {x : List Nat} {c t : Nat} (h : x[c]? = some t) : x.take (c + 1) = x.take c ++ [t] := by
  obtain ⟨h1, h2⟩ := List.getElem?_eq_some_iff.mp h
  rw [List.take_succ_eq_append_getElem h1, h2]
theorem ex_at {x : List Nat} {c : Nat} (h : c < x.length) : ∃ t, x[c]? = some t := ⟨x[c], List.getElem?_eq_getElem h⟩
section S
variable {l s d : Value} {tl : List hQ} {F : Nat} {I : hI} {J : hJ} {n a b o p N M : Nat} {A : Nat → Nat → Int} {els : List (List Nat)}
theorem cx_L_at {x : List Nat} (hx : cx_L n x) {c t : Nat} (h : x[c]? = some t) : t < n := hx t (List.mem_of_getElem? h)
theorem kp_lt (hk : kp n A els I J) {w : Nat} {y : List Nat} (h : els[w]? = some y) : w < els.length ∧ w < 40 := by
  have h1 := (List.getElem?_eq_some_iff.mp h).1
  have h2 := hk.2.1
  exact ⟨h1, by omega⟩
/-- a letter of a kept word -/
theorem lo_e (hk : kp n A els I J) {w i t : Nat} {y : List Nat} (hw : els[w]? = some y) (hi : y[i]? = some t) : e17 F 8 (nI w) (nI i) (mkH (hs l s d tl) I J) = some (nI t, (mkH (hs l s d tl) I J)) := by
  have h1 := (kp_lt hk hw).2
  have h2 := (List.getElem?_eq_some_iff.mp hi).1
  have h3 := (hk.2.2.2.2 w y hw).2.1
  show m17_0 F 8 _ _ _ = _
  unfold m17_0
  simp (disch := omega) only [rc0, gr0_0, gr0_1, gr0_2, gr0_3, gr0_4, gr0_5, gr0_6, gi0_7, pi0_7, rc1, gi1_0, pi1_0, gr1_1, gr1_2, rc4, gr4_0, gi4_1, pi4_1, gi4_2, pi4_2, gi4_3, pi4_3, gi4_4, pi4_4, gi4_5, pi4_5, gr4_6, gr4_7, rc8, gr8_0, gi8_1, pi8_1, gr8_2, gr8_3, gr8_4, gr8_5, gr8_6, rc14, gr14_0, gr14_1, gr14_2, gr14_3, gr14_4, gr14_5, rc19, gr19_0, gr19_1, gr19_2, gr19_3, rc22, gr22_0, gr22_1, gr22_2, gr22_3, n_0, n_1, n_2, n_3, n_4, n_5, n_6, n_8, n_9, n_10, n_12, n_20, n_25, n_27, n_30, n_31, n_32, n_40, n_48, n_57, n_59, n_63, n_96, n_97, n_120, n_122, n_255, n_256, n_300, n_301, n_512, n_1000, n_1001, n_1002, n_1003, n_1004, n_1005, n_2000, n_2304, n_4096, nI_add, pk_mul, n_m, c_ge, c_gt, c_lt, c_le, c_eq, c_ne, d_lt, d_ge, d_ne, d_eq, d_gt, d_le, m_ltk, m_gek, m_eq, m_ne, Option.bind_some, rI9, wI9]
  rw [(hk.2.2.2.2 w y hw).2.2.2.1 i t hi]
theorem wl_e (hc : cl_n n A I) (hF : 50 ≤ F) {m : Nat} (hm : m < 40) (h8 : I 8 1 = nI (m + 1)) {x y : List Nat} (hx : cx_L n x) (hy : cx_c n A y) (hg : cx_g n A y = cx_g n A x) (hl : y.length ≤ 20) (hw : wt n A x.reverse (J 13) 0) :
    Tr (hs l s d tl) (e19 F 8 (mkH (hs l s d tl) I J)) (fun _ I' J' => I' 10 m = nI y.length ∧ wd (I' 9) (m * 20) y ∧ wt n A y.reverse (J' 11) (m * 5) ∧ wt n A y (J' 12) (m * 5) ∧ (∀ c, c ≠ 9 → c ≠ 10 → I' c = I c) ∧ (∀ i, i < m * 20 → I' 9 i = I 9 i) ∧ (∀ i, i < m → I' 10 i = I 10 i) ∧ (∀ c, c ≠ 11 → c ≠ 12 → c ≠ 13 → J' c = J c) ∧ (∀ i, i < m * 5 → J' 11 i = J 11 i ∧ J' 12 i = J 12 i)) := by
  have hok := hc.1
  have hn := hc.2.2.2.1
  have hn5 := hc.2.2.1
  have hyL := cx_c_L hy
  have hxr := cx_L_rev hx
  have hlx : cx_l n A x.reverse = y.length := by rw [cx_l_rev hok hx, ← cx_l_eq hg, cx_c_l hy]
  obtain ⟨z, hz⟩ := tk_ex hok (fun _ => True) _ hxr rfl
  have hzy : z = y := by
    have := tk_c hok hxr hz
    rw [List.reverse_reverse] at this
    exact cx_c_un hok this.1 hy (this.2.trans hg.symm)
  subst hzy
  have hgr : cx_g n A x.reverse = cx_g n A z.reverse := cx_g_rev hok hx hyL hg.symm
  show Tr _ (m19_0 F 8 _) _
  unfold m19_0
  simp (disch := omega) only [rc0, gr0_0, gr0_1, gr0_2, gr0_3, gr0_4, gr0_5, gr0_6, gi0_7, pi0_7, rc1, gi1_0, pi1_0, gr1_1, gr1_2, rc4, gr4_0, gi4_1, pi4_1, gi4_2, pi4_2, gi4_3, pi4_3, gi4_4, pi4_4, gi4_5, pi4_5, gr4_6, gr4_7, rc8, gr8_0, gi8_1, pi8_1, gr8_2, gr8_3, gr8_4, gr8_5, gr8_6, rc14, gr14_0, gr14_1, gr14_2, gr14_3, gr14_4, gr14_5, rc19, gr19_0, gr19_1, gr19_2, gr19_3, rc22, gr22_0, gr22_1, gr22_2, gr22_3, Option.bind_some, h8, n_0, n_1, n_2, n_3, n_4, n_5, n_6, n_8, n_9, n_10, n_12, n_20, n_25, n_27, n_30, n_31, n_32, n_40, n_48, n_57, n_59, n_63, n_96, n_97, n_120, n_122, n_255, n_256, n_300, n_301, n_512, n_1000, n_1001, n_1002, n_1003, n_1004, n_1005, n_2000, n_2304, n_4096, nI_add, pk_mul, n_m, c_ge, c_gt, c_lt, c_le, c_eq, c_ne, d_lt, d_ge, d_ne, d_eq, d_gt, d_le, m_ltk, m_gek, m_eq, m_ne, pk_sub1, cr_e hn hn5 (by omega : 6 ≤ F) (q13 (l := l) (s := s) (d := d) (tl := tl)) q11 (by decide) (by decide) (by omega : 0 + n ≤ 5) (by omega : m * 5 + n ≤ 200) (Or.inl (by decide))]
  obtain ⟨v, I1, J1, e1, h1, h2, h3, h4, h5⟩ := spell_e (F := F) (J := rwJ J 11 (m * 5) n fun j => J 13 (0 + j)) (p := m * 20) hc (by omega) (q13 (l := l) (s := s) (d := d) (tl := tl)) (by decide) (by decide) q9 (by decide) (by decide) hxr (by omega) hz (by omega) (by rw [rwJ_ne (by decide)]; exact hw)
  have hc1 : cl_n n A (upI I1 10 m v) := cl_fr hc (by rw [upI_ne (by decide), h3 _ (by decide)]) (by rw [upI_ne (by decide), h3 _ (by decide)])
  have hn1 := hc1.2.2.2.1
  rw [e1]
  simp (disch := omega) only [Option.bind_some, rI10, wI10, rc0, gr0_0, gr0_1, gr0_2, gr0_3, gr0_4, gr0_5, gr0_6, gi0_7, pi0_7, rc1, gi1_0, pi1_0, gr1_1, gr1_2, rc4, gr4_0, gi4_1, pi4_1, gi4_2, pi4_2, gi4_3, pi4_3, gi4_4, pi4_4, gi4_5, pi4_5, gr4_6, gr4_7, rc8, gr8_0, gi8_1, pi8_1, gr8_2, gr8_3, gr8_4, gr8_5, gr8_6, rc14, gr14_0, gr14_1, gr14_2, gr14_3, gr14_4, gr14_5, rc19, gr19_0, gr19_1, gr19_2, gr19_3, rc22, gr22_0, gr22_1, gr22_2, gr22_3, sw_e hn1 hn5 (by omega : 6 ≤ F) (q12 (l := l) (s := s) (d := d) (tl := tl)) (by decide) (by omega : m * 5 + n ≤ 200)]
  have hI1 : upI I1 10 m v 10 m = nI z.length := by rw [upI_at, if_pos rfl, h1]
  refine lpc (fun f k (K : hJ) => m19_64 F f 8 (nI m) (nI k) (mkH (hs l s d tl) (upI I1 10 m v) K)) z.length (fun k K => wt n A (z.take k) (K 12) (m * 5) ∧ (∀ c, c ≠ 12 → K c = J1 c) ∧ ∀ i, i < m * 5 → K 12 i = J1 12 i) (fun r => Tr (hs l s d tl) r _) ?_ ?_ F 0 (rwJ J1 12 (m * 5) n (fun _ => zJ 1)) (by omega) (by omega) ⟨wt_nil, fun c hc => rwJ_ne hc, fun i hi => rwJ_out (o := m * 5) (Or.inl hi)⟩
  · intro f K hK
    show Tr _ (m19_64 F (f + 1) _ _ _ _) _
    rw [m19_64]
    simp (disch := omega) only [rc0, gr0_0, gr0_1, gr0_2, gr0_3, gr0_4, gr0_5, gr0_6, gi0_7, pi0_7, rc1, gi1_0, pi1_0, gr1_1, gr1_2, rc4, gr4_0, gi4_1, pi4_1, gi4_2, pi4_2, gi4_3, pi4_3, gi4_4, pi4_4, gi4_5, pi4_5, gr4_6, gr4_7, rc8, gr8_0, gi8_1, pi8_1, gr8_2, gr8_3, gr8_4, gr8_5, gr8_6, rc14, gr14_0, gr14_1, gr14_2, gr14_3, gr14_4, gr14_5, rc19, gr19_0, gr19_1, gr19_2, gr19_3, rc22, gr22_0, gr22_1, gr22_2, gr22_3, Option.bind_some, rI10, wI10, hI1, n_0, n_1, n_2, n_3, n_4, n_5, n_6, n_8, n_9, n_10, n_12, n_20, n_25, n_27, n_30, n_31, n_32, n_40, n_48, n_57, n_59, n_63, n_96, n_97, n_120, n_122, n_255, n_256, n_300, n_301, n_512, n_1000, n_1001, n_1002, n_1003, n_1004, n_1005, n_2000, n_2304, n_4096, nI_add, pk_mul, n_m, c_ge, c_gt, c_lt, c_le, c_eq, c_ne, d_lt, d_ge, d_ne, d_eq, d_gt, d_le, m_ltk, m_gek, m_eq, m_ne]
    rw [if_pos (by omega)]
    refine Tr_ret ⟨hI1, by rw [upI_ne (by decide)]; exact h2, ?_, ?_, ?_, ?_, ?_, ?_, ?_⟩
    · rw [hK.2.1 11 (by decide), h5 11 (by decide)]
      exact wt_cg hgr (wt_cp hw)
    · have := hK.1
      rw [List.take_length] at this
      exact this
    · intro c c1 c2
      rw [upI_ne c2, h3 c c1]
    · intro i hi
      rw [upI_ne (by decide), h4 i (by omega)]
    · intro i hi
      rw [upI_at, if_neg (by omega), h3 10 (by decide)]
    · intro c c1 c2 c3
      rw [hK.2.1 c c2, h5 c c3, rwJ_ne c1]
    · intro i hi
      refine ⟨?_, ?_⟩
      · rw [hK.2.1 11 (by decide), h5 11 (by decide), rwJ_out (by omega)]
      · rw [hK.2.2 i hi, h5 12 (by decide), rwJ_ne (by decide)]
  · intro f k K hk hK
    right
    obtain ⟨t, ht⟩ := ex_at hk
    have htn := cx_L_at hyL ht
    show ∃ y, m19_64 F (f + 1) _ _ _ _ = _ ∧ _
    rw [m19_64]
    have e17 : e17 F 8 (nI m) (nI k) (mkH (hs l s d tl) (upI I1 10 m v) K) = some (nI t, (mkH (hs l s d tl) (upI I1 10 m v) K)) := by
      show m17_0 F 8 _ _ _ = _
      unfold m17_0
      simp (disch := omega) only [rc0, gr0_0, gr0_1, gr0_2, gr0_3, gr0_4, gr0_5, gr0_6, gi0_7, pi0_7, rc1, gi1_0, pi1_0, gr1_1, gr1_2, rc4, gr4_0, gi4_1, pi4_1, gi4_2, pi4_2, gi4_3, pi4_3, gi4_4, pi4_4, gi4_5, pi4_5, gr4_6, gr4_7, rc8, gr8_0, gi8_1, pi8_1, gr8_2, gr8_3, gr8_4, gr8_5, gr8_6, rc14, gr14_0, gr14_1, gr14_2, gr14_3, gr14_4, gr14_5, rc19, gr19_0, gr19_1, gr19_2, gr19_3, rc22, gr22_0, gr22_1, gr22_2, gr22_3, n_0, n_1, n_2, n_3, n_4, n_5, n_6, n_8, n_9, n_10, n_12, n_20, n_25, n_27, n_30, n_31, n_32, n_40, n_48, n_57, n_59, n_63, n_96, n_97, n_120, n_122, n_255, n_256, n_300, n_301, n_512, n_1000, n_1001, n_1002, n_1003, n_1004, n_1005, n_2000, n_2304, n_4096, nI_add, pk_mul, n_m, c_ge, c_gt, c_lt, c_le, c_eq, c_ne, d_lt, d_ge, d_ne, d_eq, d_gt, d_le, m_ltk, m_gek, m_eq, m_ne, Option.bind_some, rI9, wI9]
      rw [upI_ne (by decide), h2 k t ht]
    simp (disch := omega) only [rc0, gr0_0, gr0_1, gr0_2, gr0_3, gr0_4, gr0_5, gr0_6, gi0_7, pi0_7, rc1, gi1_0, pi1_0, gr1_1, gr1_2, rc4, gr4_0, gi4_1, pi4_1, gi4_2, pi4_2, gi4_3, pi4_3, gi4_4, pi4_4, gi4_5, pi4_5, gr4_6, gr4_7, rc8, gr8_0, gi8_1, pi8_1, gr8_2, gr8_3, gr8_4, gr8_5, gr8_6, rc14, gr14_0, gr14_1, gr14_2, gr14_3, gr14_4, gr14_5, rc19, gr19_0, gr19_1, gr19_2, gr19_3, rc22, gr22_0, gr22_1, gr22_2, gr22_3, Option.bind_some, rI10, wI10, hI1, n_0, n_1, n_2, n_3, n_4, n_5, n_6, n_8, n_9, n_10, n_12, n_20, n_25, n_27, n_30, n_31, n_32, n_40, n_48, n_57, n_59, n_63, n_96, n_97, n_120, n_122, n_255, n_256, n_300, n_301, n_512, n_1000, n_1001, n_1002, n_1003, n_1004, n_1005, n_2000, n_2304, n_4096, nI_add, pk_mul, n_m, c_ge, c_gt, c_lt, c_le, c_eq, c_ne, d_lt, d_ge, d_ne, d_eq, d_gt, d_le, m_ltk, m_gek, m_eq, m_ne, e17, tw_e hc1 (by omega : 6 ≤ F) (q12 (l := l) (s := s) (d := d) (tl := tl)) (by decide) (by omega : m * 5 + n ≤ 200) htn]
    rw [if_neg (by omega)]
    refine ⟨_, rfl, ?_, fun c hc => (rwJ_ne hc).trans (hK.2.1 c hc), fun i hi => (rwJ_out (by omega)).trans (hK.2.2 i hi)⟩
    rw [take_c ht]
    exact wt_turn hK.1 htn
/-- keepWord: the word in row b -/
theorem kw_e (hc : cl_n n A I) (hk : kp n A els I J) (hF : 100 ≤ F) (hb : (hs l s d tl)[b]? = some (.inl (0, M))) (hM : M < 2 ^ 31) {x y : List Nat} (hx : cx_L n x) (hxM : x.length ≤ M) (hx20 : x.length ≤ 20) (hwd : wd (I b) 0 x) (hy : cx_c n A y) (hg : cx_g n A y = cx_g n A x) :
    Tr (hs l s d tl) (e18 F 8 b (nI x.length) (mkH (hs l s d tl) I J)) (fun v I' J' => ∃ els', kpr els y v els' ∧ kp n A els' I' J' ∧ (∀ c, c ≠ 8 → c ≠ 9 → c ≠ 10 → I' c = I c) ∧ (∀ c, c ≠ 11 → c ≠ 12 → c ≠ 13 → J' c = J c)) := by
  have hok := hc.1
  have hn := hc.2.2.2.1
  have hn5 := hc.2.2.1
  have hyL := cx_c_L hy
  have hxr := cx_L_rev hx
  have hyl : cx_l n A y = y.length := cx_c_l hy
  have hlx : cx_l n A x = y.length := by rw [← cx_l_eq hg, cx_c_l hy]
  have hl20 : y.length ≤ 20 := by
    have := cx_l_len (A := A) hx
    omega
  show Tr _ (m18_0 F 8 _ _ _) _
  unfold m18_0
  simp (disch := omega) only [rc0, gr0_0, gr0_1, gr0_2, gr0_3, gr0_4, gr0_5, gr0_6, gi0_7, pi0_7, rc1, gi1_0, pi1_0, gr1_1, gr1_2, rc4, gr4_0, gi4_1, pi4_1, gi4_2, pi4_2, gi4_3, pi4_3, gi4_4, pi4_4, gi4_5, pi4_5, gr4_6, gr4_7, rc8, gr8_0, gi8_1, pi8_1, gr8_2, gr8_3, gr8_4, gr8_5, gr8_6, rc14, gr14_0, gr14_1, gr14_2, gr14_3, gr14_4, gr14_5, rc19, gr19_0, gr19_1, gr19_2, gr19_3, rc22, gr22_0, gr22_1, gr22_2, gr22_3, Option.bind_some, n_0, n_1, n_2, n_3, n_4, n_5, n_6, n_8, n_9, n_10, n_12, n_20, n_25, n_27, n_30, n_31, n_32, n_40, n_48, n_57, n_59, n_63, n_96, n_97, n_120, n_122, n_255, n_256, n_300, n_301, n_512, n_1000, n_1001, n_1002, n_1003, n_1004, n_1005, n_2000, n_2304, n_4096, nI_add, pk_mul, n_m, c_ge, c_gt, c_lt, c_le, c_eq, c_ne, d_lt, d_ge, d_ne, d_eq, d_gt, d_le, m_ltk, m_gek, m_eq, m_ne, sw_e hn hn5 (by omega : 6 ≤ F) (q13 (l := l) (s := s) (d := d) (tl := tl)) (by decide) (by omega : 0 + n ≤ 5)]
  refine lpd (fun f c (K : hJ) => m18_16 F f 8 b (nI c - nI 1) (mkH (hs l s d tl) I K)) (fun c K => c ≤ x.length ∧ wt n A (x.drop c).reverse (K 13) 0 ∧ ∀ e, e ≠ 13 → K e = J e) (fun r => Tr (hs l s d tl) r _) ?_ ?_ F x.length (rwJ J 13 0 n (fun _ => zJ 1)) (by omega) ⟨Nat.le_refl _, by rw [List.drop_length]; exact wt_nil, fun e he => rwJ_ne he⟩
  · rintro f K ⟨-, h1, h2⟩
    rw [List.drop_zero] at h1
    show Tr _ (m18_16 F (f + 1) _ _ _ _) _
    rw [m18_16]
    simp (disch := omega) only [z_m1, m_ltk, if_true]
    have hkK : kp n A els I K := kp_fr hk rfl rfl rfl (h2 _ (by decide)) (h2 _ (by decide))
    -- the search
    have same : ∀ w yw, els[w]? = some yw → ((∀ j, j < n → K 13 (0 + j) = K 11 (w * 5 + j)) ↔ yw = y) := by
      intro w yw hw
      obtain ⟨k1, k2, k3, k4, k5, k6⟩ := hkK.2.2.2.2 w yw hw
      have l1 := cx_c_l k1
      rw [wt_un hok hxr (cx_L_rev (cx_c_L k1)) (by rw [cx_l_rev hok hx]; omega) (by rw [cx_l_rev hok (cx_c_L k1)]; omega) h1 k5]
      constructor
      · intro e
        have := cx_g_rev hok hxr (cx_L_rev (cx_c_L k1)) e
        rw [List.reverse_reverse, List.reverse_reverse] at this
        exact cx_c_un hok k1 hy (this.symm.trans hg.symm)
      · intro e
        rw [e]
        exact cx_g_rev hok hx hyL hg.symm
    refine lpc (fun f k (_ : Unit) => m18_43 F f 8 (nI k) (mkH (hs l s d tl) I K)) els.length (fun k _ => ∀ w, w < k → els[w]? ≠ some y) (fun r => Tr (hs l s d tl) r _) ?_ ?_ F 0 () (by omega) (by have := hk.2.1; omega) (fun w hw => by omega)
    · intro f _ hno
      have hno2 : ∀ w : Nat, els[w]? ≠ some y := by
        intro w hw
        exact hno w (List.getElem?_eq_some_iff.mp hw).1 hw
      have h40 := hk.2.1
      show Tr _ (m18_43 F (f + 1) _ _ _) _
      rw [m18_43]
      simp (disch := omega) only [rc0, gr0_0, gr0_1, gr0_2, gr0_3, gr0_4, gr0_5, gr0_6, gi0_7, pi0_7, rc1, gi1_0, pi1_0, gr1_1, gr1_2, rc4, gr4_0, gi4_1, pi4_1, gi4_2, pi4_2, gi4_3, pi4_3, gi4_4, pi4_4, gi4_5, pi4_5, gr4_6, gr4_7, rc8, gr8_0, gi8_1, pi8_1, gr8_2, gr8_3, gr8_4, gr8_5, gr8_6, rc14, gr14_0, gr14_1, gr14_2, gr14_3, gr14_4, gr14_5, rc19, gr19_0, gr19_1, gr19_2, gr19_3, rc22, gr22_0, gr22_1, gr22_2, gr22_3, Option.bind_some, hk.2.2.2.1, n_0, n_1, n_2, n_3, n_4, n_5, n_6, n_8, n_9, n_10, n_12, n_20, n_25, n_27, n_30, n_31, n_32, n_40, n_48, n_57, n_59, n_63, n_96, n_97, n_120, n_122, n_255, n_256, n_300, n_301, n_512, n_1000, n_1001, n_1002, n_1003, n_1004, n_1005, n_2000, n_2304, n_4096, nI_add, pk_mul, n_m, c_ge, c_gt, c_lt, c_le, c_eq, c_ne, d_lt, d_ge, d_ne, d_eq, d_gt, d_le, m_ltk, m_gek, m_eq, m_ne]
      rw [if_pos (by omega)]
      by_cases hlt : els.length < 40
      · rw [if_pos hlt]
        obtain ⟨_, I1, J1, e1, k1, k2, k3, k4, k5, k6, k7, k8, k9⟩ := wl_e (l := l) (s := s) (d := d) (tl := tl) (F := F) (J := K) (I := upI I 8 1 (nI (els.length + 1))) (m := els.length) (cl_fr hc (upI_ne (by decide)) (upI_ne (by decide))) (by omega) hlt (by rw [upI_at, if_pos rfl]) hx hy hg hl20 h1
        rw [e1]
        simp (disch := omega) only [rc0, gr0_0, gr0_1, gr0_2, gr0_3, gr0_4, gr0_5, gr0_6, gi0_7, pi0_7, rc1, gi1_0, pi1_0, gr1_1, gr1_2, rc4, gr4_0, gi4_1, pi4_1, gi4_2, pi4_2, gi4_3, pi4_3, gi4_4, pi4_4, gi4_5, pi4_5, gr4_6, gr4_7, rc8, gr8_0, gi8_1, pi8_1, gr8_2, gr8_3, gr8_4, gr8_5, gr8_6, rc14, gr14_0, gr14_1, gr14_2, gr14_3, gr14_4, gr14_5, rc19, gr19_0, gr19_1, gr19_2, gr19_3, rc22, gr22_0, gr22_1, gr22_2, gr22_3, Option.bind_some]
        have e8 : I1 8 1 = nI (els.length + 1) := by rw [k5 8 (by decide) (by decide), upI_at, if_pos rfl]
        refine Tr_ret ⟨els ++ [y], Or.inr (Or.inl ⟨hno2, hlt, by rw [e8, pk_sub1], rfl⟩), ⟨by simp, by simp; omega, ?_, by rw [e8, List.length_append]; rfl, ?_⟩, ?_, ?_⟩
        · rw [List.getElem?_append_left (by have := hk.1; omega)]
          exact hk.2.2.1
        · intro w yw hw
          by_cases hwl : w < els.length
          · rw [List.getElem?_append_left hwl] at hw
            obtain ⟨a1, a2, a3, a4, a5, a6⟩ := hkK.2.2.2.2 w yw hw
            refine ⟨a1, a2, ?_, ?_, ?_, ?_⟩
            · rw [k7 w hwl, upI_ne (by decide), a3]
            · intro i c hi
              have := (List.getElem?_eq_some_iff.mp hi).1
              rw [k6 _ (by omega), upI_ne (by decide), a4 i c hi]
            · intro j hj
              rw [(k9 _ (by omega)).1, a5 j hj]
            · intro j hj
              rw [(k9 _ (by omega)).2, a6 j hj]
          · have hwe : w = els.length := by
              have := (List.getElem?_eq_some_iff.mp hw).1
              rw [List.length_append] at this
              simp at this
              omega
            subst hwe
            rw [List.getElem?_append_right (Nat.le_refl _), Nat.sub_self] at hw
            have := Option.some.inj hw
            subst this
            exact ⟨hy, hl20, k1, k2, k3, k4⟩
        · intro c c1 c2 c3
          rw [k5 c c2 c3, upI_ne c1]
        · intro c c1 c2 c3
          rw [k8 c c1 c2 c3, h2 c c3]
      · rw [if_neg hlt]
        exact Tr_ret ⟨els, Or.inr (Or.inr ⟨hno2, by omega, rfl, rfl⟩), hkK, fun _ _ _ _ => rfl, fun c _ _ c3 => h2 c c3⟩
    · intro f k _ hkl hno
      have h40 := hk.2.1
      obtain ⟨yw, hw⟩ : ∃ yw, els[k]? = some yw := ⟨els[k], List.getElem?_eq_getElem hkl⟩
      show Tr _ (m18_43 F (f + 1) _ _ _) _ ∨ ∃ y, m18_43 F (f + 1) _ _ _ = _ ∧ _
      rw [m18_43]
      simp (disch := omega) only [rc0, gr0_0, gr0_1, gr0_2, gr0_3, gr0_4, gr0_5, gr0_6, gi0_7, pi0_7, rc1, gi1_0, pi1_0, gr1_1, gr1_2, rc4, gr4_0, gi4_1, pi4_1, gi4_2, pi4_2, gi4_3, pi4_3, gi4_4, pi4_4, gi4_5, pi4_5, gr4_6, gr4_7, rc8, gr8_0, gi8_1, pi8_1, gr8_2, gr8_3, gr8_4, gr8_5, gr8_6, rc14, gr14_0, gr14_1, gr14_2, gr14_3, gr14_4, gr14_5, rc19, gr19_0, gr19_1, gr19_2, gr19_3, rc22, gr22_0, gr22_1, gr22_2, gr22_3, Option.bind_some, hk.2.2.2.1, n_0, n_1, n_2, n_3, n_4, n_5, n_6, n_8, n_9, n_10, n_12, n_20, n_25, n_27, n_30, n_31, n_32, n_40, n_48, n_57, n_59, n_63, n_96, n_97, n_120, n_122, n_255, n_256, n_300, n_301, n_512, n_1000, n_1001, n_1002, n_1003, n_1004, n_1005, n_2000, n_2304, n_4096, nI_add, pk_mul, n_m, c_ge, c_gt, c_lt, c_le, c_eq, c_ne, d_lt, d_ge, d_ne, d_eq, d_gt, d_le, m_ltk, m_gek, m_eq, m_ne]
      rw [if_neg (by omega)]
      rcases sm_e (I := I) (J := K) (o := 0) (p := k * 5) hn hn5 (by omega : 6 ≤ F) (q13 (l := l) (s := s) (d := d) (tl := tl)) q11 (by decide) (by decide) (by omega) (by omega) with ⟨e1, e2⟩ | ⟨e1, j, hj, e2⟩
      · left
        rw [e1]
        simp (disch := omega) only [Option.bind_some, d_eq]
        rw [if_neg (by omega)]
        have hyy := (same k yw hw).mp e2
        subst hyy
        exact Tr_ret ⟨els, Or.inl ⟨k, hw, hno, rfl, rfl⟩, hkK, fun _ _ _ _ => rfl, fun c _ _ c3 => h2 c c3⟩
      · right
        rw [e1]
        simp (disch := omega) only [Option.bind_some, d_eq, if_true]
        refine ⟨(), by trivial, fun w hwk => ?_⟩
        by_cases hwe : w = k
        · subst hwe
          intro h
          rw [hw] at h
          have hyy := (same w yw hw).mpr (Option.some.inj h)
          exact e2 (hyy j hj)
        · exact hno w (by omega)
  · rintro f c K ⟨h0, h1, h2⟩
    right
    obtain ⟨t, ht⟩ := ex_at (show c < x.length by omega)
    have htn := cx_L_at hx ht
    have hbt : I b c = nI t := by
      have := hwd c t ht
      rw [Nat.zero_add] at this
      exact this
    show ∃ y, m18_16 F (f + 1) _ _ _ _ = _ ∧ _
    rw [m18_16]
    simp (disch := omega) only [pk_sub1, n_0, n_1, n_2, n_3, n_4, n_5, n_6, n_8, n_9, n_10, n_12, n_20, n_25, n_27, n_30, n_31, n_32, n_40, n_48, n_57, n_59, n_63, n_96, n_97, n_120, n_122, n_255, n_256, n_300, n_301, n_512, n_1000, n_1001, n_1002, n_1003, n_1004, n_1005, n_2000, n_2304, n_4096, nI_add, pk_mul, n_m, c_ge, c_gt, c_lt, c_le, c_eq, c_ne, d_lt, d_ge, d_ne, d_eq, d_gt, d_le, m_ltk, m_gek, m_eq, m_ne, rc0, gr0_0, gr0_1, gr0_2, gr0_3, gr0_4, gr0_5, gr0_6, gi0_7, pi0_7, rc1, gi1_0, pi1_0, gr1_1, gr1_2, rc4, gr4_0, gi4_1, pi4_1, gi4_2, pi4_2, gi4_3, pi4_3, gi4_4, pi4_4, gi4_5, pi4_5, gr4_6, gr4_7, rc8, gr8_0, gi8_1, pi8_1, gr8_2, gr8_3, gr8_4, gr8_5, gr8_6, rc14, gr14_0, gr14_1, gr14_2, gr14_3, gr14_4, gr14_5, rc19, gr19_0, gr19_1, gr19_2, gr19_3, rc22, gr22_0, gr22_1, gr22_2, gr22_3, Option.bind_some, if_false, rdI_H hb hM, hbt, tw_e hc (by omega : 6 ≤ F) (q13 (l := l) (s := s) (d := d) (tl := tl)) (by decide) (by omega : 0 + n ≤ 5) htn, p_m1]
    refine ⟨_, rfl, by omega, ?_, fun e he => (rwJ_ne he).trans (h2 e he)⟩
    rw [drop_c ht, List.reverse_cons]
    exact wt_turn h1 htn
end S
