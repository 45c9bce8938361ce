/-! The reference: covers, exchange, inversions. -/
section S
variable {l s d : Value} {tl : List hQ} {F : Nat} {I : hI} {J : hJ} {n a b o p N M : Nat} {A : Nat → Nat → Int} {els : List (List Nat)}
theorem er_take {y : List Nat} {m t : Nat} (k : Nat) (h : y[m]? = some t) : (y.take (m + 1)).eraseIdx k = if m = k then (y.take m).eraseIdx k else (y.take m).eraseIdx k ++ [t] := by
  have hm := (List.getElem?_eq_some_iff.mp h).1
  have hl : (y.take m).length = m := by rw [List.length_take]; omega
  rw [take_c h]
  by_cases hk : m = k
  · subst hk
    have h2 : (y.take m).eraseIdx m = y.take m := List.eraseIdx_of_length_le (by omega)
    rw [if_pos rfl, List.eraseIdx_append_of_length_le (by omega), hl, Nat.sub_self, h2]
    simp
  · rw [if_neg hk]
    by_cases hlt : k < m
    · rw [List.eraseIdx_append_of_lt_length (by omega)]
    · rw [List.eraseIdx_append_of_length_le (by omega), hl, List.eraseIdx_of_length_le (k := k - m) (by simp; omega), List.eraseIdx_of_length_le (by omega)]
/-- covers -/
theorem cvr_e (hM : mo_n n A I) (hk : km n A els I) (hF : 300 ≤ F) {y : List Nat} (hb : els[b]? = some y) :
    Tr (hs l s d tl) (e179 F 26 (nI b) (mkH (hs l s d tl) I J)) (fun v I' J' => v = nI (cvn n A y y.length) ∧ I' = I ∧ rfr I I' J J') := by
  have hok := hM.1
  have hn5 := hM.2.2.1
  obtain ⟨yc, yL, yl, y20, b40, yb, yw⟩ := km_c hk hb
  show Tr _ (m179_0 F 26 _ _) _
  unfold m179_0
  simp (disch := omega) only [rc26, gi26_0, pi26_0, gr26_1, gr26_2, gr26_3, gr26_4, gi26_5, pi26_5, gi26_6, pi26_6, gi26_7, pi26_7, gl26_8, pl26_8, gi26_9, pi26_9, gi26_10, pi26_10, gr26_11, gi26_12, pi26_12, gr26_13, gr26_14, gi26_15, pi26_15, gi26_16, pi26_16, gr26_17, gr26_18, gi26_19, pi26_19, gr26_20, gr26_21, gr26_22, gr26_23, gr26_24, gr26_25, gr26_26, gi26_27, pi26_27, gr26_28, gr26_29, gi26_30, pi26_30, gi26_31, pi26_31, gr26_32, gr26_33, gr26_34, gr26_35, gr26_36, gr26_37, gr26_38, gr26_39, gr26_40, Option.bind_some, ie1 hk hb, d_ne, n_0]
  rw [if_pos (by omega)]
  refine lpc (fun f k (x : hJ × List Nat) => m179_16 F f 26 (nI b) (nI x.2.length) (nI k) (mkH (hs l s d tl) I x.1)) y.length (fun k x => x.2.length = cvn n A y k ∧ (∀ j i, x.2[j]? = some i → i < k ∧ sq n A (y.eraseIdx i) (x.1 37) (25 * j)) ∧ ∀ c, c ≠ 32 → c ≠ 37 → x.1 c = J c) (fun r => Tr (hs l s d tl) r _) ?_ ?_ F 0 (J, []) (by omega) (by omega) ⟨rfl, fun j i h => (by dsimp only at h; cases h), fun _ _ _ => rfl⟩
  · rintro f ⟨K, ix⟩ ⟨h1, h2, h3⟩
    dsimp only at h1 h2 h3
    show Tr _ (m179_16 F (f + 1) _ _ _ _ _) _
    rw [m179_16]
    simp (disch := omega) only [rc26, gi26_0, pi26_0, gr26_1, gr26_2, gr26_3, gr26_4, gi26_5, pi26_5, gi26_6, pi26_6, gi26_7, pi26_7, gl26_8, pl26_8, gi26_9, pi26_9, gi26_10, pi26_10, gr26_11, gi26_12, pi26_12, gr26_13, gr26_14, gi26_15, pi26_15, gi26_16, pi26_16, gr26_17, gr26_18, gi26_19, pi26_19, gr26_20, gr26_21, gr26_22, gr26_23, gr26_24, gr26_25, gr26_26, gi26_27, pi26_27, gr26_28, gr26_29, gi26_30, pi26_30, gi26_31, pi26_31, gr26_32, gr26_33, gr26_34, gr26_35, gr26_36, gr26_37, gr26_38, gr26_39, gr26_40, Option.bind_some, n_0, n_1, n_2, n_3, n_4, n_5, n_6, n_8, n_9, n_10, n_12, n_20, n_25, n_27, n_30, n_31, n_32, n_40, n_48, n_57, n_59, n_63, n_96, n_97, n_120, n_122, n_255, n_256, n_300, n_301, n_512, n_1000, n_1001, n_1002, n_1003, n_1004, n_1005, n_2000, n_2304, n_4096, nI_add, pk_mul, n_m, c_ge, c_gt, c_lt, c_le, c_eq, c_ne, d_lt, d_ge, d_ne, d_eq, d_gt, d_le, m_ltk, m_gek, m_eq, m_ne, rI34, wI34, yb]
    rw [if_pos (by omega)]
    exact Tr_ret ⟨by rw [h1], rfl, rfr_tr (rfr_rf I J) ⟨fun _ _ _ _ _ _ _ _ => rfl, fun _ _ _ _ => rfl, fun c a1 a2 _ _ _ _ => h3 c a1 a2⟩⟩
  · rintro f k ⟨K, ix⟩ hky ⟨h1, h2, h3⟩
    dsimp only at h1 h2 h3
    right
    have hcv := cvn_le (n := n) (A := A) y k
    show ∃ y, m179_16 F (f + 1) _ _ _ _ _ = _ ∧ _
    rw [m179_16]
    simp (disch := omega) only [rc26, gi26_0, pi26_0, gr26_1, gr26_2, gr26_3, gr26_4, gi26_5, pi26_5, gi26_6, pi26_6, gi26_7, pi26_7, gl26_8, pl26_8, gi26_9, pi26_9, gi26_10, pi26_10, gr26_11, gi26_12, pi26_12, gr26_13, gr26_14, gi26_15, pi26_15, gi26_16, pi26_16, gr26_17, gr26_18, gi26_19, pi26_19, gr26_20, gr26_21, gr26_22, gr26_23, gr26_24, gr26_25, gr26_26, gi26_27, pi26_27, gr26_28, gr26_29, gi26_30, pi26_30, gi26_31, pi26_31, gr26_32, gr26_33, gr26_34, gr26_35, gr26_36, gr26_37, gr26_38, gr26_39, gr26_40, Option.bind_some, n_0, n_1, n_2, n_3, n_4, n_5, n_6, n_8, n_9, n_10, n_12, n_20, n_25, n_27, n_30, n_31, n_32, n_40, n_48, n_57, n_59, n_63, n_96, n_97, n_120, n_122, n_255, n_256, n_300, n_301, n_512, n_1000, n_1001, n_1002, n_1003, n_1004, n_1005, n_2000, n_2304, n_4096, nI_add, pk_mul, n_m, c_ge, c_gt, c_lt, c_le, c_eq, c_ne, d_lt, d_ge, d_ne, d_eq, d_gt, d_le, m_ltk, m_gek, m_eq, m_ne, rI34, wI34, yb, bg_e (by omega : 30 ≤ F)]
    rw [if_neg (by omega)]
    have e0 : nI 0 = nI (cx_l n A ((y.take 0).eraseIdx k)) := by rw [List.take_zero, List.eraseIdx_nil, cx_l_nil]
    have e0' : m179_36 F (m179_16 F f) F 26 (nI b) (nI ix.length) (nI k) (nI 0) (nI 0) (mkH (hs l s d tl) I (rwJ K 32 0 25 (fun q => zJ (if q / 5 = q % 5 then 1 else 0)))) = m179_36 F (m179_16 F f) F 26 (nI b) (nI ix.length) (nI k) (nI (cx_l n A ((y.take 0).eraseIdx k))) (nI 0) (mkH (hs l s d tl) I (rwJ K 32 0 25 (fun q => zJ (if q / 5 = q % 5 then 1 else 0)))) := by rw [← e0]
    rw [e0']
    refine lpc (fun g m (K1 : hJ) => m179_36 F (m179_16 F f) g 26 (nI b) (nI ix.length) (nI k) (nI (cx_l n A ((y.take m).eraseIdx k))) (nI m) (mkH (hs l s d tl) I K1)) y.length (fun m K1 => sq n A ((y.take m).eraseIdx k) (K1 32) 0 ∧ ∀ c, c ≠ 32 → K1 c = K c) (fun r => ∃ x : hJ × List Nat, r = m179_16 F f 26 (nI b) (nI x.2.length) (nI (k + 1)) (mkH (hs l s d tl) I x.1) ∧ x.2.length = cvn n A y (k + 1) ∧ (∀ j i, x.2[j]? = some i → i < k + 1 ∧ sq n A (y.eraseIdx i) (x.1 37) (25 * j)) ∧ ∀ c, c ≠ 32 → c ≠ 37 → x.1 c = J c) ?_ ?_ F 0 _ (by omega) (by omega) ⟨by rw [List.take_zero, List.eraseIdx_nil]; exact sq_nil, fun c hc => rwJ_ne hc⟩
    · rintro g K1 ⟨k1, k2⟩
      rw [List.take_length] at k1
      have hel := cx_l_len (A := A) (cx_L_er yL k)
      rw [List.length_eraseIdx, if_pos hky] at hel
      show ∃ x : hJ × List Nat, m179_36 F _ (g + 1) _ _ _ _ _ _ _ = _ ∧ _
      rw [m179_36]
      simp (disch := omega) only [rc26, gi26_0, pi26_0, gr26_1, gr26_2, gr26_3, gr26_4, gi26_5, pi26_5, gi26_6, pi26_6, gi26_7, pi26_7, gl26_8, pl26_8, gi26_9, pi26_9, gi26_10, pi26_10, gr26_11, gi26_12, pi26_12, gr26_13, gr26_14, gi26_15, pi26_15, gi26_16, pi26_16, gr26_17, gr26_18, gi26_19, pi26_19, gr26_20, gr26_21, gr26_22, gr26_23, gr26_24, gr26_25, gr26_26, gi26_27, pi26_27, gr26_28, gr26_29, gi26_30, pi26_30, gi26_31, pi26_31, gr26_32, gr26_33, gr26_34, gr26_35, gr26_36, gr26_37, gr26_38, gr26_39, gr26_40, Option.bind_some, n_1, c_ge, rI34, wI34, yb, pk_sub, List.take_length, c_ne]
      rw [if_pos (by omega)]
      have old : ∀ j i, ix[j]? = some i → i < k + 1 ∧ sq n A (y.eraseIdx i) (K1 37) (25 * j) := by
        intro j i hj
        have := h2 j i hj
        exact ⟨by omega, by rw [k2 37 (by decide)]; exact this.2⟩
      by_cases hsz : cx_l n A (y.eraseIdx k) = y.length - 1
      · rw [if_neg (fun h => h hsz)]
        rcases ps_e (l := l) (s := s) (d := d) (tl := tl) (F := F) (I := I) (J := K1) (m := ix.length) (b := 37) (by omega) q37 (by decide) (by omega) (by decide) with ⟨j, hj, e1, e2⟩ | ⟨e1, e2⟩
        · exfalso
          obtain ⟨i, hi⟩ := ex_at hj
          obtain ⟨o1, o2⟩ := old j i hi
          have hel2 := cx_l_len (A := A) (cx_L_er yL i)
          rw [List.length_eraseIdx] at hel2
          have hg := (sq_un hok hn5 (cx_L_er yL k) (cx_L_er yL i) (by omega) (by split at hel2 <;> omega) k1 o2).mp e2
          exact er_inj hok yL yl (h2 j i hi).1 hky hg.symm
        · rw [e1]
          simp (disch := omega) only [Option.bind_some, c_ne]
          unfold m179_134 m179_136
          rw [if_neg (fun h => h rfl)]
          simp only [n_0, n_1, n_2, n_3, n_4, n_5, n_6, n_8, n_9, n_10, n_12, n_20, n_25, n_27, n_30, n_31, n_32, n_40, n_48, n_57, n_59, n_63, n_96, n_97, n_120, n_122, n_255, n_256, n_300, n_301, n_512, n_1000, n_1001, n_1002, n_1003, n_1004, n_1005, n_2000, n_2304, n_4096, nI_add, pk_mul, n_m, c_ge, c_gt, c_lt, c_le, c_eq, c_ne, d_lt, d_ge, d_ne, d_eq, d_gt, d_le, m_ltk, m_gek, m_eq, m_ne, Prod.exists]
          refine ⟨rwJ K1 37 (25 * ix.length) 25 (fun q => K1 32 (0 + q)), ix ++ [k], by rw [List.length_append]; rfl, ?_, ?_, ?_⟩
          · rw [List.length_append, cvn, if_pos (by omega), h1]
            rfl
          · intro j i hj
            by_cases hjl : j < ix.length
            · rw [List.getElem?_append_left hjl] at hj
              obtain ⟨o1, o2⟩ := old j i hj
              refine ⟨o1, fun r q hr hq => ?_⟩
              rw [rwJ_out (by omega)]
              exact o2 r q hr hq
            · have hje : j = ix.length := by
                have := (List.getElem?_eq_some_iff.mp hj).1
                rw [List.length_append] at this
                simp at this
                omega
              subst hje
              rw [List.getElem?_append_right (Nat.le_refl _), Nat.sub_self] at hj
              have := Option.some.inj hj
              subst this
              exact ⟨by omega, sq_cp k1⟩
          · intro c c1 c2
            rw [rwJ_ne c2, k2 c c1]
            exact h3 c c1 c2
      · rw [if_pos hsz]
        unfold m179_136
        simp only [n_0, n_1, n_2, n_3, n_4, n_5, n_6, n_8, n_9, n_10, n_12, n_20, n_25, n_27, n_30, n_31, n_32, n_40, n_48, n_57, n_59, n_63, n_96, n_97, n_120, n_122, n_255, n_256, n_300, n_301, n_512, n_1000, n_1001, n_1002, n_1003, n_1004, n_1005, n_2000, n_2304, n_4096, nI_add, pk_mul, n_m, c_ge, c_gt, c_lt, c_le, c_eq, c_ne, d_lt, d_ge, d_ne, d_eq, d_gt, d_le, m_ltk, m_gek, m_eq, m_ne]
        refine ⟨(K1, ix), rfl, ?_, old, fun c c1 c2 => (k2 c c1).trans (h3 c c1 c2)⟩
        dsimp only
        rw [cvn, if_neg (by omega), h1]
        rfl
    · rintro g m K1 hm ⟨k1, k2⟩
      right
      obtain ⟨t, ht⟩ := ex_at hm
      have htn := cx_L_at yL ht
      have hL := cx_L_er (take_L yL m) k
      have hel := cx_l_len (A := A) hL
      have hl1 : ((y.take m).eraseIdx k).length ≤ 20 := by
        rw [List.length_eraseIdx, List.length_take]
        split <;> omega
      have het := er_take k ht
      show ∃ y, m179_36 F _ (g + 1) _ _ _ _ _ _ _ = _ ∧ _
      rw [m179_36]
      simp (disch := omega) only [rc26, gi26_0, pi26_0, gr26_1, gr26_2, gr26_3, gr26_4, gi26_5, pi26_5, gi26_6, pi26_6, gi26_7, pi26_7, gl26_8, pl26_8, gi26_9, pi26_9, gi26_10, pi26_10, gr26_11, gi26_12, pi26_12, gr26_13, gr26_14, gi26_15, pi26_15, gi26_16, pi26_16, gr26_17, gr26_18, gi26_19, pi26_19, gr26_20, gr26_21, gr26_22, gr26_23, gr26_24, gr26_25, gr26_26, gi26_27, pi26_27, gr26_28, gr26_29, gi26_30, pi26_30, gi26_31, pi26_31, gr26_32, gr26_33, gr26_34, gr26_35, gr26_36, gr26_37, gr26_38, gr26_39, gr26_40, Option.bind_some, c_ge, rI34, wI34, rI35, wI35, yb, n_20, pk_mul, nI_add, yw m t ht, c_eq]
      rw [if_neg (by omega)]
      unfold m179_87 m179_96
      by_cases hmk : m = k
      · rw [if_pos hmk] at het
        rw [if_pos hmk, het]
        simp only [n_0, n_1, n_2, n_3, n_4, n_5, n_6, n_8, n_9, n_10, n_12, n_20, n_25, n_27, n_30, n_31, n_32, n_40, n_48, n_57, n_59, n_63, n_96, n_97, n_120, n_122, n_255, n_256, n_300, n_301, n_512, n_1000, n_1001, n_1002, n_1003, n_1004, n_1005, n_2000, n_2304, n_4096, nI_add, pk_mul, n_m, c_ge, c_gt, c_lt, c_le, c_eq, c_ne, d_lt, d_ge, d_ne, d_eq, d_gt, d_le, m_ltk, m_gek, m_eq, m_ne]
        exact ⟨_, rfl, k1, k2⟩
      · rw [if_neg hmk] at het
        rw [if_neg hmk]
        obtain ⟨J2, c1, c2, c3⟩ := th_e (l := l) (s := s) (d := d) (tl := tl) (F := F) (J := K1) hM (by omega) htn hL k1
        rcases idq_e (l := l) (s := s) (d := d) (tl := tl) (F := F) (I := I) (J := K1) hok hn5 (by omega) q32 (by decide) htn (by omega) hL (by omega) k1 with ⟨e2, hdn⟩ | ⟨e2, hdn⟩
        · have h4 := dn_1 hok hL htn hdn
          rw [← het] at h4 c2
          have e4 : nI (cx_l n A ((y.take m).eraseIdx k)) + gI 1 = nI (cx_l n A ((y.take (m + 1)).eraseIdx k)) := by
            rw [p_m1, pk_sub (by omega)]
            congr 1
            omega
          simp (disch := omega) only [n_0, e2, Option.bind_some, d_eq]
          rw [if_neg (by omega)]
          simp (disch := omega) only [rc26, gi26_0, pi26_0, gr26_1, gr26_2, gr26_3, gr26_4, gi26_5, pi26_5, gi26_6, pi26_6, gi26_7, pi26_7, gl26_8, pl26_8, gi26_9, pi26_9, gi26_10, pi26_10, gr26_11, gi26_12, pi26_12, gr26_13, gr26_14, gi26_15, pi26_15, gi26_16, pi26_16, gr26_17, gr26_18, gi26_19, pi26_19, gr26_20, gr26_21, gr26_22, gr26_23, gr26_24, gr26_25, gr26_26, gi26_27, pi26_27, gr26_28, gr26_29, gi26_30, pi26_30, gi26_31, pi26_31, gr26_32, gr26_33, gr26_34, gr26_35, gr26_36, gr26_37, gr26_38, gr26_39, gr26_40, Option.bind_some, n_1, n_m, e4, c1, nI_add]
          exact ⟨_, rfl, c2, fun c hc => (c3 c hc).trans (k2 c hc)⟩
        · have h4 := up_1 hok hL htn hdn
          rw [← het] at h4 c2
          have e4 : nI (cx_l n A ((y.take m).eraseIdx k)) + nI 1 = nI (cx_l n A ((y.take (m + 1)).eraseIdx k)) := by
            rw [nI_add]
            congr 1
            omega
          simp (disch := omega) only [n_0, e2, Option.bind_some, d_eq, if_true]
          simp (disch := omega) only [rc26, gi26_0, pi26_0, gr26_1, gr26_2, gr26_3, gr26_4, gi26_5, pi26_5, gi26_6, pi26_6, gi26_7, pi26_7, gl26_8, pl26_8, gi26_9, pi26_9, gi26_10, pi26_10, gr26_11, gi26_12, pi26_12, gr26_13, gr26_14, gi26_15, pi26_15, gi26_16, pi26_16, gr26_17, gr26_18, gi26_19, pi26_19, gr26_20, gr26_21, gr26_22, gr26_23, gr26_24, gr26_25, gr26_26, gi26_27, pi26_27, gr26_28, gr26_29, gi26_30, pi26_30, gi26_31, pi26_31, gr26_32, gr26_33, gr26_34, gr26_35, gr26_36, gr26_37, gr26_38, gr26_39, gr26_40, Option.bind_some, n_1, e4, c1]
          simp only [nI_add]
          exact ⟨_, rfl, c2, fun c hc => (c3 c hc).trans (k2 c hc)⟩
/-- exchange -/
theorem xcr_e (hM : mo_n n A I) (hk : km n A els I) (hF : 300 ≤ F) {y : List Nat} (hb : els[b]? = some y) {t : Nat} (ht : t < n) (hd : dn n A y t) :
    Tr (hs l s d tl) (e181 F 26 (nI b) (nI t) (mkH (hs l s d tl) I J)) (fun v I' J' => (∃ i, i < y.length ∧ v = nI i ∧ cx_g n A (y.eraseIdx i) = cx_g n A (y ++ [t])) ∧ I' = I ∧ rfr I I' J J') := by
  have hok := hM.1
  have hn5 := hM.2.2.1
  obtain ⟨yc, yL, yl, y20, b40, yb, yw⟩ := km_c hk hb
  obtain ⟨i0, hi0, hg0⟩ := cx_exch hok ht yL hd
  have L2 := cx_L_app yL (cx_L_1 ht)
  have l2 := dn_1 hok yL ht hd
  obtain ⟨J1, e1, h1, h2⟩ := sqr_e (l := l) (s := s) (d := d) (tl := tl) (F := F) (J := J) hM hk (by omega) hb
  obtain ⟨J2, e2, h3, h4⟩ := th_e (l := l) (s := s) (d := d) (tl := tl) (F := F) (J := J1) hM (by omega) ht yL h1
  have e3 : e157 F 32 (nI 0) (nI t) (mkH (hs l s d tl) I J1) = some (nI 1, (mkH (hs l s d tl) I J1)) := by
    rcases idq_e (l := l) (s := s) (d := d) (tl := tl) (F := F) (I := I) (J := J1) hok hn5 (by omega) q32 (by decide) ht (by omega) yL (by omega) h1 with ⟨e, _⟩ | ⟨_, h⟩
    · exact e
    · exact absurd hd h
  show Tr _ (m181_0 F 26 _ _ _) _
  unfold m181_0
  simp (disch := omega) only [rc26, gi26_0, pi26_0, gr26_1, gr26_2, gr26_3, gr26_4, gi26_5, pi26_5, gi26_6, pi26_6, gi26_7, pi26_7, gl26_8, pl26_8, gi26_9, pi26_9, gi26_10, pi26_10, gr26_11, gi26_12, pi26_12, gr26_13, gr26_14, gi26_15, pi26_15, gi26_16, pi26_16, gr26_17, gr26_18, gi26_19, pi26_19, gr26_20, gr26_21, gr26_22, gr26_23, gr26_24, gr26_25, gr26_26, gi26_27, pi26_27, gr26_28, gr26_29, gi26_30, pi26_30, gi26_31, pi26_31, gr26_32, gr26_33, gr26_34, gr26_35, gr26_36, gr26_37, gr26_38, gr26_39, gr26_40, Option.bind_some, ie1 hk hb, mm1 hM ht, d_ne, n_0, e1, e3, e2, cp_e (by omega : 30 ≤ F) (q32 (l := l) (s := s) (d := d) (tl := tl)) q37 (by decide) (by decide) (by omega : 0 + 25 ≤ 25) (by omega : 0 + 25 ≤ 50000) (by decide)]
  rw [if_pos (by omega), if_pos (by omega), if_pos (by omega)]
  have em : (-1 : Int32) = nI 0 - nI 1 := by decide
  rw [em]
  refine lpm (fun f (x : hJ × Nat × Nat) => m181_69 F f 26 (nI b) (nI x.2.1 - nI 1) (nI x.2.2) (mkH (hs l s d tl) I x.1)) (fun x => 2 * (i0 + 1 - x.2.1) + (1 - x.2.2)) (fun x => sq n A (y ++ [t]) (x.1 37) 0 ∧ (∀ c, c ≠ 32 → c ≠ 37 → x.1 c = J c) ∧ ((x.2.2 = 0 ∧ x.2.1 ≤ i0 ∧ ∀ i, i < x.2.1 → cx_g n A (y.eraseIdx i) ≠ cx_g n A (y ++ [t])) ∨ (x.2.2 = 1 ∧ ∃ c, x.2.1 = c + 1 ∧ c < y.length ∧ cx_g n A (y.eraseIdx c) = cx_g n A (y ++ [t])))) (fun r => Tr (hs l s d tl) r _) ?_ F (rwJ J2 37 0 25 (fun q => J2 32 (0 + q)), 0, 0) ⟨by dsimp only; exact sq_cp h3, fun c c1 c2 => by dsimp only; rw [rwJ_ne c2, h4 c c1, h2 c c1], Or.inl ⟨rfl, Nat.zero_le _, fun i hi => by dsimp only at hi; omega⟩⟩ (by dsimp only; omega)
  rintro f ⟨K, c, v⟩ ⟨k1, k2, k3⟩
  dsimp only at k1 k2 k3
  show Tr _ (m181_69 F (f + 1) _ _ _ _ _) _ ∨ ∃ y : hJ × Nat × Nat, m181_69 F (f + 1) _ _ _ _ _ = _ ∧ _
  rw [m181_69]
  rcases k3 with ⟨rfl, k4, k5⟩ | ⟨rfl, c', rfl, k4, k5⟩
  · right
    simp (disch := omega) only [d_ne]
    rw [if_neg (by omega)]
    have ec : nI c - nI 1 + nI 1 = nI c := by rw [Int32.sub_add_cancel]
    simp (disch := omega) only [rc26, gi26_0, pi26_0, gr26_1, gr26_2, gr26_3, gr26_4, gi26_5, pi26_5, gi26_6, pi26_6, gi26_7, pi26_7, gl26_8, pl26_8, gi26_9, pi26_9, gi26_10, pi26_10, gr26_11, gi26_12, pi26_12, gr26_13, gr26_14, gi26_15, pi26_15, gi26_16, pi26_16, gr26_17, gr26_18, gi26_19, pi26_19, gr26_20, gr26_21, gr26_22, gr26_23, gr26_24, gr26_25, gr26_26, gi26_27, pi26_27, gr26_28, gr26_29, gi26_30, pi26_30, gi26_31, pi26_31, gr26_32, gr26_33, gr26_34, gr26_35, gr26_36, gr26_37, gr26_38, gr26_39, gr26_40, Option.bind_some, n_1, n_0, ec, bg_e (by omega : 30 ≤ F)]
    refine lpc (fun g m (K1 : hJ) => m181_84 F (m181_69 F f) g 26 (nI b) (nI c) (nI m) (mkH (hs l s d tl) I K1)) y.length (fun m K1 => sq n A ((y.take m).eraseIdx c) (K1 32) 0 ∧ ∀ e, e ≠ 32 → K1 e = K e) (fun r => ∃ x : hJ × Nat × Nat, r = m181_69 F f 26 (nI b) (nI x.2.1 - nI 1) (nI x.2.2) (mkH (hs l s d tl) I x.1) ∧ (sq n A (y ++ [t]) (x.1 37) 0 ∧ (∀ c, c ≠ 32 → c ≠ 37 → x.1 c = J c) ∧ ((x.2.2 = 0 ∧ x.2.1 ≤ i0 ∧ ∀ i, i < x.2.1 → cx_g n A (y.eraseIdx i) ≠ cx_g n A (y ++ [t])) ∨ (x.2.2 = 1 ∧ ∃ c, x.2.1 = c + 1 ∧ c < y.length ∧ cx_g n A (y.eraseIdx c) = cx_g n A (y ++ [t])))) ∧ 2 * (i0 + 1 - x.2.1) + (1 - x.2.2) < 2 * (i0 + 1 - c) + (1 - 0)) ?_ ?_ F 0 (rwJ K 32 0 25 (fun q => zJ (if q / 5 = q % 5 then 1 else 0))) (by omega) (by omega) ⟨by rw [List.take_zero, List.eraseIdx_nil]; exact sq_nil, fun c hc => rwJ_ne hc⟩
    · rintro g K1 ⟨j1, j2⟩
      rw [List.take_length] at j1
      have hel := cx_l_len (A := A) (cx_L_er yL c)
      rw [List.length_eraseIdx] at hel
      have hsq : sq n A (y ++ [t]) (K1 37) 0 := by rw [j2 37 (by decide)]; exact k1
      have hfr : ∀ e, e ≠ 32 → e ≠ 37 → K1 e = J e := fun e a1 a2 => (j2 e a1).trans (k2 e a1 a2)
      have hun := sq_un hok hn5 (cx_L_er yL c) L2 (by split at hel <;> omega) (by omega) j1 hsq
      show ∃ x : hJ × Nat × Nat, m181_84 F _ (g + 1) _ _ _ _ _ = _ ∧ _
      rw [m181_84]
      simp (disch := omega) only [rc26, gi26_0, pi26_0, gr26_1, gr26_2, gr26_3, gr26_4, gi26_5, pi26_5, gi26_6, pi26_6, gi26_7, pi26_7, gl26_8, pl26_8, gi26_9, pi26_9, gi26_10, pi26_10, gr26_11, gi26_12, pi26_12, gr26_13, gr26_14, gi26_15, pi26_15, gi26_16, pi26_16, gr26_17, gr26_18, gi26_19, pi26_19, gr26_20, gr26_21, gr26_22, gr26_23, gr26_24, gr26_25, gr26_26, gi26_27, pi26_27, gr26_28, gr26_29, gi26_30, pi26_30, gi26_31, pi26_31, gr26_32, gr26_33, gr26_34, gr26_35, gr26_36, gr26_37, gr26_38, gr26_39, gr26_40, Option.bind_some, c_ge, rI34, wI34, yb, n_0]
      rw [if_pos (by omega)]
      have ec2 : nI c = nI (c + 1) - nI 1 := (pk_sub1 c).symm
      rcases im_s (I := I) (J := K1) (o := 0) (p := 0) (by omega : 30 ≤ F) (q32 (l := l) (s := s) (d := d) (tl := tl)) q37 (by decide) (by decide) (by omega) (by omega) with ⟨e, h⟩ | ⟨e, h⟩
      · rw [e]
        simp only [Option.bind_some]
        rw [ec2]
        exact ⟨(K1, c + 1, 1), rfl, ⟨hsq, hfr, Or.inr ⟨rfl, c, rfl, by omega, hun.mp h⟩⟩, by dsimp only; omega⟩
      · rw [e]
        simp only [Option.bind_some]
        rw [ec2]
        have hne : cx_g n A (y.eraseIdx c) ≠ cx_g n A (y ++ [t]) := fun h2 => h (hun.mpr h2)
        have hci : c ≠ i0 := fun e => hne (by rw [e]; exact hg0.symm)
        refine ⟨(K1, c + 1, 0), rfl, ⟨hsq, hfr, Or.inl ⟨rfl, by dsimp only; omega, fun i hi => ?_⟩⟩, by dsimp only; omega⟩
        dsimp only at hi
        by_cases hic : i = c
        · rw [hic]
          exact hne
        · exact k5 i (by omega)
    · rintro g m K1 hm ⟨j1, j2⟩
      right
      obtain ⟨r, hr⟩ := ex_at hm
      have hrn := cx_L_at yL hr
      have hL := cx_L_er (take_L yL m) c
      have het := er_take c hr
      show ∃ y, m181_84 F _ (g + 1) _ _ _ _ _ = _ ∧ _
      rw [m181_84]
      simp (disch := omega) only [rc26, gi26_0, pi26_0, gr26_1, gr26_2, gr26_3, gr26_4, gi26_5, pi26_5, gi26_6, pi26_6, gi26_7, pi26_7, gl26_8, pl26_8, gi26_9, pi26_9, gi26_10, pi26_10, gr26_11, gi26_12, pi26_12, gr26_13, gr26_14, gi26_15, pi26_15, gi26_16, pi26_16, gr26_17, gr26_18, gi26_19, pi26_19, gr26_20, gr26_21, gr26_22, gr26_23, gr26_24, gr26_25, gr26_26, gi26_27, pi26_27, gr26_28, gr26_29, gi26_30, pi26_30, gi26_31, pi26_31, gr26_32, gr26_33, gr26_34, gr26_35, gr26_36, gr26_37, gr26_38, gr26_39, gr26_40, Option.bind_some, c_ge, rI34, wI34, rI35, wI35, yb, n_20, pk_mul, nI_add, yw m r hr, c_eq]
      rw [if_neg (by omega)]
      unfold m181_117
      by_cases hmk : m = c
      · rw [if_pos hmk] at het
        rw [if_pos hmk]
        simp only [n_0, n_1, n_2, n_3, n_4, n_5, n_6, n_8, n_9, n_10, n_12, n_20, n_25, n_27, n_30, n_31, n_32, n_40, n_48, n_57, n_59, n_63, n_96, n_97, n_120, n_122, n_255, n_256, n_300, n_301, n_512, n_1000, n_1001, n_1002, n_1003, n_1004, n_1005, n_2000, n_2304, n_4096, nI_add, pk_mul, n_m, c_ge, c_gt, c_lt, c_le, c_eq, c_ne, d_lt, d_ge, d_ne, d_eq, d_gt, d_le, m_ltk, m_gek, m_eq, m_ne]
        exact ⟨_, rfl, by rw [het]; exact j1, j2⟩
      · rw [if_neg hmk] at het
        rw [if_neg hmk]
        obtain ⟨J3, c1, c2, c3⟩ := th_e (l := l) (s := s) (d := d) (tl := tl) (F := F) (J := K1) hM (by omega) hrn hL j1
        simp (disch := omega) only [Option.bind_some, c1, n_0, n_1, n_2, n_3, n_4, n_5, n_6, n_8, n_9, n_10, n_12, n_20, n_25, n_27, n_30, n_31, n_32, n_40, n_48, n_57, n_59, n_63, n_96, n_97, n_120, n_122, n_255, n_256, n_300, n_301, n_512, n_1000, n_1001, n_1002, n_1003, n_1004, n_1005, n_2000, n_2304, n_4096, nI_add, pk_mul, n_m, c_ge, c_gt, c_lt, c_le, c_eq, c_ne, d_lt, d_ge, d_ne, d_eq, d_gt, d_le, m_ltk, m_gek, m_eq, m_ne]
        exact ⟨_, rfl, by rw [het]; exact c2, fun c hc => (c3 c hc).trans (j2 c hc)⟩
  · left
    simp (disch := omega) only [d_ne, pk_sub1]
    rw [if_pos (by omega)]
    exact Tr_ret ⟨⟨c', k4, rfl, k5⟩, rfl, ⟨fun _ _ _ _ _ _ _ _ => rfl, fun _ _ _ _ => rfl, fun c a1 a2 _ _ _ _ => k2 c a1 a2⟩⟩
/-- turnLine -/
theorem tln_e (hM : mo_n n A I) (hF : 30 ≤ F) {t i : Nat} (ht : t < n) {x : List Nat} (hr : rt n A x i (J 41) 0) : ∃ J', e182 F 26 (nI t) (mkH (hs l s d tl) I J) = some ((), (mkH (hs l s d tl) I J')) ∧ rt n A (t :: x) i (J' 41) 0 ∧ ∀ c, c ≠ 41 → J' c = J c := by
  have hMM := hM
  obtain ⟨hok, h1n, hn5, hn, -⟩ := hM
  have key := lpc (fun f k (v : Int64) => m182_5 F f 26 (nI t) v (nI k) (mkH (hs l s d tl) I J)) n (fun k v => v = sJ k (fun j => zJ (A t j) * J 41 (0 + j))) (fun r => r = some ((), (mkH (hs l s d tl) I (upJ J 41 (0 + t) (J 41 (0 + t) - sJ n (fun j => zJ (A t j) * J 41 (0 + j))))))) ?_ ?_ F 0 0 (by omega) (by omega) rfl
  · refine ⟨_, ?_, rt_turn hr ht, fun c hc => upJ_ne hc⟩
    show m182_0 F 26 _ _ = _
    unfold m182_0
    simp only [n_0]
    exact key
  · intro f v hv
    subst hv
    show m182_5 F (f + 1) _ _ _ _ _ = _
    rw [m182_5]
    simp (disch := omega) only [rc26, gi26_0, pi26_0, gr26_1, gr26_2, gr26_3, gr26_4, gi26_5, pi26_5, gi26_6, pi26_6, gi26_7, pi26_7, gl26_8, pl26_8, gi26_9, pi26_9, gi26_10, pi26_10, gr26_11, gi26_12, pi26_12, gr26_13, gr26_14, gi26_15, pi26_15, gi26_16, pi26_16, gr26_17, gr26_18, gi26_19, pi26_19, gr26_20, gr26_21, gr26_22, gr26_23, gr26_24, gr26_25, gr26_26, gi26_27, pi26_27, gr26_28, gr26_29, gi26_30, pi26_30, gi26_31, pi26_31, gr26_32, gr26_33, gr26_34, gr26_35, gr26_36, gr26_37, gr26_38, gr26_39, gr26_40, Option.bind_some, hn, n_0, n_1, n_2, n_3, n_4, n_5, n_6, n_8, n_9, n_10, n_12, n_20, n_25, n_27, n_30, n_31, n_32, n_40, n_48, n_57, n_59, n_63, n_96, n_97, n_120, n_122, n_255, n_256, n_300, n_301, n_512, n_1000, n_1001, n_1002, n_1003, n_1004, n_1005, n_2000, n_2304, n_4096, nI_add, pk_mul, n_m, c_ge, c_gt, c_lt, c_le, c_eq, c_ne, d_lt, d_ge, d_ne, d_eq, d_gt, d_le, m_ltk, m_gek, m_eq, m_ne, rJ41, wJ41]
    rw [if_pos (by omega), Nat.zero_add]
  · intro f k v hk hv
    right
    refine ⟨_, ?_, rfl⟩
    show m182_5 F (f + 1) _ _ _ _ _ = _
    rw [m182_5]
    simp (disch := omega) only [rc26, gi26_0, pi26_0, gr26_1, gr26_2, gr26_3, gr26_4, gi26_5, pi26_5, gi26_6, pi26_6, gi26_7, pi26_7, gl26_8, pl26_8, gi26_9, pi26_9, gi26_10, pi26_10, gr26_11, gi26_12, pi26_12, gr26_13, gr26_14, gi26_15, pi26_15, gi26_16, pi26_16, gr26_17, gr26_18, gi26_19, pi26_19, gr26_20, gr26_21, gr26_22, gr26_23, gr26_24, gr26_25, gr26_26, gi26_27, pi26_27, gr26_28, gr26_29, gi26_30, pi26_30, gi26_31, pi26_31, gr26_32, gr26_33, gr26_34, gr26_35, gr26_36, gr26_37, gr26_38, gr26_39, gr26_40, Option.bind_some, hn, n_0, n_1, n_2, n_3, n_4, n_5, n_6, n_8, n_9, n_10, n_12, n_20, n_25, n_27, n_30, n_31, n_32, n_40, n_48, n_57, n_59, n_63, n_96, n_97, n_120, n_122, n_255, n_256, n_300, n_301, n_512, n_1000, n_1001, n_1002, n_1003, n_1004, n_1005, n_2000, n_2304, n_4096, nI_add, pk_mul, n_m, c_ge, c_gt, c_lt, c_le, c_eq, c_ne, d_lt, d_ge, d_ne, d_eq, d_gt, d_le, m_ltk, m_gek, m_eq, m_ne, rJ41, wJ41, rI28, wI28]
    rw [if_neg (by omega), mo_A hMM ht hk, hv, sJ, Nat.zero_add]
/-- inversion -/
theorem ivr_e (hM : mo_n n A I) (hk : km n A els I) (hF : 300 ≤ F) {y : List Nat} {i k t : Nat} (hb : els[b]? = some y) (hi : i < y.length) (hkn : k < n) (ht : y[y.length - 1 - i]? = some t) :
    Tr (hs l s d tl) (e183 F 26 (nI b) (nI i) (nI k) (mkH (hs l s d tl) I J)) (fun v I' J' => v = zJ (cx_x n A (y.drop (y.length - i)).reverse (cx_e t) k) ∧ I' = I ∧ rfr I I' J J') := by
  have hn5 := hM.2.2.1
  obtain ⟨yc, yL, yl, y20, b40, yb, yw⟩ := km_c hk hb
  have htn := cx_L_at yL ht
  have hin : e137 F (nI i).toInt64 0 ((nI y.length - nI 1).toInt64) (mkH (hs l s d tl) I J) = some (nI 1, (mkH (hs l s d tl) I J)) := by
    rcases bw_n (F := F) (nI i) (show y.length < 2 ^ 30 by omega) (mkH (hs l s d tl) I J) with ⟨_, _, _, h⟩ | ⟨h, _⟩
    · exact h
    · exact absurd rfl (h i hi)
  show Tr _ (m183_0 F 26 _ _ _ _) _
  unfold m183_0
  simp (disch := omega) only [rc26, gi26_0, pi26_0, gr26_1, gr26_2, gr26_3, gr26_4, gi26_5, pi26_5, gi26_6, pi26_6, gi26_7, pi26_7, gl26_8, pl26_8, gi26_9, pi26_9, gi26_10, pi26_10, gr26_11, gi26_12, pi26_12, gr26_13, gr26_14, gi26_15, pi26_15, gi26_16, pi26_16, gr26_17, gr26_18, gi26_19, pi26_19, gr26_20, gr26_21, gr26_22, gr26_23, gr26_24, gr26_25, gr26_26, gi26_27, pi26_27, gr26_28, gr26_29, gi26_30, pi26_30, gi26_31, pi26_31, gr26_32, gr26_33, gr26_34, gr26_35, gr26_36, gr26_37, gr26_38, gr26_39, gr26_40, Option.bind_some, ie1 hk hb, mm1 hM hkn, d_ne, n_1, rI34, wI34, yb, hin, n_0]
  rw [if_pos (by omega), if_pos (by omega), if_pos (by omega)]
  simp (disch := omega) only [pk_sub]
  refine lpc (fun f j (K : hJ) => m183_59 F f 26 (nI b) (nI k) (nI (y.length - 1 - i)) (nI j) (mkH (hs l s d tl) I K)) 5 (fun j K => K = rwJ J 41 0 j (fun j => zJ (cx_e t j))) (fun r => Tr (hs l s d tl) r _) ?_ ?_ F 0 J (by omega) (by omega) rwJ_0.symm
  · rintro f K rfl
    show Tr _ (m183_59 F (f + 1) _ _ _ _ _ _) _
    rw [m183_59]
    simp (disch := omega) only [n_5, n_1, c_ge, nI_add]
    rw [if_pos (by omega), show y.length - 1 - i + 1 = y.length - i by omega]
    have hr0 : rt n A [] t (rwJ J 41 0 5 (fun j => zJ (cx_e t j)) 41) 0 := by
      intro q hq
      rw [rwJ_in (by omega)]
      rfl
    refine lpc (fun f j (K : hJ) => m183_106 F f 26 (nI b) (nI k) (nI j) (mkH (hs l s d tl) I K)) y.length (fun j K => y.length - i ≤ j ∧ rt n A ((y.drop (y.length - i)).take (j - (y.length - i))).reverse t (K 41) 0 ∧ (∀ c, c ≠ 41 → K c = J c)) (fun r => Tr (hs l s d tl) r _) ?_ ?_ F (y.length - i) (rwJ J 41 0 5 (fun j => zJ (cx_e t j))) (by omega) (by omega) ⟨Nat.le_refl _, by rw [Nat.sub_self, List.take_zero]; exact hr0, fun c hc => rwJ_ne hc⟩
    · rintro f K ⟨-, k1, k2⟩
      have e : (y.drop (y.length - i)).take (y.length - (y.length - i)) = y.drop (y.length - i) := by rw [← List.length_drop, List.take_length]
      rw [e] at k1
      show Tr _ (m183_106 F (f + 1) _ _ _ _ _) _
      rw [m183_106]
      simp (disch := omega) only [rc26, gi26_0, pi26_0, gr26_1, gr26_2, gr26_3, gr26_4, gi26_5, pi26_5, gi26_6, pi26_6, gi26_7, pi26_7, gl26_8, pl26_8, gi26_9, pi26_9, gi26_10, pi26_10, gr26_11, gi26_12, pi26_12, gr26_13, gr26_14, gi26_15, pi26_15, gi26_16, pi26_16, gr26_17, gr26_18, gi26_19, pi26_19, gr26_20, gr26_21, gr26_22, gr26_23, gr26_24, gr26_25, gr26_26, gi26_27, pi26_27, gr26_28, gr26_29, gi26_30, pi26_30, gi26_31, pi26_31, gr26_32, gr26_33, gr26_34, gr26_35, gr26_36, gr26_37, gr26_38, gr26_39, gr26_40, Option.bind_some, c_ge, rI34, wI34, rJ41, wJ41, yb]
      rw [if_pos (by omega)]
      have := k1 k hkn
      rw [Nat.zero_add] at this
      exact Tr_ret ⟨this, rfl, ⟨fun _ _ _ _ _ _ _ _ => rfl, fun _ _ _ _ => rfl, fun c _ _ _ _ _ a6 => k2 c a6⟩⟩
    · rintro f j K hj ⟨k0, k1, k2⟩
      right
      obtain ⟨r, hr⟩ := ex_at hj
      have hrn := cx_L_at yL hr
      have hr2 : (y.drop (y.length - i))[j - (y.length - i)]? = some r := by
        rw [List.getElem?_drop, ← hr]
        congr 1
        omega
      obtain ⟨J2, c1, c2, c3⟩ := tln_e (l := l) (s := s) (d := d) (tl := tl) (F := F) (J := K) hM (by omega) hrn k1
      show ∃ y, m183_106 F (f + 1) _ _ _ _ _ = _ ∧ _
      rw [m183_106]
      simp (disch := omega) only [rc26, gi26_0, pi26_0, gr26_1, gr26_2, gr26_3, gr26_4, gi26_5, pi26_5, gi26_6, pi26_6, gi26_7, pi26_7, gl26_8, pl26_8, gi26_9, pi26_9, gi26_10, pi26_10, gr26_11, gi26_12, pi26_12, gr26_13, gr26_14, gi26_15, pi26_15, gi26_16, pi26_16, gr26_17, gr26_18, gi26_19, pi26_19, gr26_20, gr26_21, gr26_22, gr26_23, gr26_24, gr26_25, gr26_26, gi26_27, pi26_27, gr26_28, gr26_29, gi26_30, pi26_30, gi26_31, pi26_31, gr26_32, gr26_33, gr26_34, gr26_35, gr26_36, gr26_37, gr26_38, gr26_39, gr26_40, Option.bind_some, n_0, n_1, n_2, n_3, n_4, n_5, n_6, n_8, n_9, n_10, n_12, n_20, n_25, n_27, n_30, n_31, n_32, n_40, n_48, n_57, n_59, n_63, n_96, n_97, n_120, n_122, n_255, n_256, n_300, n_301, n_512, n_1000, n_1001, n_1002, n_1003, n_1004, n_1005, n_2000, n_2304, n_4096, nI_add, pk_mul, n_m, c_ge, c_gt, c_lt, c_le, c_eq, c_ne, d_lt, d_ge, d_ne, d_eq, d_gt, d_le, m_ltk, m_gek, m_eq, m_ne, rI34, wI34, rI35, wI35, yb, yw j r hr, c1]
      rw [if_neg (by omega)]
      refine ⟨_, rfl, by omega, ?_, fun e he => (c3 e he).trans (k2 e he)⟩
      rw [show j + 1 - (y.length - i) = j - (y.length - i) + 1 by omega, take_c hr2, List.reverse_append]
      exact c2
  · intro f j K hj hK
    right
    have up := upJ_rw (J := J) (b := 41) (o := 0) (k := j) (f := fun j => zJ (cx_e t j))
    rw [Nat.zero_add] at up
    show ∃ y, m183_59 F (f + 1) _ _ _ _ _ _ = _ ∧ _
    rw [m183_59]
    simp (disch := omega) only [rc26, gi26_0, pi26_0, gr26_1, gr26_2, gr26_3, gr26_4, gi26_5, pi26_5, gi26_6, pi26_6, gi26_7, pi26_7, gl26_8, pl26_8, gi26_9, pi26_9, gi26_10, pi26_10, gr26_11, gi26_12, pi26_12, gr26_13, gr26_14, gi26_15, pi26_15, gi26_16, pi26_16, gr26_17, gr26_18, gi26_19, pi26_19, gr26_20, gr26_21, gr26_22, gr26_23, gr26_24, gr26_25, gr26_26, gi26_27, pi26_27, gr26_28, gr26_29, gi26_30, pi26_30, gi26_31, pi26_31, gr26_32, gr26_33, gr26_34, gr26_35, gr26_36, gr26_37, gr26_38, gr26_39, gr26_40, Option.bind_some, n_5, n_20, c_ge, pk_mul, nI_add, rI35, wI35, yw _ t ht, c_ne]
    rw [if_neg (by omega)]
    unfold m183_93
    unfold cx_e at up
    by_cases hjt : j = t
    · rw [if_neg (fun h => h hjt)]
      rw [if_pos hjt] at up
      simp (disch := omega) only [rJ41, wJ41, Option.bind_some, n_0, n_1, n_2, n_3, n_4, n_5, n_6, n_8, n_9, n_10, n_12, n_20, n_25, n_27, n_30, n_31, n_32, n_40, n_48, n_57, n_59, n_63, n_96, n_97, n_120, n_122, n_255, n_256, n_300, n_301, n_512, n_1000, n_1001, n_1002, n_1003, n_1004, n_1005, n_2000, n_2304, n_4096, nI_add, pk_mul, n_m, c_ge, c_gt, c_lt, c_le, c_eq, c_ne, d_lt, d_ge, d_ne, d_eq, d_gt, d_le, m_ltk, m_gek, m_eq, m_ne]
      rw [hK, j_1]
      unfold cx_e
      rw [up]
      exact ⟨_, rfl, rfl⟩
    · rw [if_pos hjt]
      rw [if_neg hjt] at up
      simp (disch := omega) only [rJ41, wJ41, Option.bind_some, n_0, n_1, n_2, n_3, n_4, n_5, n_6, n_8, n_9, n_10, n_12, n_20, n_25, n_27, n_30, n_31, n_32, n_40, n_48, n_57, n_59, n_63, n_96, n_97, n_120, n_122, n_255, n_256, n_300, n_301, n_512, n_1000, n_1001, n_1002, n_1003, n_1004, n_1005, n_2000, n_2304, n_4096, nI_add, pk_mul, n_m, c_ge, c_gt, c_lt, c_le, c_eq, c_ne, d_lt, d_ge, d_ne, d_eq, d_gt, d_le, m_ltk, m_gek, m_eq, m_ne]
      rw [hK, j_0]
      unfold cx_e
      rw [up]
      exact ⟨_, rfl, rfl⟩
end S
