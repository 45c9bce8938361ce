/-! The class: Words. -/
section S
variable {l s d : Value} {tl : List hQ} {F : Nat} {I : hI} {J : hJ} {n a b o p N M : Nat} {A : Nat → Nat → Int} {els : List (List Nat)}
/-- the mirrors of a set -/
def bt (S j : Nat) : Prop := S / 2 ^ j % 2 = 1
/-- takeDown -/
theorem td_e (hc : cl_n n A I) (hF : 30 ≤ F) {S : Nat} (hS : S < 32) {u z : List Nat} (hu : cx_L n u) (hl : cx_l n A u ≤ 20) (hz : tk n A (bt S) u z) (hw : wt n A u (J 15) 0) :
    Tr (hs l s d tl) (e99 F 14 (nI S) (mkH (hs l s d tl) I J)) (fun v I' J' => v = nI z.length ∧ wd (I' 17) 0 z ∧ wt n A (u ++ z) (J' 15) 0 ∧ (∀ c, c ≠ 17 → I' c = I c) ∧ ∀ c, c ≠ 15 → J' c = J c) := by
  have hok := hc.1
  have hn5 := hc.2.2.1
  have hlen := tk_len hok hu hz
  refine lpc (fun f k (x : hI × hJ × List Nat) => m99_2 F f 14 (nI S) (nI k) (mkH (hs l s d tl) x.1 x.2.1)) 20 (fun k x => x.2.2.length = k ∧ (∃ z2, z = x.2.2 ++ z2) ∧ wt n A (u ++ x.2.2) (x.2.1 15) 0 ∧ wd (x.1 17) 0 x.2.2 ∧ (∀ c, c ≠ 17 → x.1 c = I c) ∧ ∀ c, c ≠ 15 → x.2.1 c = J c) (fun r => Tr (hs l s d tl) r _) ?_ ?_ F 0 (I, J, []) (by omega) (by omega) ⟨rfl, ⟨z, rfl⟩, by rw [List.append_nil]; exact hw, wd_nil, fun _ _ => rfl, fun _ _ => rfl⟩
  · rintro f ⟨I1, J1, z1⟩ ⟨h1, ⟨z2, h2⟩, h3, h4, h6, h8⟩
    dsimp only at h1 h2 h3 h4 h6 h8
    have e : z2 = [] := by
      have := congrArg List.length h2
      rw [List.length_append] at this
      exact List.length_eq_zero_iff.mp (by omega)
    rw [e, List.append_nil] at h2
    subst h2
    show Tr _ (m99_2 F (f + 1) _ _ _ _) _
    rw [m99_2]
    simp (disch := omega) only [n_0, n_1, n_2, n_3, n_4, n_5, n_6, n_8, n_9, n_10, n_12, n_20, n_25, n_27, n_30, n_31, n_32, n_40, n_48, n_57, n_59, n_63, n_96, n_97, n_120, n_122, n_255, n_256, n_300, n_301, n_512, n_1000, n_1001, n_1002, n_1003, n_1004, n_1005, n_2000, n_2304, n_4096, nI_add, pk_mul, n_m, c_ge, c_gt, c_lt, c_le, c_eq, c_ne, d_lt, d_ge, d_ne, d_eq, d_gt, d_le, m_ltk, m_gek, m_eq, m_ne]
    rw [if_pos (by omega)]
    exact Tr_ret ⟨by rw [h1], h4, h3, h6, h8⟩
  · rintro f k ⟨I1, J1, z1⟩ hk ⟨h1, ⟨z2, h2⟩, h3, h4, h6, h8⟩
    dsimp only at h1 h2 h3 h4 h6 h8
    have hc1 : cl_n n A I1 := cl_fr hc (h6 1 (by decide)) (h6 3 (by decide))
    have hL1 : cx_L n (u ++ z1) := cx_L_app hu (cx_L_l (h2 ▸ hlen.1))
    have ht : tk n A (bt S) (u ++ z1) z2 := tk_app (h2 ▸ hz)
    have hl1 : cx_l n A (u ++ z1) ≤ 31 := by
      have a1 := tk_len hok hL1 ht
      rw [List.append_assoc, ← h2] at a1
      have a2 := congrArg List.length h2
      rw [List.length_append] at a2
      omega
    obtain ⟨v, hv, hlst⟩ := lb_e (l := l) (s := s) (d := d) (tl := tl) (F := F) (I := I1) (J := J1) (o := 0) hc1.2.2.2.1 hn5 (by omega) q15 (by decide) (by omega) hS
    have hcase := lst_tk (p := bt S) (fun j hj => by
      rw [wt_dn hok hL1 hl1 h3 hj]
      exact ⟨fun h => ⟨h.2, h.1⟩, fun h => ⟨h.2, h.1⟩⟩) hlst ht
    show Tr _ (m99_2 F (f + 1) _ _ _ _) _ ∨ ∃ y, m99_2 F (f + 1) _ _ _ _ = _ ∧ _
    rw [m99_2]
    simp (disch := omega) only [n_0, n_1, n_2, n_3, n_4, n_5, n_6, n_8, n_9, n_10, n_12, n_20, n_25, n_27, n_30, n_31, n_32, n_40, n_48, n_57, n_59, n_63, n_96, n_97, n_120, n_122, n_255, n_256, n_300, n_301, n_512, n_1000, n_1001, n_1002, n_1003, n_1004, n_1005, n_2000, n_2304, n_4096, nI_add, pk_mul, n_m, c_ge, c_gt, c_lt, c_le, c_eq, c_ne, d_lt, d_ge, d_ne, d_eq, d_gt, d_le, m_ltk, m_gek, m_eq, m_ne, rc0, gr0_0, gr0_1, gr0_2, gr0_3, gr0_4, gr0_5, gr0_6, gi0_7, pi0_7, rc1, gi1_0, pi1_0, gr1_1, gr1_2, rc4, gr4_0, gi4_1, pi4_1, gi4_2, pi4_2, gi4_3, pi4_3, gi4_4, pi4_4, gi4_5, pi4_5, gr4_6, gr4_7, rc8, gr8_0, gi8_1, pi8_1, gr8_2, gr8_3, gr8_4, gr8_5, gr8_6, rc14, gr14_0, gr14_1, gr14_2, gr14_3, gr14_4, gr14_5, rc19, gr19_0, gr19_1, gr19_2, gr19_3, rc22, gr22_0, gr22_1, gr22_2, gr22_3, Option.bind_some, hv, g_ne]
    rw [if_neg (by omega)]
    rcases hcase with ⟨e1, e2⟩ | ⟨t, z3, e1, e2, e3⟩
    · left
      rw [if_neg (fun h => h e2)]
      rw [e1, List.append_nil] at h2
      subst h2
      exact Tr_ret ⟨by rw [h1], h4, h3, h6, h8⟩
    · right
      rw [if_pos (by rw [e3]; exact Ne.symm (gI_nI (by omega) (by omega) (by omega)))]
      rw [e3]
      simp (disch := omega) only [rI17, wI17, Option.bind_some, rc0, gr0_0, gr0_1, gr0_2, gr0_3, gr0_4, gr0_5, gr0_6, gi0_7, pi0_7, rc1, gi1_0, pi1_0, gr1_1, gr1_2, rc4, gr4_0, gi4_1, pi4_1, gi4_2, pi4_2, gi4_3, pi4_3, gi4_4, pi4_4, gi4_5, pi4_5, gr4_6, gr4_7, rc8, gr8_0, gi8_1, pi8_1, gr8_2, gr8_3, gr8_4, gr8_5, gr8_6, rc14, gr14_0, gr14_1, gr14_2, gr14_3, gr14_4, gr14_5, rc19, gr19_0, gr19_1, gr19_2, gr19_3, rc22, gr22_0, gr22_1, gr22_2, gr22_3]
      rw [tw_e (cl_fr hc1 (upI_ne (by decide)) (upI_ne (by decide))) (by omega) q15 (by decide) (by omega) e2]
      simp only [Option.bind_some, Prod.exists]
      refine ⟨_, _, z1 ++ [t], rfl, by simp; omega, ⟨z3, by rw [h2, e1, List.append_assoc]; rfl⟩, ?_, ?_, ?_, ?_⟩
      · rw [← List.append_assoc]
        exact wt_turn h3 e2
      · have := wd_snoc (c := t) h4
        rw [h1, Nat.zero_add] at this
        exact this
      · exact fun c hcb => (upI_ne hcb).trans (h6 c hcb)
      · exact fun c hca => (rwJ_ne hca).trans (h8 c hca)
theorem rev_at {z : List Nat} {k : Nat} (hk : k < z.length) {t : Nat} (h : z[z.length - 1 - k]? = some t) : z.reverse[k]? = some t := by
  rw [List.getElem?_reverse hk]
  exact h
/-- keepTaken -/
theorem kt_e (hc : cl_n n A I) (hk : kp n A els I J) (hF : 100 ≤ F) {z y : List Nat} (hz : cx_L n z) (h20 : z.length ≤ 20) (hwd : wd (I 17) 0 z) (hy : cx_c n A y) (hg : cx_g n A y = cx_g n A z.reverse) :
    Tr (hs l s d tl) (e102 F 14 (nI z.length) (mkH (hs l s d tl) I J)) (fun v I' J' => ∃ els', kpr els y v els' ∧ kp n A els' I' J' ∧ (∀ c, c ≠ 8 → c ≠ 9 → c ≠ 10 → c ≠ 18 → I' c = I c) ∧ (∀ c, c ≠ 11 → c ≠ 12 → c ≠ 13 → J' c = J c)) := by
  refine lpc (fun f k (I1 : hI) => m102_2 F f 14 (nI z.length) (nI k) (mkH (hs l s d tl) I1 J)) z.length (fun k I1 => wd (I1 18) 0 (z.reverse.take k) ∧ ∀ c, c ≠ 18 → I1 c = I c) (fun r => Tr (hs l s d tl) r _) ?_ ?_ F 0 I (by omega) (by omega) ⟨wd_nil, fun _ _ => rfl⟩
  · rintro f I1 ⟨h1, h2⟩
    show Tr _ (m102_2 F (f + 1) _ _ _ _) _
    rw [m102_2]
    simp (disch := omega) only [n_0, n_1, n_2, n_3, n_4, n_5, n_6, n_8, n_9, n_10, n_12, n_20, n_25, n_27, n_30, n_31, n_32, n_40, n_48, n_57, n_59, n_63, n_96, n_97, n_120, n_122, n_255, n_256, n_300, n_301, n_512, n_1000, n_1001, n_1002, n_1003, n_1004, n_1005, n_2000, n_2304, n_4096, nI_add, pk_mul, n_m, c_ge, c_gt, c_lt, c_le, c_eq, c_ne, d_lt, d_ge, d_ne, d_eq, d_gt, d_le, m_ltk, m_gek, m_eq, m_ne, rc0, gr0_0, gr0_1, gr0_2, gr0_3, gr0_4, gr0_5, gr0_6, gi0_7, pi0_7, rc1, gi1_0, pi1_0, gr1_1, gr1_2, rc4, gr4_0, gi4_1, pi4_1, gi4_2, pi4_2, gi4_3, pi4_3, gi4_4, pi4_4, gi4_5, pi4_5, gr4_6, gr4_7, rc8, gr8_0, gi8_1, pi8_1, gr8_2, gr8_3, gr8_4, gr8_5, gr8_6, rc14, gr14_0, gr14_1, gr14_2, gr14_3, gr14_4, gr14_5, rc19, gr19_0, gr19_1, gr19_2, gr19_3, rc22, gr22_0, gr22_1, gr22_2, gr22_3, Option.bind_some]
    rw [if_pos (by omega)]
    have e : z.reverse.take z.length = z.reverse := by
      rw [← List.length_reverse, List.take_length]
    rw [e] at h1
    have hlr : z.reverse.length = z.length := List.length_reverse
    obtain ⟨v, I2, J2, e1, els', k1, k2, k3, k4⟩ := kw_e (l := l) (s := s) (d := d) (tl := tl) (F := F) (I := I1) (J := J) (cl_fr hc (h2 1 (by decide)) (h2 3 (by decide))) (kp_fr hk (h2 8 (by decide)) (h2 9 (by decide)) (h2 10 (by decide)) rfl rfl) hF q18 (by decide) (cx_L_rev hz) (by omega) (by omega) h1 hy hg
    rw [hlr] at e1
    rw [e1]
    simp only [Option.bind_some]
    exact Tr_ret ⟨els', k1, k2, fun c c1 c2 c3 c4 => (k3 c c1 c2 c3).trans (h2 c c4), k4⟩
  · rintro f k I1 hk2 ⟨h1, h2⟩
    right
    obtain ⟨t, ht⟩ := ex_at (show z.length - 1 - k < z.length by omega)
    have hr := rev_at hk2 ht
    show ∃ y, m102_2 F (f + 1) _ _ _ _ = _ ∧ _
    rw [m102_2]
    have h17 : I1 17 (z.length - 1 - k) = nI t := by
      have := hwd _ t ht
      rw [Nat.zero_add] at this
      rw [h2 17 (by decide), this]
    simp (disch := omega) only [n_0, n_1, n_2, n_3, n_4, n_5, n_6, n_8, n_9, n_10, n_12, n_20, n_25, n_27, n_30, n_31, n_32, n_40, n_48, n_57, n_59, n_63, n_96, n_97, n_120, n_122, n_255, n_256, n_300, n_301, n_512, n_1000, n_1001, n_1002, n_1003, n_1004, n_1005, n_2000, n_2304, n_4096, nI_add, pk_mul, n_m, c_ge, c_gt, c_lt, c_le, c_eq, c_ne, d_lt, d_ge, d_ne, d_eq, d_gt, d_le, m_ltk, m_gek, m_eq, m_ne, rc0, gr0_0, gr0_1, gr0_2, gr0_3, gr0_4, gr0_5, gr0_6, gi0_7, pi0_7, rc1, gi1_0, pi1_0, gr1_1, gr1_2, rc4, gr4_0, gi4_1, pi4_1, gi4_2, pi4_2, gi4_3, pi4_3, gi4_4, pi4_4, gi4_5, pi4_5, gr4_6, gr4_7, rc8, gr8_0, gi8_1, pi8_1, gr8_2, gr8_3, gr8_4, gr8_5, gr8_6, rc14, gr14_0, gr14_1, gr14_2, gr14_3, gr14_4, gr14_5, rc19, gr19_0, gr19_1, gr19_2, gr19_3, rc22, gr22_0, gr22_1, gr22_2, gr22_3, Option.bind_some, pk_sub, rI17, wI17, rI18, wI18, h17]
    rw [if_neg (by omega)]
    refine ⟨_, rfl, ?_, fun c hc => (upI_ne hc).trans (h2 c hc)⟩
    rw [take_c hr]
    have := wd_snoc (c := t) h1
    rw [List.length_take, List.length_reverse, Nat.min_eq_left (by omega), Nat.zero_add] at this
    exact this
/-- keepOfRight -/
theorem kr_e (hc : cl_n n A I) (hk : kp n A els I J) (hF : 100 ≤ F) {u y : List Nat} (hu : cx_L n u) (hl : cx_l n A u ≤ 20) (hw : wt n A u (J 15) 0) (hy : cx_c n A y) (hg : cx_g n A y = cx_g n A u) :
    Tr (hs l s d tl) (e101 F 14 (mkH (hs l s d tl) I J)) (fun v I' J' => ∃ els', kpr els y v els' ∧ kp n A els' I' J' ∧ (∀ c, c ≠ 8 → c ≠ 9 → c ≠ 10 → c ≠ 17 → c ≠ 18 → I' c = I c) ∧ (∀ c, c ≠ 11 → c ≠ 12 → c ≠ 13 → c ≠ 15 → J' c = J c)) := by
  have hok := hc.1
  obtain ⟨z, hz⟩ := tk_ex hok (fun _ => True) _ hu rfl
  have hzc := tk_c hok hu hz
  have hzL := cx_c_L hzc.1
  have hzl : z.length ≤ 20 := by
    have h1 := cx_c_l hzc.1
    have h2 := cx_l_eq hzc.2
    have h3 := cx_l_rev hok hu
    omega
  have hg2 : cx_g n A y = cx_g n A z.reverse := by
    have := cx_g_rev hok hzL (cx_L_rev hu) hzc.2
    rw [List.reverse_reverse] at this
    rw [hg, this]
  show Tr _ (m101_0 F 14 _) _
  unfold m101_0
  simp (disch := omega) only [rc0, gr0_0, gr0_1, gr0_2, gr0_3, gr0_4, gr0_5, gr0_6, gi0_7, pi0_7, rc1, gi1_0, pi1_0, gr1_1, gr1_2, rc4, gr4_0, gi4_1, pi4_1, gi4_2, pi4_2, gi4_3, pi4_3, gi4_4, pi4_4, gi4_5, pi4_5, gr4_6, gr4_7, rc8, gr8_0, gi8_1, pi8_1, gr8_2, gr8_3, gr8_4, gr8_5, gr8_6, rc14, gr14_0, gr14_1, gr14_2, gr14_3, gr14_4, gr14_5, rc19, gr19_0, gr19_1, gr19_2, gr19_3, rc22, gr22_0, gr22_1, gr22_2, gr22_3, Option.bind_some, n_0, n_1, n_2, n_3, n_4, n_5, n_6, n_8, n_9, n_10, n_12, n_20, n_25, n_27, n_30, n_31, n_32, n_40, n_48, n_57, n_59, n_63, n_96, n_97, n_120, n_122, n_255, n_256, n_300, n_301, n_512, n_1000, n_1001, n_1002, n_1003, n_1004, n_1005, n_2000, n_2304, n_4096, nI_add, pk_mul, n_m, c_ge, c_gt, c_lt, c_le, c_eq, c_ne, d_lt, d_ge, d_ne, d_eq, d_gt, d_le, m_ltk, m_gek, m_eq, m_ne]
  obtain ⟨v, I1, J1, e1, h1, h2, h3, h4, h5⟩ := spell_e (l := l) (s := s) (d := d) (tl := tl) (F := F) (J := J) (p := 0) (a := 15) (b := 17) hc (by omega) q15 (by decide) (by decide) q17 (by decide) (by decide) hu (by omega) hz (by omega) hw
  rw [e1]
  simp (disch := omega) only [rc0, gr0_0, gr0_1, gr0_2, gr0_3, gr0_4, gr0_5, gr0_6, gi0_7, pi0_7, rc1, gi1_0, pi1_0, gr1_1, gr1_2, rc4, gr4_0, gi4_1, pi4_1, gi4_2, pi4_2, gi4_3, pi4_3, gi4_4, pi4_4, gi4_5, pi4_5, gr4_6, gr4_7, rc8, gr8_0, gi8_1, pi8_1, gr8_2, gr8_3, gr8_4, gr8_5, gr8_6, rc14, gr14_0, gr14_1, gr14_2, gr14_3, gr14_4, gr14_5, rc19, gr19_0, gr19_1, gr19_2, gr19_3, rc22, gr22_0, gr22_1, gr22_2, gr22_3, Option.bind_some]
  rw [h1]
  obtain ⟨v2, I2, J2, e2, els', k1, k2, k3, k4⟩ := kt_e (l := l) (s := s) (d := d) (tl := tl) (F := F) (I := I1) (J := J1) (cl_fr hc (h3 1 (by decide)) (h3 3 (by decide))) (kp_fr hk (h3 8 (by decide)) (h3 9 (by decide)) (h3 10 (by decide)) (h5 11 (by decide)) (h5 12 (by decide))) hF hzL hzl h2 hy hg2
  rw [e2]
  simp (disch := omega) only [Option.bind_some]
  exact Tr_ret ⟨els', k1, k2, fun c c1 c2 c3 c4 c5 => (k3 c c1 c2 c3 c5).trans (h3 c c4), fun c c1 c2 c3 c4 => (k4 c c1 c2 c3).trans (h5 c c4)⟩
end S
