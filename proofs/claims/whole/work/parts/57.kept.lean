/-! The class: elements are kept. -/
theorem g_ne (x y : Int32) : (mc2 .ne x y = true) = ¬ x = y := by
  show (decide (¬ x = y) = true) = _
  rw [decide_eq_true_eq]
theorem g_eq (x y : Int32) : (mc2 .eq x y = true) = (x = y) := by
  show (decide (x = y) = true) = _
  rw [decide_eq_true_eq]
theorem g_ne0 (x : Int32) : (mc1 .ne x = true) = ¬ x = 0 := by
  show (decide (¬ x = 0) = true) = _
  rw [decide_eq_true_eq]
theorem g_eq0 (x : Int32) : (mc1 .eq x = true) = (x = 0) := by
  show (decide (x = 0) = true) = _
  rw [decide_eq_true_eq]
theorem allbit : ∀ n, n ≤ 5 → ∀ j, j < n → (2 ^ n - 1) / 2 ^ j % 2 = 1 := by decide +kernel
theorem all32 : ∀ n, n ≤ 5 → 2 ^ n - 1 < 32 := by decide +kernel
theorem lst_tk {n : Nat} {A : Nat → Nat → Int} {p q : Nat → Prop} {u z : List Nat} {v : Int32} (hq : ∀ j, j < n → (q j ↔ p j ∧ dn n A u j)) (hl : lst n q v) (ht : tk n A p u z) : (z = [] ∧ v = gI 1) ∨ ∃ t z3, z = t :: z3 ∧ t < n ∧ v = nI t := by
  cases z with
  | nil =>
    left
    refine ⟨rfl, ?_⟩
    rcases hl with ⟨j, h1, h2, h3, h4⟩ | ⟨h1, h2⟩
    · exact absurd ((hq j h1).mp h3) (ht j h1)
    · exact h1
  | cons t z3 =>
    right
    refine ⟨t, z3, rfl, ht.1.1, ?_⟩
    rcases hl with ⟨j, h1, h2, h3, h4⟩ | ⟨h1, h2⟩
    · have : j = t := by
        have hj := (hq j h1).mp h3
        apply Nat.le_antisymm
        · apply Nat.le_of_not_lt
          intro hlt
          exact h4 t hlt ((hq t ht.1.1).mpr ⟨ht.1.2.1, ht.1.2.2.1⟩)
        · apply Nat.le_of_not_lt
          intro hlt
          exact ht.1.2.2.2 j hlt hj
      rw [h2, this]
    · exact absurd ((hq t ht.1.1).mpr ⟨ht.1.2.1, ht.1.2.2.1⟩) (h2 t ht.1.1)
def kp (n : Nat) (A : Nat → Nat → Int) (els : List (List Nat)) (I : hI) (J : hJ) : Prop := 1 ≤ els.length ∧ els.length ≤ 40 ∧ els[0]? = some [] ∧ I 8 1 = nI els.length ∧ ∀ w y, els[w]? = some y → cx_c n A y ∧ y.length ≤ 20 ∧ I 10 w = nI y.length ∧ wd (I 9) (w * 20) y ∧ wt n A y.reverse (J 11) (w * 5) ∧ wt n A y (J 12) (w * 5)
section S
variable {l s d : Value} {tl : List hQ} {F : Nat} {I : hI} {J : hJ} {n a b o p N M : Nat} {A : Nat → Nat → Int}
theorem cl_fr {I' : hI} (h : cl_n n A I) (h1 : I' 1 = I 1) (h3 : I' 3 = I 3) : cl_n n A I' := by
  unfold cl_n at *
  rw [h1, h3]
  exact h
theorem kp_fr {els : List (List Nat)} {I' : hI} {J' : hJ} (h : kp n A els I J) (h8 : I' 8 = I 8) (h9 : I' 9 = I 9) (h10 : I' 10 = I 10) (h11 : J' 11 = J 11) (h12 : J' 12 = J 12) : kp n A els I' J' := by
  unfold kp at *
  rw [h8, h9, h10, h11, h12]
  exact h
theorem pk_sub1 (k : Nat) : nI (k + 1) - nI 1 = nI k := nI_pred k
theorem spell_e (hc : cl_n n A I) (hF : 30 ≤ F) (ha : (hs l s d tl)[a]? = some (.inl (1, N))) (hN : N < 2 ^ 31) (h5 : 5 ≤ N) (hb : (hs l s d tl)[b]? = some (.inl (0, M))) (hM : M < 2 ^ 31) (hb3 : b ≠ 3) {u z : List Nat} (hu : cx_L n u) (hl : cx_l n A u ≤ 20) (hz : tk n A (fun _ => True) u z) (hp : p + z.length ≤ M) (hw : wt n A u (J a) 0) :
    Tr (hs l s d tl) (e20 F 8 a b (nI p) (mkH (hs l s d tl) I J)) (fun v I' J' => v = nI z.length ∧ wd (I' b) p z ∧ (∀ c, c ≠ b → I' c = I c) ∧ (∀ i, i < p ∨ p + z.length ≤ i → I' b i = I b i) ∧ ∀ c, c ≠ a → J' c = J c) := by
  have hok := hc.1
  have hn5 := hc.2.2.1
  have hb1 : b ≠ 1 := fun e => by rw [e, q1] at hb; cases hb
  have hlen := tk_len hok hu hz
  refine lpc (fun f k (x : hI × hJ × List Nat) => m20_3 F f 8 a b (nI p) (nI k) (mkH (hs l s d tl) x.1 x.2.1)) 20 (fun k x => x.2.2.length = k ∧ (∃ z2, z = x.2.2 ++ z2) ∧ wt n A (u ++ x.2.2) (x.2.1 a) 0 ∧ wd (x.1 b) p x.2.2 ∧ (∀ c, c ≠ b → x.1 c = I c) ∧ (∀ i, i < p ∨ p + z.length ≤ i → x.1 b i = I b i) ∧ ∀ c, c ≠ a → x.2.1 c = J c) (fun r => Tr (hs l s d tl) r (fun v I' J' => v = nI z.length ∧ wd (I' b) p z ∧ (∀ c, c ≠ b → I' c = I c) ∧ (∀ i, i < p ∨ p + z.length ≤ i → I' b i = I b i) ∧ ∀ c, c ≠ a → J' c = J c)) ?_ ?_ F 0 (I, J, []) (by omega) (by omega) ⟨rfl, ⟨z, rfl⟩, by rw [List.append_nil]; exact hw, wd_nil, fun _ _ => rfl, fun _ _ => rfl, fun _ _ => rfl⟩
  · rintro f ⟨I1, J1, z1⟩ ⟨h1, ⟨z2, h2⟩, h3, h4, h6, h7, h8⟩
    dsimp only at h1 h2 h3 h4 h6 h7 h8
    have e : z2 = [] := by
      have := congrArg List.length h2
      rw [List.length_append] at this
      exact List.length_eq_zero_iff.mp (by omega)
    rw [e, List.append_nil] at h2
    subst h2
    show Tr _ (m20_3 F (f + 1) _ _ _ _ _ _) _
    rw [m20_3]
    simp (disch := omega) only [n_0, n_1, n_2, n_3, n_4, n_5, n_6, n_8, n_9, n_10, n_12, n_20, n_25, n_27, n_30, n_31, n_32, n_40, n_48, n_57, n_59, n_63, n_96, n_97, n_120, n_122, n_255, n_256, n_300, n_301, n_512, n_1000, n_1001, n_1002, n_1003, n_1004, n_1005, n_2000, n_2304, n_4096, nI_add, pk_mul, n_m, c_ge, c_gt, c_lt, c_le, c_eq, c_ne, d_lt, d_ge, d_ne, d_eq, d_gt, d_le, m_ltk, m_gek, m_eq, m_ne]
    rw [if_pos (by omega)]
    exact Tr_ret ⟨by rw [h1], h4, h6, h7, h8⟩
  · rintro f k ⟨I1, J1, z1⟩ hk ⟨h1, ⟨z2, h2⟩, h3, h4, h6, h7, h8⟩
    dsimp only at h1 h2 h3 h4 h6 h7 h8
    have hc1 : cl_n n A I1 := cl_fr hc (h6 1 (Ne.symm hb1)) (h6 3 (Ne.symm hb3))
    have hL1 : cx_L n (u ++ z1) := cx_L_app hu (cx_L_l (h2 ▸ hlen.1))
    have ht : tk n A (fun _ => True) (u ++ z1) z2 := tk_app (h2 ▸ hz)
    have hl1 : cx_l n A (u ++ z1) ≤ 31 := by
      have a1 := tk_len hok hL1 ht
      rw [List.append_assoc, ← h2] at a1
      have a2 := congrArg List.length h2
      rw [List.length_append] at a2
      omega
    obtain ⟨v, hv, hlst⟩ := lb_e (l := l) (s := s) (d := d) (tl := tl) (F := F) (I := I1) (J := J1) (o := 0) hc1.2.2.2.1 hn5 (by omega) ha hN (by omega) (all32 n hn5)
    have hcase := lst_tk (p := fun _ => True) (fun j hj => by
      rw [wt_dn hok hL1 hl1 h3 hj]
      exact ⟨fun h => ⟨trivial, h.1⟩, fun h => ⟨h.2, allbit n hn5 j hj⟩⟩) hlst ht
    show Tr _ (m20_3 F (f + 1) _ _ _ _ _ _) _ ∨ ∃ y, m20_3 F (f + 1) _ _ _ _ _ _ = _ ∧ _
    rw [m20_3]
    simp (disch := omega) only [n_0, n_1, n_2, n_3, n_4, n_5, n_6, n_8, n_9, n_10, n_12, n_20, n_25, n_27, n_30, n_31, n_32, n_40, n_48, n_57, n_59, n_63, n_96, n_97, n_120, n_122, n_255, n_256, n_300, n_301, n_512, n_1000, n_1001, n_1002, n_1003, n_1004, n_1005, n_2000, n_2304, n_4096, nI_add, pk_mul, n_m, c_ge, c_gt, c_lt, c_le, c_eq, c_ne, d_lt, d_ge, d_ne, d_eq, d_gt, d_le, m_ltk, m_gek, m_eq, m_ne, rc0, gr0_0, gr0_1, gr0_2, gr0_3, gr0_4, gr0_5, gr0_6, gi0_7, pi0_7, rc1, gi1_0, pi1_0, gr1_1, gr1_2, rc4, gr4_0, gi4_1, pi4_1, gi4_2, pi4_2, gi4_3, pi4_3, gi4_4, pi4_4, gi4_5, pi4_5, gr4_6, gr4_7, rc8, gr8_0, gi8_1, pi8_1, gr8_2, gr8_3, gr8_4, gr8_5, gr8_6, rc14, gr14_0, gr14_1, gr14_2, gr14_3, gr14_4, gr14_5, rc19, gr19_0, gr19_1, gr19_2, gr19_3, rc22, gr22_0, gr22_1, gr22_2, gr22_3, Option.bind_some, am_e hc1.2.2.2.1 hn5 hc1.2.1, hv, g_ne]
    rw [if_neg (by omega)]
    rcases hcase with ⟨e1, e2⟩ | ⟨t, z3, e1, e2, e3⟩
    · left
      rw [if_neg (fun h => h e2)]
      rw [e1, List.append_nil] at h2
      subst h2
      exact Tr_ret ⟨by rw [h1], h4, h6, h7, h8⟩
    · right
      rw [if_pos (by rw [e3]; exact Ne.symm (gI_nI (by omega) (by omega) (by omega)))]
      have hlz : k < z.length := by
        rw [h2, e1, List.length_append, List.length_cons]
        omega
      rw [e3]
      simp (disch := omega) only [wrI_H hb hM, Option.bind_some, rc0, gr0_0, gr0_1, gr0_2, gr0_3, gr0_4, gr0_5, gr0_6, gi0_7, pi0_7, rc1, gi1_0, pi1_0, gr1_1, gr1_2, rc4, gr4_0, gi4_1, pi4_1, gi4_2, pi4_2, gi4_3, pi4_3, gi4_4, pi4_4, gi4_5, pi4_5, gr4_6, gr4_7, rc8, gr8_0, gi8_1, pi8_1, gr8_2, gr8_3, gr8_4, gr8_5, gr8_6, rc14, gr14_0, gr14_1, gr14_2, gr14_3, gr14_4, gr14_5, rc19, gr19_0, gr19_1, gr19_2, gr19_3, rc22, gr22_0, gr22_1, gr22_2, gr22_3]
      rw [tw_e (cl_fr hc1 (upI_ne (Ne.symm hb1)) (upI_ne (Ne.symm hb3))) (by omega) ha hN (by omega) e2]
      simp only [Option.bind_some, Prod.exists]
      refine ⟨_, _, z1 ++ [t], rfl, by simp; omega, ⟨z3, by rw [h2, e1, List.append_assoc]; rfl⟩, ?_, ?_, ?_, ?_, ?_⟩
      · rw [← List.append_assoc]
        exact wt_turn h3 e2
      · have := wd_snoc (c := t) h4
        rw [h1] at this
        exact this
      · intro c hcb
        exact (upI_ne hcb).trans (h6 c hcb)
      · intro i hi
        show upI I1 b (p + k) (nI t) b i = I b i
        rw [upI_at, if_neg (by omega)]
        exact h7 i hi
      · intro c hca
        exact (rwJ_ne hca).trans (h8 c hca)
end S
