/-! The reference: keepRow, and what keeps elements. -/
/-- where the reference may write, polynomials aside -/
def rfr (I I' : hI) (J J' : hJ) : Prop := (∀ c, c ≠ 26 → c ≠ 33 → c ≠ 34 → c ≠ 35 → c ≠ 42 → c ≠ 43 → c ≠ 44 → I' c = I c) ∧ (∀ f, f ≠ 15 → f ≠ 16 → f ≠ 27 → I' 26 f = I 26 f) ∧ (∀ c, c ≠ 32 → c ≠ 37 → c ≠ 38 → c ≠ 39 → c ≠ 40 → c ≠ 41 → J' c = J c)
theorem rfr_tr {I I' I'' : hI} {J J' J'' : hJ} (h : rfr I I' J J') (h' : rfr I' I'' J' J'') : rfr I I'' J J'' := ⟨fun c a1 a2 a3 a4 a5 a6 a7 => (h'.1 c a1 a2 a3 a4 a5 a6 a7).trans (h.1 c a1 a2 a3 a4 a5 a6 a7), fun f a1 a2 a3 => (h'.2.1 f a1 a2 a3).trans (h.2.1 f a1 a2 a3), fun c a1 a2 a3 a4 a5 a6 => (h'.2.2 c a1 a2 a3 a4 a5 a6).trans (h.2.2 c a1 a2 a3 a4 a5 a6)⟩
theorem rfr_of {I I' : hI} {J J' : hJ} (h : rf I I') (h' : ∀ c, c ≠ 32 → J' c = J c) : rfr I I' J J' := ⟨fun c a1 a2 _ _ _ _ _ => h.1 c a1 a2, fun f a1 _ _ => h.2 f a1, fun c a1 _ _ _ _ _ => h' c a1⟩
theorem rfr_J {I : hI} {J J' : hJ} (h' : ∀ c, c ≠ 32 → J' c = J c) : rfr I I J J' := rfr_of (rf_rf I) h'
theorem rfr_rf (I : hI) (J : hJ) : rfr I I J J := rfr_J (fun _ _ => rfl)
section S
variable {l s d : Value} {tl : List hQ} {F : Nat} {I : hI} {J : hJ} {n a b o p N M : Nat} {A : Nat → Nat → Int} {els : List (List Nat)}
theorem mo_rfr {I' : hI} {J' : hJ} (h : mo_n n A I) (hr : rfr I I' J J') : mo_n n A I' := mo_fr h (hr.2.1 0 (by decide) (by decide) (by decide)) (hr.1 28 (by decide) (by decide) (by decide) (by decide) (by decide) (by decide) (by decide))
theorem ie1 (hk : km n A els I) {j : Nat} {y : List Nat} (h : els[j]? = some y) : e160 F 26 (nI j) (mkH (hs l s d tl) I J) = some (nI 1, (mkH (hs l s d tl) I J)) := by
  rcases ie_e (l := l) (s := s) (d := d) (tl := tl) (F := F) (J := J) hk (nI j) with ⟨_, _, _, _, h1⟩ | ⟨h1, _⟩
  · exact h1
  · exact absurd rfl (h1 j (List.getElem?_eq_some_iff.mp h).1)
theorem ie0 (hk : km n A els I) {x : Int32} (h : ∀ j, j < els.length → x ≠ nI j) : e160 F 26 x (mkH (hs l s d tl) I J) = some (nI 0, (mkH (hs l s d tl) I J)) := by
  rcases ie_e (l := l) (s := s) (d := d) (tl := tl) (F := F) (J := J) hk x with ⟨j, y, h1, h2, _⟩ | ⟨_, h1⟩
  · exact absurd h2 (h j (List.getElem?_eq_some_iff.mp h1).1)
  · exact h1
theorem mm1 (hM : mo_n n A I) {j : Nat} (h : j < n) : e150 F 26 (nI j) (mkH (hs l s d tl) I J) = some (nI 1, (mkH (hs l s d tl) I J)) := by
  rcases im_m (l := l) (s := s) (d := d) (tl := tl) (F := F) (J := J) hM (nI j) with ⟨_, _, _, h1⟩ | ⟨h1, _⟩
  · exact h1
  · exact absurd rfl (h1 j h)
theorem mm0 (hM : mo_n n A I) {x : Int32} (h : ∀ j, j < n → x ≠ nI j) : e150 F 26 x (mkH (hs l s d tl) I J) = some (nI 0, (mkH (hs l s d tl) I J)) := by
  rcases im_m (l := l) (s := s) (d := d) (tl := tl) (F := F) (J := J) hM x with ⟨j, h1, h2, _⟩ | ⟨_, h1⟩
  · exact absurd h2 (h j h1)
  · exact h1
/-- keepRow -/
theorem kro_e (hM : mo_n n A I) (hk : km n A els I) (hF : 300 ≤ F) {x : List Nat} (hx : cx_L n x) (hx64 : x.length ≤ 64) (hl : cx_l n A x ≤ 20) (hr : rw0 x I) :
    Tr (hs l s d tl) (e163 F 26 (mkH (hs l s d tl) I J)) (fun v I' J' => ∃ els', kpx n A els x v els' ∧ km n A els' I' ∧ rfr I I' J J') := by
  have hok := hM.1
  have hn5 := hM.2.2.1
  obtain ⟨y, hy, hg⟩ := cx_c_ex hok _ hx rfl
  have hyL := cx_c_L hy
  have hy20 : y.length ≤ 20 := by
    have h1 := cx_c_l hy
    have h2 := cx_l_eq hg
    omega
  show Tr _ (m163_0 F 26 _) _
  unfold m163_0
  obtain ⟨_, I1, J1, e1, h1, h2, h3⟩ := sho_e (l := l) (s := s) (d := d) (tl := tl) (F := F) (J := J) hM (by omega) hx hx64 (by omega) hr hy hg
  simp (disch := omega) only [rc26, gi26_0, pi26_0, gr26_1, gr26_2, gr26_3, gr26_4, gi26_5, pi26_5, gi26_6, pi26_6, gi26_7, pi26_7, gl26_8, pl26_8, gi26_9, pi26_9, gi26_10, pi26_10, gr26_11, gi26_12, pi26_12, gr26_13, gr26_14, gi26_15, pi26_15, gi26_16, pi26_16, gr26_17, gr26_18, gi26_19, pi26_19, gr26_20, gr26_21, gr26_22, gr26_23, gr26_24, gr26_25, gr26_26, gi26_27, pi26_27, gr26_28, gr26_29, gi26_30, pi26_30, gi26_31, pi26_31, gr26_32, gr26_33, gr26_34, gr26_35, gr26_36, gr26_37, gr26_38, gr26_39, gr26_40, Option.bind_some, n_0, n_1, n_2, n_3, n_4, n_5, n_6, n_8, n_9, n_10, n_12, n_20, n_25, n_27, n_30, n_31, n_32, n_40, n_48, n_57, n_59, n_63, n_96, n_97, n_120, n_122, n_255, n_256, n_300, n_301, n_512, n_1000, n_1001, n_1002, n_1003, n_1004, n_1005, n_2000, n_2304, n_4096, nI_add, pk_mul, n_m, c_ge, c_gt, c_lt, c_le, c_eq, c_ne, d_lt, d_ge, d_ne, d_eq, d_gt, d_le, m_ltk, m_gek, m_eq, m_ne, e1]
  have hk1 := km_rf hk h2
  have h16 := hk1.2.2.2.1
  have h40 := hk.2.1
  refine lpc (fun f k (_ : Unit) => m163_6 F f 26 (nI k) (mkH (hs l s d tl) I1 J1)) els.length (fun k _ => ∀ w, w < k → els[w]? ≠ some y) (fun r => Tr (hs l s d tl) r _) ?_ ?_ F 0 () (by omega) (by omega) (fun w hw => by omega)
  · intro f _ hno
    have hno2 : ∀ w : Nat, els[w]? ≠ some y := by
      intro w hw
      exact hno w (List.getElem?_eq_some_iff.mp hw).1 hw
    show Tr _ (m163_6 F (f + 1) _ _ _) _
    rw [m163_6]
    simp (disch := omega) only [rc26, gi26_0, pi26_0, gr26_1, gr26_2, gr26_3, gr26_4, gi26_5, pi26_5, gi26_6, pi26_6, gi26_7, pi26_7, gl26_8, pl26_8, gi26_9, pi26_9, gi26_10, pi26_10, gr26_11, gi26_12, pi26_12, gr26_13, gr26_14, gi26_15, pi26_15, gi26_16, pi26_16, gr26_17, gr26_18, gi26_19, pi26_19, gr26_20, gr26_21, gr26_22, gr26_23, gr26_24, gr26_25, gr26_26, gi26_27, pi26_27, gr26_28, gr26_29, gi26_30, pi26_30, gi26_31, pi26_31, gr26_32, gr26_33, gr26_34, gr26_35, gr26_36, gr26_37, gr26_38, gr26_39, gr26_40, Option.bind_some, h16, n_0, n_1, n_2, n_3, n_4, n_5, n_6, n_8, n_9, n_10, n_12, n_20, n_25, n_27, n_30, n_31, n_32, n_40, n_48, n_57, n_59, n_63, n_96, n_97, n_120, n_122, n_255, n_256, n_300, n_301, n_512, n_1000, n_1001, n_1002, n_1003, n_1004, n_1005, n_2000, n_2304, n_4096, nI_add, pk_mul, n_m, c_ge, c_gt, c_lt, c_le, c_eq, c_ne, d_lt, d_ge, d_ne, d_eq, d_gt, d_le, m_ltk, m_gek, m_eq, m_ne]
    rw [if_pos (by omega)]
    by_cases hlt : els.length = 40
    · rw [if_neg (fun h => h hlt)]
      exact Tr_ret ⟨els, ⟨y, hy, hg, Or.inr (Or.inr ⟨hno2, by omega, rfl, rfl⟩)⟩, hk1, rfr_of h2 h3⟩
    · rw [if_pos hlt]
      simp (disch := omega) only [rc26, gi26_0, pi26_0, gr26_1, gr26_2, gr26_3, gr26_4, gi26_5, pi26_5, gi26_6, pi26_6, gi26_7, pi26_7, gl26_8, pl26_8, gi26_9, pi26_9, gi26_10, pi26_10, gr26_11, gi26_12, pi26_12, gr26_13, gr26_14, gi26_15, pi26_15, gi26_16, pi26_16, gr26_17, gr26_18, gi26_19, pi26_19, gr26_20, gr26_21, gr26_22, gr26_23, gr26_24, gr26_25, gr26_26, gi26_27, pi26_27, gr26_28, gr26_29, gi26_30, pi26_30, gi26_31, pi26_31, gr26_32, gr26_33, gr26_34, gr26_35, gr26_36, gr26_37, gr26_38, gr26_39, gr26_40, Option.bind_some, h1.2, rI34, wI34]
      refine lpc (fun f k (I2 : hI) => m163_58 F f 26 (nI k) (mkH (hs l s d tl) I2 J1)) y.length (fun k I2 => wd (I2 35) (20 * els.length) (y.take k) ∧ (∀ i, i < 20 * els.length → I2 35 i = I1 35 i) ∧ ∀ c, c ≠ 35 → I2 c = upI I1 34 els.length (nI y.length) c) (fun r => Tr (hs l s d tl) r _) ?_ ?_ F 0 (upI I1 34 els.length (nI y.length)) (by omega) (by omega) ⟨wd_nil, fun i hi => by rw [upI_ne (by decide)], fun _ _ => rfl⟩
      · rintro f I2 ⟨k1, k2, k3⟩
        rw [List.take_length] at k1
        have h15 : I2 26 15 = nI y.length := by rw [k3 26 (by decide), upI_ne (by decide), h1.2]
        have h162 : I2 26 16 = nI els.length := by rw [k3 26 (by decide), upI_ne (by decide), h16]
        have h163 : upI I2 26 16 (nI (els.length + 1)) 26 16 = nI (els.length + 1) := by rw [upI_at, if_pos rfl]
        show Tr _ (m163_58 F (f + 1) _ _ _) _
        rw [m163_58]
        simp (disch := omega) only [rc26, gi26_0, pi26_0, gr26_1, gr26_2, gr26_3, gr26_4, gi26_5, pi26_5, gi26_6, pi26_6, gi26_7, pi26_7, gl26_8, pl26_8, gi26_9, pi26_9, gi26_10, pi26_10, gr26_11, gi26_12, pi26_12, gr26_13, gr26_14, gi26_15, pi26_15, gi26_16, pi26_16, gr26_17, gr26_18, gi26_19, pi26_19, gr26_20, gr26_21, gr26_22, gr26_23, gr26_24, gr26_25, gr26_26, gi26_27, pi26_27, gr26_28, gr26_29, gi26_30, pi26_30, gi26_31, pi26_31, gr26_32, gr26_33, gr26_34, gr26_35, gr26_36, gr26_37, gr26_38, gr26_39, gr26_40, Option.bind_some, h15, h162, n_0, n_1, n_2, n_3, n_4, n_5, n_6, n_8, n_9, n_10, n_12, n_20, n_25, n_27, n_30, n_31, n_32, n_40, n_48, n_57, n_59, n_63, n_96, n_97, n_120, n_122, n_255, n_256, n_300, n_301, n_512, n_1000, n_1001, n_1002, n_1003, n_1004, n_1005, n_2000, n_2304, n_4096, nI_add, pk_mul, n_m, c_ge, c_gt, c_lt, c_le, c_eq, c_ne, d_lt, d_ge, d_ne, d_eq, d_gt, d_le, m_ltk, m_gek, m_eq, m_ne, h163]
        rw [if_pos (by omega)]
        refine Tr_ret ⟨els ++ [y], ⟨y, hy, hg, Or.inr (Or.inl ⟨hno2, by omega, by rw [pk_sub1], rfl⟩)⟩, ⟨by simp, by simp; omega, ?_, by rw [h163, List.length_append]; rfl, ?_⟩, ⟨?_, ?_, fun c a1 _ _ _ _ _ => h3 c a1⟩⟩
        · rw [List.getElem?_append_left (by have := hk.1; omega)]
          exact hk.2.2.1
        · intro w yw hw
          by_cases hwl : w < els.length
          · rw [List.getElem?_append_left hwl] at hw
            obtain ⟨b1, b2, b3, b4⟩ := hk1.2.2.2.2 w yw hw
            refine ⟨b1, b2, ?_, ?_⟩
            · rw [upI_ne (by decide), k3 34 (by decide), upI_at, if_neg (by omega), b3]
            · intro i c hi
              have := (List.getElem?_eq_some_iff.mp hi).1
              rw [upI_ne (by decide), k2 _ (by omega), b4 i c hi]
          · have hwe : w = els.length := by
              have := (List.getElem?_eq_some_iff.mp hw).1
              rw [List.length_append] at this
              simp at this
              omega
            subst hwe
            rw [List.getElem?_append_right (Nat.le_refl _), Nat.sub_self] at hw
            have := Option.some.inj hw
            subst this
            refine ⟨hy, hy20, ?_, ?_⟩
            · rw [upI_ne (by decide), k3 34 (by decide), upI_at, if_pos rfl]
            · rw [upI_ne (by decide)]
              exact k1
        · intro c a1 a2 a3 a4 _ _ _
          rw [upI_ne a1, k3 c a4, upI_ne a3]
          exact h2.1 c a1 a2
        · intro f a1 a2 _
          rw [upI_at, if_neg a2, k3 26 (by decide), upI_ne (by decide)]
          exact h2.2 f a1
      · rintro f k I2 hky ⟨k1, k2, k3⟩
        right
        obtain ⟨t, ht⟩ := ex_at hky
        have h15 : I2 26 15 = nI y.length := by rw [k3 26 (by decide), upI_ne (by decide), h1.2]
        have h162 : I2 26 16 = nI els.length := by rw [k3 26 (by decide), upI_ne (by decide), h16]
        have h33 : I2 33 k = nI t := by
          have := h1.1 k t ht
          rw [Nat.zero_add] at this
          rw [k3 33 (by decide), upI_ne (by decide), this]
        show ∃ y, m163_58 F (f + 1) _ _ _ = _ ∧ _
        rw [m163_58]
        simp (disch := omega) only [rc26, gi26_0, pi26_0, gr26_1, gr26_2, gr26_3, gr26_4, gi26_5, pi26_5, gi26_6, pi26_6, gi26_7, pi26_7, gl26_8, pl26_8, gi26_9, pi26_9, gi26_10, pi26_10, gr26_11, gi26_12, pi26_12, gr26_13, gr26_14, gi26_15, pi26_15, gi26_16, pi26_16, gr26_17, gr26_18, gi26_19, pi26_19, gr26_20, gr26_21, gr26_22, gr26_23, gr26_24, gr26_25, gr26_26, gi26_27, pi26_27, gr26_28, gr26_29, gi26_30, pi26_30, gi26_31, pi26_31, gr26_32, gr26_33, gr26_34, gr26_35, gr26_36, gr26_37, gr26_38, gr26_39, gr26_40, Option.bind_some, h15, h162, n_0, n_1, n_2, n_3, n_4, n_5, n_6, n_8, n_9, n_10, n_12, n_20, n_25, n_27, n_30, n_31, n_32, n_40, n_48, n_57, n_59, n_63, n_96, n_97, n_120, n_122, n_255, n_256, n_300, n_301, n_512, n_1000, n_1001, n_1002, n_1003, n_1004, n_1005, n_2000, n_2304, n_4096, nI_add, pk_mul, n_m, c_ge, c_gt, c_lt, c_le, c_eq, c_ne, d_lt, d_ge, d_ne, d_eq, d_gt, d_le, m_ltk, m_gek, m_eq, m_ne, rI33, wI33, rI35, wI35, h33]
        rw [if_neg (by omega)]
        refine ⟨_, rfl, ?_, fun i hi => ?_, fun c hc => (upI_ne hc).trans (k3 c hc)⟩
        · rw [take_c ht]
          have := wd_snoc (c := t) k1
          rw [List.length_take, Nat.min_eq_left (by omega)] at this
          exact this
        · rw [upI_at, if_neg (by omega)]
          exact k2 i hi
  · intro f k _ hkl hno
    obtain ⟨yw, hw⟩ : ∃ yw, els[k]? = some yw := ⟨els[k], List.getElem?_eq_getElem hkl⟩
    show Tr _ (m163_6 F (f + 1) _ _ _) _ ∨ ∃ y, m163_6 F (f + 1) _ _ _ = _ ∧ _
    rw [m163_6]
    simp (disch := omega) only [rc26, gi26_0, pi26_0, gr26_1, gr26_2, gr26_3, gr26_4, gi26_5, pi26_5, gi26_6, pi26_6, gi26_7, pi26_7, gl26_8, pl26_8, gi26_9, pi26_9, gi26_10, pi26_10, gr26_11, gi26_12, pi26_12, gr26_13, gr26_14, gi26_15, pi26_15, gi26_16, pi26_16, gr26_17, gr26_18, gi26_19, pi26_19, gr26_20, gr26_21, gr26_22, gr26_23, gr26_24, gr26_25, gr26_26, gi26_27, pi26_27, gr26_28, gr26_29, gi26_30, pi26_30, gi26_31, pi26_31, gr26_32, gr26_33, gr26_34, gr26_35, gr26_36, gr26_37, gr26_38, gr26_39, gr26_40, Option.bind_some, h16, n_0, n_1, n_2, n_3, n_4, n_5, n_6, n_8, n_9, n_10, n_12, n_20, n_25, n_27, n_30, n_31, n_32, n_40, n_48, n_57, n_59, n_63, n_96, n_97, n_120, n_122, n_255, n_256, n_300, n_301, n_512, n_1000, n_1001, n_1002, n_1003, n_1004, n_1005, n_2000, n_2304, n_4096, nI_add, pk_mul, n_m, c_ge, c_gt, c_lt, c_le, c_eq, c_ne, d_lt, d_ge, d_ne, d_eq, d_gt, d_le, m_ltk, m_gek, m_eq, m_ne]
    rw [if_neg (by omega)]
    rcases ir_e (l := l) (s := s) (d := d) (tl := tl) (F := F) (J := J1) hk1 hn5 (by omega) hw hyL h1 (by omega) with ⟨e2, h4⟩ | ⟨e2, h4⟩
    · left
      rw [e2]
      simp (disch := omega) only [Option.bind_some, d_eq]
      rw [if_neg (by omega)]
      subst h4
      exact Tr_ret ⟨els, ⟨yw, hy, hg, Or.inl ⟨k, hw, hno, rfl, rfl⟩⟩, hk1, rfr_of h2 h3⟩
    · right
      rw [e2]
      simp (disch := omega) only [Option.bind_some, d_eq, if_true]
      refine ⟨(), by trivial, fun w hwk => ?_⟩
      by_cases hwe : w = k
      · subst hwe
        intro h
        rw [hw] at h
        exact h4 (Option.some.inj h)
      · exact hno w (by omega)
theorem rw0_0 (I : hI) : rw0 [] (upI I 26 15 (nI 0)) := ⟨wd_nil, by rw [upI_at, if_pos rfl]; rfl⟩
theorem rf_0 (I : hI) (x : Int32) : rf I (upI I 26 15 x) := ⟨fun _ c1 _ => upI_ne c1, fun f hf => by rw [upI_at, if_neg hf]⟩
/-- times -/
theorem tmr_e (hM : mo_n n A I) (hk : km n A els I) (hF : 300 ≤ F) {u y : List Nat} (ha : els[a]? = some u) (hb : els[b]? = some y) :
    Tr (hs l s d tl) (e172 F 26 (nI a) (nI b) (mkH (hs l s d tl) I J)) (fun v I' J' => ∃ els', tms n A els u y v els' ∧ km n A els' I' ∧ rfr I I' J J') := by
  have hok := hM.1
  have hn5 := hM.2.2.1
  obtain ⟨uc, uL, ul, u20, a40, ua, uw⟩ := km_c hk ha
  obtain ⟨yc, yL, yl, y20, b40, yb, yw⟩ := km_c hk hb
  show Tr _ (m172_0 F 26 _ _ _) _
  unfold m172_0
  obtain ⟨J1, e1, h1, h2⟩ := sqr_e (l := l) (s := s) (d := d) (tl := tl) (F := F) (J := J) hM hk (by omega) ha
  simp (disch := omega) only [rc26, gi26_0, pi26_0, gr26_1, gr26_2, gr26_3, gr26_4, gi26_5, pi26_5, gi26_6, pi26_6, gi26_7, pi26_7, gl26_8, pl26_8, gi26_9, pi26_9, gi26_10, pi26_10, gr26_11, gi26_12, pi26_12, gr26_13, gr26_14, gi26_15, pi26_15, gi26_16, pi26_16, gr26_17, gr26_18, gi26_19, pi26_19, gr26_20, gr26_21, gr26_22, gr26_23, gr26_24, gr26_25, gr26_26, gi26_27, pi26_27, gr26_28, gr26_29, gi26_30, pi26_30, gi26_31, pi26_31, gr26_32, gr26_33, gr26_34, gr26_35, gr26_36, gr26_37, gr26_38, gr26_39, gr26_40, Option.bind_some, ie1 hk ha, ie1 hk hb, d_eq, d_ne]
  rw [if_neg (by omega), if_pos (by omega)]
  simp (disch := omega) only [rc26, gi26_0, pi26_0, gr26_1, gr26_2, gr26_3, gr26_4, gi26_5, pi26_5, gi26_6, pi26_6, gi26_7, pi26_7, gl26_8, pl26_8, gi26_9, pi26_9, gi26_10, pi26_10, gr26_11, gi26_12, pi26_12, gr26_13, gr26_14, gi26_15, pi26_15, gi26_16, pi26_16, gr26_17, gr26_18, gi26_19, pi26_19, gr26_20, gr26_21, gr26_22, gr26_23, gr26_24, gr26_25, gr26_26, gi26_27, pi26_27, gr26_28, gr26_29, gi26_30, pi26_30, gi26_31, pi26_31, gr26_32, gr26_33, gr26_34, gr26_35, gr26_36, gr26_37, gr26_38, gr26_39, gr26_40, Option.bind_some, n_0, n_1, n_2, n_3, n_4, n_5, n_6, n_8, n_9, n_10, n_12, n_20, n_25, n_27, n_30, n_31, n_32, n_40, n_48, n_57, n_59, n_63, n_96, n_97, n_120, n_122, n_255, n_256, n_300, n_301, n_512, n_1000, n_1001, n_1002, n_1003, n_1004, n_1005, n_2000, n_2304, n_4096, nI_add, pk_mul, n_m, c_ge, c_gt, c_lt, c_le, c_eq, c_ne, d_lt, d_ge, d_ne, d_eq, d_gt, d_le, m_ltk, m_gek, m_eq, m_ne, e1, rI34, wI34, ua]
  have e0 : nI u.length = nI (cx_l n A (u ++ y.take 0)) := by rw [List.take_zero, List.append_nil, ul]
  rw [e0]
  refine lpc (fun f k (K : hJ) => m172_36 F f 26 (nI a) (nI b) (nI (cx_l n A (u ++ y.take k))) (nI k) (mkH (hs l s d tl) I K)) y.length (fun k K => sq n A (u ++ y.take k) (K 32) 0 ∧ (∀ c, c ≠ 32 → K c = J c) ∧ ∀ i, i ≤ k → cx_l n A (u ++ y.take i) ≤ 20) (fun r => Tr (hs l s d tl) r _) ?_ ?_ F 0 J1 (by omega) (by omega) ⟨by rw [List.take_zero, List.append_nil]; exact h1, h2, fun i hi => by
    have : i = 0 := by omega
    subst this
    rw [List.take_zero, List.append_nil]
    omega⟩
  · rintro f K ⟨k1, k2, k3⟩
    show Tr _ (m172_36 F (f + 1) _ _ _ _ _ _) _
    rw [m172_36]
    simp (disch := omega) only [rc26, gi26_0, pi26_0, gr26_1, gr26_2, gr26_3, gr26_4, gi26_5, pi26_5, gi26_6, pi26_6, gi26_7, pi26_7, gl26_8, pl26_8, gi26_9, pi26_9, gi26_10, pi26_10, gr26_11, gi26_12, pi26_12, gr26_13, gr26_14, gi26_15, pi26_15, gi26_16, pi26_16, gr26_17, gr26_18, gi26_19, pi26_19, gr26_20, gr26_21, gr26_22, gr26_23, gr26_24, gr26_25, gr26_26, gi26_27, pi26_27, gr26_28, gr26_29, gi26_30, pi26_30, gi26_31, pi26_31, gr26_32, gr26_33, gr26_34, gr26_35, gr26_36, gr26_37, gr26_38, gr26_39, gr26_40, Option.bind_some, n_0, n_1, n_2, n_3, n_4, n_5, n_6, n_8, n_9, n_10, n_12, n_20, n_25, n_27, n_30, n_31, n_32, n_40, n_48, n_57, n_59, n_63, n_96, n_97, n_120, n_122, n_255, n_256, n_300, n_301, n_512, n_1000, n_1001, n_1002, n_1003, n_1004, n_1005, n_2000, n_2304, n_4096, nI_add, pk_mul, n_m, c_ge, c_gt, c_lt, c_le, c_eq, c_ne, d_lt, d_ge, d_ne, d_eq, d_gt, d_le, m_ltk, m_gek, m_eq, m_ne, rI34, wI34, yb]
    rw [if_pos (by omega)]
    have hk0 := km_rf hk (rf_0 I (nI 0))
    obtain ⟨I2, e2, m1, m2⟩ := pa_e (l := l) (s := s) (d := d) (tl := tl) (F := F) (J := K) hk0 (by omega) ha (rw0_0 I) (by simp; omega)
    rw [e2]
    simp (disch := omega) only [rc26, gi26_0, pi26_0, gr26_1, gr26_2, gr26_3, gr26_4, gi26_5, pi26_5, gi26_6, pi26_6, gi26_7, pi26_7, gl26_8, pl26_8, gi26_9, pi26_9, gi26_10, pi26_10, gr26_11, gi26_12, pi26_12, gr26_13, gr26_14, gi26_15, pi26_15, gi26_16, pi26_16, gr26_17, gr26_18, gi26_19, pi26_19, gr26_20, gr26_21, gr26_22, gr26_23, gr26_24, gr26_25, gr26_26, gi26_27, pi26_27, gr26_28, gr26_29, gi26_30, pi26_30, gi26_31, pi26_31, gr26_32, gr26_33, gr26_34, gr26_35, gr26_36, gr26_37, gr26_38, gr26_39, gr26_40, Option.bind_some]
    obtain ⟨I3, e3, m3, m4⟩ := pa_e (l := l) (s := s) (d := d) (tl := tl) (F := F) (J := K) (km_rf hk0 m2) (by omega) hb m1 (by simp; omega)
    rw [e3]
    simp (disch := omega) only [rc26, gi26_0, pi26_0, gr26_1, gr26_2, gr26_3, gr26_4, gi26_5, pi26_5, gi26_6, pi26_6, gi26_7, pi26_7, gl26_8, pl26_8, gi26_9, pi26_9, gi26_10, pi26_10, gr26_11, gi26_12, pi26_12, gr26_13, gr26_14, gi26_15, pi26_15, gi26_16, pi26_16, gr26_17, gr26_18, gi26_19, pi26_19, gr26_20, gr26_21, gr26_22, gr26_23, gr26_24, gr26_25, gr26_26, gi26_27, pi26_27, gr26_28, gr26_29, gi26_30, pi26_30, gi26_31, pi26_31, gr26_32, gr26_33, gr26_34, gr26_35, gr26_36, gr26_37, gr26_38, gr26_39, gr26_40, Option.bind_some]
    have hrf := rf_tr (rf_tr (rf_0 I (nI 0)) m2) m4
    have hl := k3 y.length (Nat.le_refl _)
    rw [List.take_length] at hl
    obtain ⟨v, I4, J4, e4, els', m5, m6, m7⟩ := kro_e (l := l) (s := s) (d := d) (tl := tl) (F := F) (J := K) (mo_rf hM hrf) (km_rf hk hrf) hF (x := [] ++ u ++ y) (cx_L_app uL yL) (by simp; omega) hl m3
    rw [e4]
    simp (disch := omega) only [Option.bind_some]
    exact Tr_ret ⟨els', Or.inr ⟨k3, m5⟩, m6, rfr_tr (rfr_of hrf k2) m7⟩
  · rintro f k K hky ⟨k1, k2, k3⟩
    obtain ⟨t, ht⟩ := ex_at hky
    have htn := cx_L_at yL ht
    have hL := cx_L_app uL (take_L yL k)
    have hl := k3 k (Nat.le_refl _)
    obtain ⟨J2, c1, c2, c3⟩ := th_e (l := l) (s := s) (d := d) (tl := tl) (F := F) (J := K) hM (by omega) htn hL k1
    show Tr _ (m172_36 F (f + 1) _ _ _ _ _ _) _ ∨ ∃ y, m172_36 F (f + 1) _ _ _ _ _ _ = _ ∧ _
    rw [m172_36]
    simp (disch := omega) only [rc26, gi26_0, pi26_0, gr26_1, gr26_2, gr26_3, gr26_4, gi26_5, pi26_5, gi26_6, pi26_6, gi26_7, pi26_7, gl26_8, pl26_8, gi26_9, pi26_9, gi26_10, pi26_10, gr26_11, gi26_12, pi26_12, gr26_13, gr26_14, gi26_15, pi26_15, gi26_16, pi26_16, gr26_17, gr26_18, gi26_19, pi26_19, gr26_20, gr26_21, gr26_22, gr26_23, gr26_24, gr26_25, gr26_26, gi26_27, pi26_27, gr26_28, gr26_29, gi26_30, pi26_30, gi26_31, pi26_31, gr26_32, gr26_33, gr26_34, gr26_35, gr26_36, gr26_37, gr26_38, gr26_39, gr26_40, Option.bind_some, n_0, n_1, n_2, n_3, n_4, n_5, n_6, n_8, n_9, n_10, n_12, n_20, n_25, n_27, n_30, n_31, n_32, n_40, n_48, n_57, n_59, n_63, n_96, n_97, n_120, n_122, n_255, n_256, n_300, n_301, n_512, n_1000, n_1001, n_1002, n_1003, n_1004, n_1005, n_2000, n_2304, n_4096, nI_add, pk_mul, n_m, c_ge, c_gt, c_lt, c_le, c_eq, c_ne, d_lt, d_ge, d_ne, d_eq, d_gt, d_le, m_ltk, m_gek, m_eq, m_ne, rI34, wI34, rI35, wI35, yb, yw k t ht]
    rw [if_neg (by omega)]
    unfold m172_80
    rcases idq_e (l := l) (s := s) (d := d) (tl := tl) (F := F) (I := I) (J := K) hok hn5 (by omega) q32 (by decide) htn (by omega) hL (by omega) k1 with ⟨e2, hdn⟩ | ⟨e2, hdn⟩
    · right
      have h4 := dn_1 hok hL htn hdn
      rw [← take_app ht] at h4
      have e4 : nI (cx_l n A (u ++ y.take k)) + gI 1 = nI (cx_l n A (u ++ y.take (k + 1))) := by
        rw [p_m1, pk_sub (by omega)]
        congr 1
        omega
      rw [e2]
      simp (disch := omega) only [rc26, gi26_0, pi26_0, gr26_1, gr26_2, gr26_3, gr26_4, gi26_5, pi26_5, gi26_6, pi26_6, gi26_7, pi26_7, gl26_8, pl26_8, gi26_9, pi26_9, gi26_10, pi26_10, gr26_11, gi26_12, pi26_12, gr26_13, gr26_14, gi26_15, pi26_15, gi26_16, pi26_16, gr26_17, gr26_18, gi26_19, pi26_19, gr26_20, gr26_21, gr26_22, gr26_23, gr26_24, gr26_25, gr26_26, gi26_27, pi26_27, gr26_28, gr26_29, gi26_30, pi26_30, gi26_31, pi26_31, gr26_32, gr26_33, gr26_34, gr26_35, gr26_36, gr26_37, gr26_38, gr26_39, gr26_40, Option.bind_some, n_0, n_1, n_2, n_3, n_4, n_5, n_6, n_8, n_9, n_10, n_12, n_20, n_25, n_27, n_30, n_31, n_32, n_40, n_48, n_57, n_59, n_63, n_96, n_97, n_120, n_122, n_255, n_256, n_300, n_301, n_512, n_1000, n_1001, n_1002, n_1003, n_1004, n_1005, n_2000, n_2304, n_4096, nI_add, pk_mul, n_m, c_ge, c_gt, c_lt, c_le, c_eq, c_ne, d_lt, d_ge, d_ne, d_eq, d_gt, d_le, m_ltk, m_gek, m_eq, m_ne, e4, c1]
      rw [if_neg (by omega), if_pos (by omega)]
      refine ⟨_, rfl, by rw [take_app ht]; exact c2, fun c hc => (c3 c hc).trans (k2 c hc), fun i hi => ?_⟩
      by_cases hik : i = k + 1
      · subst hik
        omega
      · exact k3 i (by omega)
    · have h4 := up_1 hok hL htn hdn
      rw [← take_app ht] at h4
      have e4 : nI (cx_l n A (u ++ y.take k)) + nI 1 = nI (cx_l n A (u ++ y.take (k + 1))) := by
        rw [nI_add]
        congr 1
        omega
      rw [e2]
      simp (disch := omega) only [Option.bind_some, d_eq, if_true]
      simp (disch := omega) only [n_1, e4]
      simp (disch := omega) only [rc26, gi26_0, pi26_0, gr26_1, gr26_2, gr26_3, gr26_4, gi26_5, pi26_5, gi26_6, pi26_6, gi26_7, pi26_7, gl26_8, pl26_8, gi26_9, pi26_9, gi26_10, pi26_10, gr26_11, gi26_12, pi26_12, gr26_13, gr26_14, gi26_15, pi26_15, gi26_16, pi26_16, gr26_17, gr26_18, gi26_19, pi26_19, gr26_20, gr26_21, gr26_22, gr26_23, gr26_24, gr26_25, gr26_26, gi26_27, pi26_27, gr26_28, gr26_29, gi26_30, pi26_30, gi26_31, pi26_31, gr26_32, gr26_33, gr26_34, gr26_35, gr26_36, gr26_37, gr26_38, gr26_39, gr26_40, Option.bind_some, n_0, n_1, n_2, n_3, n_4, n_5, n_6, n_8, n_9, n_10, n_12, n_20, n_25, n_27, n_30, n_31, n_32, n_40, n_48, n_57, n_59, n_63, n_96, n_97, n_120, n_122, n_255, n_256, n_300, n_301, n_512, n_1000, n_1001, n_1002, n_1003, n_1004, n_1005, n_2000, n_2304, n_4096, nI_add, pk_mul, n_m, c_ge, c_gt, c_lt, c_le, c_eq, c_ne, d_lt, d_ge, d_ne, d_eq, d_gt, d_le, m_ltk, m_gek, m_eq, m_ne, c1]
      by_cases hle : cx_l n A (u ++ y.take (k + 1)) ≤ 20
      · rw [if_pos hle]
        right
        refine ⟨_, rfl, by rw [take_app ht]; exact c2, fun c hc => (c3 c hc).trans (k2 c hc), fun i hi => ?_⟩
        by_cases hik : i = k + 1
        · subst hik
          omega
        · exact k3 i (by omega)
      · rw [if_neg hle]
        left
        exact Tr_ret ⟨els, Or.inl ⟨⟨k + 1, by omega, by omega⟩, rfl, rfl⟩, hk, rfr_J k2⟩
/-- back -/
theorem bkr_e (hM : mo_n n A I) (hk : km n A els I) (hF : 300 ≤ F) {y : List Nat} (hb : els[b]? = some y) :
    Tr (hs l s d tl) (e173 F 26 (nI b) (mkH (hs l s d tl) I J)) (fun v I' J' => ∃ els', kpx n A els y.reverse v els' ∧ km n A els' I' ∧ rfr I I' J J') := by
  have hok := hM.1
  obtain ⟨yc, yL, yl, y20, b40, yb, yw⟩ := km_c hk hb
  show Tr _ (m173_0 F 26 _ _) _
  unfold m173_0
  have yb0 : upI I 26 15 (nI 0) 34 b = nI y.length := by rw [upI_ne (by decide), yb]
  simp (disch := omega) only [rc26, gi26_0, pi26_0, gr26_1, gr26_2, gr26_3, gr26_4, gi26_5, pi26_5, gi26_6, pi26_6, gi26_7, pi26_7, gl26_8, pl26_8, gi26_9, pi26_9, gi26_10, pi26_10, gr26_11, gi26_12, pi26_12, gr26_13, gr26_14, gi26_15, pi26_15, gi26_16, pi26_16, gr26_17, gr26_18, gi26_19, pi26_19, gr26_20, gr26_21, gr26_22, gr26_23, gr26_24, gr26_25, gr26_26, gi26_27, pi26_27, gr26_28, gr26_29, gi26_30, pi26_30, gi26_31, pi26_31, gr26_32, gr26_33, gr26_34, gr26_35, gr26_36, gr26_37, gr26_38, gr26_39, gr26_40, Option.bind_some, ie1 hk hb, d_ne, n_0, n_1]
  rw [if_pos (by omega)]
  simp (disch := omega) only [rc26, gi26_0, pi26_0, gr26_1, gr26_2, gr26_3, gr26_4, gi26_5, pi26_5, gi26_6, pi26_6, gi26_7, pi26_7, gl26_8, pl26_8, gi26_9, pi26_9, gi26_10, pi26_10, gr26_11, gi26_12, pi26_12, gr26_13, gr26_14, gi26_15, pi26_15, gi26_16, pi26_16, gr26_17, gr26_18, gi26_19, pi26_19, gr26_20, gr26_21, gr26_22, gr26_23, gr26_24, gr26_25, gr26_26, gi26_27, pi26_27, gr26_28, gr26_29, gi26_30, pi26_30, gi26_31, pi26_31, gr26_32, gr26_33, gr26_34, gr26_35, gr26_36, gr26_37, gr26_38, gr26_39, gr26_40, Option.bind_some, rI34, wI34, yb0]
  refine lpd (fun f c (I1 : hI) => m173_26 F f 26 (nI b) (nI c - nI 1) (mkH (hs l s d tl) I1 J)) (fun c I1 => c ≤ y.length ∧ rw0 (y.drop c).reverse I1 ∧ rf I I1) (fun r => Tr (hs l s d tl) r _) ?_ ?_ F y.length (upI I 26 15 (nI 0)) (by omega) ⟨Nat.le_refl _, by rw [List.drop_length]; exact rw0_0 I, rf_0 I (nI 0)⟩
  · rintro f I1 ⟨-, h1, h2⟩
    rw [List.drop_zero] at h1
    show Tr _ (m173_26 F (f + 1) _ _ _ _) _
    rw [m173_26]
    simp (disch := omega) only [z_m1, m_ltk, if_true]
    simp (disch := omega) only [rc26, Option.bind_some]
    obtain ⟨v, I4, J4, e4, els', m5, m6, m7⟩ := kro_e (l := l) (s := s) (d := d) (tl := tl) (F := F) (J := J) (mo_rf hM h2) (km_rf hk h2) hF (cx_L_rev yL) (by simp; omega) (by rw [cx_l_rev hok yL]; omega) h1
    rw [e4]
    simp (disch := omega) only [Option.bind_some]
    exact Tr_ret ⟨els', m5, m6, rfr_tr (rfr_of h2 (fun _ _ => rfl)) m7⟩
  · rintro f c I1 ⟨h0, h1, h2⟩
    right
    obtain ⟨t, ht⟩ := ex_at (show c < y.length by omega)
    obtain ⟨yc', yL', yl', -, -, yb', yw'⟩ := km_c (km_rf hk h2) hb
    obtain ⟨I2, c1, c2, c3⟩ := pu_e (l := l) (s := s) (d := d) (tl := tl) (F := F) (J := J) h1 (by simp; omega) t
    show ∃ y, m173_26 F (f + 1) _ _ _ _ = _ ∧ _
    rw [m173_26]
    simp (disch := omega) only [pk_sub1, n_0, n_1, n_2, n_3, n_4, n_5, n_6, n_8, n_9, n_10, n_12, n_20, n_25, n_27, n_30, n_31, n_32, n_40, n_48, n_57, n_59, n_63, n_96, n_97, n_120, n_122, n_255, n_256, n_300, n_301, n_512, n_1000, n_1001, n_1002, n_1003, n_1004, n_1005, n_2000, n_2304, n_4096, nI_add, pk_mul, n_m, c_ge, c_gt, c_lt, c_le, c_eq, c_ne, d_lt, d_ge, d_ne, d_eq, d_gt, d_le, m_ltk, m_gek, m_eq, m_ne, rc26, gi26_0, pi26_0, gr26_1, gr26_2, gr26_3, gr26_4, gi26_5, pi26_5, gi26_6, pi26_6, gi26_7, pi26_7, gl26_8, pl26_8, gi26_9, pi26_9, gi26_10, pi26_10, gr26_11, gi26_12, pi26_12, gr26_13, gr26_14, gi26_15, pi26_15, gi26_16, pi26_16, gr26_17, gr26_18, gi26_19, pi26_19, gr26_20, gr26_21, gr26_22, gr26_23, gr26_24, gr26_25, gr26_26, gi26_27, pi26_27, gr26_28, gr26_29, gi26_30, pi26_30, gi26_31, pi26_31, gr26_32, gr26_33, gr26_34, gr26_35, gr26_36, gr26_37, gr26_38, gr26_39, gr26_40, Option.bind_some, if_false, rI35, wI35, yw' c t ht, c1, p_m1]
    refine ⟨_, rfl, by omega, ?_, rf_tr h2 c3⟩
    rw [drop_c ht, List.reverse_cons]
    exact c2
end S
