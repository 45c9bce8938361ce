/-! The reference: keep, down, root, below, covers, exchange, inversions. -/
section S
variable {l s d : Value} {tl : List hQ} {F : Nat} {I : hI} {J : hJ} {n a b o p N M : Nat} {A : Nat → Nat → Int} {els : List (List Nat)}
/-- the draft -/
def dr (n : Nat) (x : List Nat) (I : hI) : Prop := cx_L n x ∧ x.length ≤ 20 ∧ I 26 19 = nI x.length ∧ wd (I 36) 0 x
theorem kpx_v {x : List Nat} {v : Int32} {els' : List (List Nat)} (h40 : els.length ≤ 40) (h : kpx n A els x v els') : (∃ w, w < 40 ∧ v = nI w) ∨ v = gI 1004 := by
  obtain ⟨y, -, -, h⟩ := h
  rcases h with ⟨w, h1, -, h3, -⟩ | ⟨-, h2, h3, -⟩ | ⟨-, -, h3, -⟩
  · have := (List.getElem?_eq_some_iff.mp h1).1
    exact Or.inl ⟨w, by omega, h3⟩
  · exact Or.inl ⟨els.length, h2, h3⟩
  · exact Or.inr h3
/-- keep -/
theorem kpr_e (hM : mo_n n A I) (hk : km n A els I) (hF : 300 ≤ F) {x : List Nat} (hd : dr n x I) :
    Tr (hs l s d tl) (e166 F 26 (mkH (hs l s d tl) I J)) (fun v I' J' => ∃ els' I1, kpx n A els x v els' ∧ km n A els' I1 ∧ rfr I I1 J J' ∧ ((v = gI 1004 ∧ I' = upI I1 26 19 (nI x.length)) ∨ (v ≠ gI 1004 ∧ I' = upI I1 26 19 (nI 0)))) := by
  have hok := hM.1
  have h40 := hk.2.1
  obtain ⟨xL, x20, x19, xw⟩ := hd
  show Tr _ (m166_0 F 26 _) _
  unfold m166_0
  simp (disch := omega) only [rc26, gi26_0, pi26_0, gr26_1, gr26_2, gr26_3, gr26_4, gi26_5, pi26_5, gi26_6, pi26_6, gi26_7, pi26_7, gl26_8, pl26_8, gi26_9, pi26_9, gi26_10, pi26_10, gr26_11, gi26_12, pi26_12, gr26_13, gr26_14, gi26_15, pi26_15, gi26_16, pi26_16, gr26_17, gr26_18, gi26_19, pi26_19, gr26_20, gr26_21, gr26_22, gr26_23, gr26_24, gr26_25, gr26_26, gi26_27, pi26_27, gr26_28, gr26_29, gi26_30, pi26_30, gi26_31, pi26_31, gr26_32, gr26_33, gr26_34, gr26_35, gr26_36, gr26_37, gr26_38, gr26_39, gr26_40, Option.bind_some, n_0]
  refine lpc (fun f k (I1 : hI) => m166_7 F f 26 (nI k) (mkH (hs l s d tl) I1 J)) x.length (fun k I1 => rw0 (x.take k) I1 ∧ rf I I1) (fun r => Tr (hs l s d tl) r _) ?_ ?_ F 0 (upI I 26 15 (nI 0)) (by omega) (by omega) ⟨rw0_0 I, rf_0 I (nI 0)⟩
  · rintro f I1 ⟨h1, h2⟩
    rw [List.take_length] at h1
    have h19 : I1 26 19 = nI x.length := by rw [h2.2 19 (by decide), x19]
    obtain ⟨v, I4, J4, e4, els', m5, m6, m7⟩ := kro_e (l := l) (s := s) (d := d) (tl := tl) (F := F) (J := J) (mo_rf hM h2) (km_rf hk h2) hF xL (by omega) (by have := cx_l_len (A := A) xL; omega) h1
    have h194 : I4 26 19 = nI x.length := by rw [m7.2.1 19 (by decide) (by decide) (by decide), h19]
    show Tr _ (m166_7 F (f + 1) _ _ _) _
    rw [m166_7]
    simp (disch := omega) only [rc26, gi26_0, pi26_0, gr26_1, gr26_2, gr26_3, gr26_4, gi26_5, pi26_5, gi26_6, pi26_6, gi26_7, pi26_7, gl26_8, pl26_8, gi26_9, pi26_9, gi26_10, pi26_10, gr26_11, gi26_12, pi26_12, gr26_13, gr26_14, gi26_15, pi26_15, gi26_16, pi26_16, gr26_17, gr26_18, gi26_19, pi26_19, gr26_20, gr26_21, gr26_22, gr26_23, gr26_24, gr26_25, gr26_26, gi26_27, pi26_27, gr26_28, gr26_29, gi26_30, pi26_30, gi26_31, pi26_31, gr26_32, gr26_33, gr26_34, gr26_35, gr26_36, gr26_37, gr26_38, gr26_39, gr26_40, Option.bind_some, n_0, n_1, n_2, n_3, n_4, n_5, n_6, n_8, n_9, n_10, n_12, n_20, n_25, n_27, n_30, n_31, n_32, n_40, n_48, n_57, n_59, n_63, n_96, n_97, n_120, n_122, n_255, n_256, n_300, n_301, n_512, n_1000, n_1001, n_1002, n_1003, n_1004, n_1005, n_2000, n_2304, n_4096, nI_add, pk_mul, n_m, c_ge, c_gt, c_lt, c_le, c_eq, c_ne, d_lt, d_ge, d_ne, d_eq, d_gt, d_le, m_ltk, m_gek, m_eq, m_ne, h19, e4]
    rw [if_pos (by omega)]
    unfold m166_49
    have hfr := rfr_tr (rfr_of (J := J) (J' := J) h2 (fun _ _ => rfl)) m7
    rcases kpx_v h40 m5 with ⟨w, hw, hv⟩ | hv
    · subst hv
      simp (disch := omega) only [d_ge, if_true, rc26, gi26_0, pi26_0, gr26_1, gr26_2, gr26_3, gr26_4, gi26_5, pi26_5, gi26_6, pi26_6, gi26_7, pi26_7, gl26_8, pl26_8, gi26_9, pi26_9, gi26_10, pi26_10, gr26_11, gi26_12, pi26_12, gr26_13, gr26_14, gi26_15, pi26_15, gi26_16, pi26_16, gr26_17, gr26_18, gi26_19, pi26_19, gr26_20, gr26_21, gr26_22, gr26_23, gr26_24, gr26_25, gr26_26, gi26_27, pi26_27, gr26_28, gr26_29, gi26_30, pi26_30, gi26_31, pi26_31, gr26_32, gr26_33, gr26_34, gr26_35, gr26_36, gr26_37, gr26_38, gr26_39, gr26_40, Option.bind_some]
      exact Tr_ret ⟨els', I4, m5, m6, hfr, Or.inr ⟨Ne.symm (gI_nI (by omega) (by omega) (by omega)), rfl⟩⟩
    · subst hv
      simp (disch := omega) only [m_gek, if_false, rc26, gi26_0, pi26_0, gr26_1, gr26_2, gr26_3, gr26_4, gi26_5, pi26_5, gi26_6, pi26_6, gi26_7, pi26_7, gl26_8, pl26_8, gi26_9, pi26_9, gi26_10, pi26_10, gr26_11, gi26_12, pi26_12, gr26_13, gr26_14, gi26_15, pi26_15, gi26_16, pi26_16, gr26_17, gr26_18, gi26_19, pi26_19, gr26_20, gr26_21, gr26_22, gr26_23, gr26_24, gr26_25, gr26_26, gi26_27, pi26_27, gr26_28, gr26_29, gi26_30, pi26_30, gi26_31, pi26_31, gr26_32, gr26_33, gr26_34, gr26_35, gr26_36, gr26_37, gr26_38, gr26_39, gr26_40, Option.bind_some, h194]
      exact Tr_ret ⟨els', I4, m5, m6, hfr, Or.inl ⟨rfl, rfl⟩⟩
  · rintro f k I1 hkx ⟨h1, h2⟩
    right
    obtain ⟨t, ht⟩ := ex_at hkx
    have h19 : I1 26 19 = nI x.length := by rw [h2.2 19 (by decide), x19]
    have h36 : I1 36 k = nI t := by
      have := xw k t ht
      rw [Nat.zero_add] at this
      rw [h2.1 36 (by decide) (by decide), this]
    obtain ⟨I2, c1, c2, c3⟩ := pu_e (l := l) (s := s) (d := d) (tl := tl) (F := F) (J := J) h1 (by rw [List.length_take]; omega) t
    show ∃ y, m166_7 F (f + 1) _ _ _ = _ ∧ _
    rw [m166_7]
    simp (disch := omega) only [rc26, gi26_0, pi26_0, gr26_1, gr26_2, gr26_3, gr26_4, gi26_5, pi26_5, gi26_6, pi26_6, gi26_7, pi26_7, gl26_8, pl26_8, gi26_9, pi26_9, gi26_10, pi26_10, gr26_11, gi26_12, pi26_12, gr26_13, gr26_14, gi26_15, pi26_15, gi26_16, pi26_16, gr26_17, gr26_18, gi26_19, pi26_19, gr26_20, gr26_21, gr26_22, gr26_23, gr26_24, gr26_25, gr26_26, gi26_27, pi26_27, gr26_28, gr26_29, gi26_30, pi26_30, gi26_31, pi26_31, gr26_32, gr26_33, gr26_34, gr26_35, gr26_36, gr26_37, gr26_38, gr26_39, gr26_40, Option.bind_some, n_0, n_1, n_2, n_3, n_4, n_5, n_6, n_8, n_9, n_10, n_12, n_20, n_25, n_27, n_30, n_31, n_32, n_40, n_48, n_57, n_59, n_63, n_96, n_97, n_120, n_122, n_255, n_256, n_300, n_301, n_512, n_1000, n_1001, n_1002, n_1003, n_1004, n_1005, n_2000, n_2304, n_4096, nI_add, pk_mul, n_m, c_ge, c_gt, c_lt, c_le, c_eq, c_ne, d_lt, d_ge, d_ne, d_eq, d_gt, d_le, m_ltk, m_gek, m_eq, m_ne, h19, rI36, wI36, h36, c1]
    rw [if_neg (by omega)]
    exact ⟨_, rfl, by rw [take_c ht]; exact c2, rf_tr h2 c3⟩
/-- isOne -/
theorem io_e (hF : 30 ≤ F) : (e174 F 26 (mkH (hs l s d tl) I J) = some (nI 1, (mkH (hs l s d tl) I J)) ∧ ∀ q, q < 25 → J 32 q = zJ (if q / 5 = q % 5 then 1 else 0)) ∨ (e174 F 26 (mkH (hs l s d tl) I J) = some (nI 0, (mkH (hs l s d tl) I J)) ∧ ¬ ∀ q, q < 25 → J 32 q = zJ (if q / 5 = q % 5 then 1 else 0)) := by
  have key := lpc (fun f k (v : Nat) => m174_4 F f 26 (nI v) (nI k) (mkH (hs l s d tl) I J)) 25 (fun k v => (v = 1 ∧ ∀ j, j < k → J 32 j = zJ (if j / 5 = j % 5 then 1 else 0)) ∨ (v = 0 ∧ ¬ ∀ q, q < 25 → J 32 q = zJ (if q / 5 = q % 5 then 1 else 0))) (fun r => (r = some (nI 1, (mkH (hs l s d tl) I J)) ∧ ∀ q, q < 25 → J 32 q = zJ (if q / 5 = q % 5 then 1 else 0)) ∨ (r = some (nI 0, (mkH (hs l s d tl) I J)) ∧ ¬ ∀ q, q < 25 → J 32 q = zJ (if q / 5 = q % 5 then 1 else 0))) ?_ ?_ F 0 1 (by omega) (by omega) (Or.inl ⟨rfl, fun j hj => by omega⟩)
  · have e : e174 F 26 (mkH (hs l s d tl) I J) = m174_4 F F 26 (nI 1) (nI 0) (mkH (hs l s d tl) I J) := rfl
    rw [e]
    exact key
  · intro f v hv
    show (m174_4 F (f + 1) _ _ _ _ = _ ∧ _) ∨ (m174_4 F (f + 1) _ _ _ _ = _ ∧ _)
    rw [m174_4]
    simp (disch := omega) only [n_25, c_ge]
    rw [if_pos (by omega)]
    rcases hv with ⟨rfl, h⟩ | ⟨rfl, h⟩
    · exact Or.inl ⟨rfl, h⟩
    · exact Or.inr ⟨rfl, h⟩
  · intro f k v hk hv
    right
    show ∃ y, m174_4 F (f + 1) _ _ _ _ = _ ∧ _
    rw [m174_4]
    rcases hv with ⟨rfl, h⟩ | ⟨rfl, h⟩
    · simp (disch := omega) only [n_25, n_5, c_ge, d_eq, pk_div]
      rw [if_neg (by omega), if_neg (by omega)]
      have er : nI k - nI (k / 5) * nI 5 = nI (k % 5) := by rw [← pk_div (by omega) (by omega) (by omega), pk_rem (by omega) (by omega) (by omega)]
      simp (disch := omega) only [rc26, gi26_0, pi26_0, gr26_1, gr26_2, gr26_3, gr26_4, gi26_5, pi26_5, gi26_6, pi26_6, gi26_7, pi26_7, gl26_8, pl26_8, gi26_9, pi26_9, gi26_10, pi26_10, gr26_11, gi26_12, pi26_12, gr26_13, gr26_14, gi26_15, pi26_15, gi26_16, pi26_16, gr26_17, gr26_18, gi26_19, pi26_19, gr26_20, gr26_21, gr26_22, gr26_23, gr26_24, gr26_25, gr26_26, gi26_27, pi26_27, gr26_28, gr26_29, gi26_30, pi26_30, gi26_31, pi26_31, gr26_32, gr26_33, gr26_34, gr26_35, gr26_36, gr26_37, gr26_38, gr26_39, gr26_40, Option.bind_some, rJ32, wJ32, er, c_ne]
      unfold m174_34 m174_42 m174_43
      simp only [k_ne, n_0, n_1, nI_add]
      have fin : ∀ (z : Int), (if k / 5 = k % 5 then (1 : Int) else 0) = z → ∃ y, (if ¬ J 32 k = zJ z then m174_4 F f 26 (nI 0) (nI (k + 1)) (mkH (hs l s d tl) I J) else m174_4 F f 26 (nI 1) (nI (k + 1)) (mkH (hs l s d tl) I J)) = m174_4 F f 26 (nI y) (nI (k + 1)) (mkH (hs l s d tl) I J) ∧ ((y = 1 ∧ ∀ j, j < k + 1 → J 32 j = zJ (if j / 5 = j % 5 then 1 else 0)) ∨ (y = 0 ∧ ¬ ∀ q, q < 25 → J 32 q = zJ (if q / 5 = q % 5 then 1 else 0))) := by
        intro z hz
        by_cases h2 : J 32 k = zJ z
        · rw [if_neg (fun h => h h2)]
          refine ⟨1, rfl, Or.inl ⟨rfl, fun j hj => ?_⟩⟩
          by_cases hjk : j = k
          · subst hjk
            rw [hz, h2]
          · exact h j (by omega)
        · rw [if_pos h2]
          refine ⟨0, rfl, Or.inr ⟨rfl, fun h3 => h2 ?_⟩⟩
          rw [← hz]
          exact h3 k hk
      by_cases hc : k / 5 = k % 5
      · rw [if_neg (fun h => h hc)]
        exact fin 1 (if_pos hc)
      · rw [if_pos hc]
        exact fin 0 (if_neg hc)
    · simp (disch := omega) only [n_25, c_ge, d_eq]
      rw [if_neg (by omega), if_pos trivial]
      unfold m174_42 m174_43
      simp only [n_0, n_1, n_2, n_3, n_4, n_5, n_6, n_8, n_9, n_10, n_12, n_20, n_25, n_27, n_30, n_31, n_32, n_40, n_48, n_57, n_59, n_63, n_96, n_97, n_120, n_122, n_255, n_256, n_300, n_301, n_512, n_1000, n_1001, n_1002, n_1003, n_1004, n_1005, n_2000, n_2304, n_4096, nI_add, pk_mul, n_m, c_ge, c_gt, c_lt, c_le, c_eq, c_ne, d_lt, d_ge, d_ne, d_eq, d_gt, d_le, m_ltk, m_gek, m_eq, m_ne]
      exact ⟨0, rfl, Or.inr ⟨rfl, h⟩⟩
theorem ioq_e (hok : cx_ok n A) (hn5 : n ≤ 5) (hF : 30 ≤ F) {x : List Nat} (hx : cx_L n x) (hl : cx_l n A x ≤ 31) (hq : sq n A x (J 32) 0) : (e174 F 26 (mkH (hs l s d tl) I J) = some (nI 1, (mkH (hs l s d tl) I J)) ∧ cx_l n A x = 0) ∨ (e174 F 26 (mkH (hs l s d tl) I J) = some (nI 0, (mkH (hs l s d tl) I J)) ∧ cx_l n A x ≠ 0) := by
  have hi := sq_un hok hn5 hx cx_L_nil hl (by rw [cx_l_nil]; omega) hq (sq_nil (n := n) (A := A) (J := J) (b := 32) (p := 0))
  have e : (∀ q, q < 25 → J 32 q = zJ (if q / 5 = q % 5 then 1 else 0)) ↔ cx_l n A x = 0 := by
    constructor
    · intro h
      have := hi.mp (fun q hq => by rw [rwJ_in hq, Nat.zero_add]; exact h q hq)
      rw [cx_l_eq this, cx_l_nil]
    · intro h q hq
      have := hi.mpr (cx_l_0 hx h) q hq
      rw [rwJ_in hq, Nat.zero_add] at this
      exact this
  rcases io_e (l := l) (s := s) (d := d) (tl := tl) (F := F) (I := I) (J := J) hF with ⟨h1, h2⟩ | ⟨h1, h2⟩
  · exact Or.inl ⟨h1, e.mp h2⟩
  · exact Or.inr ⟨h1, fun h3 => h2 (e.mpr h3)⟩
/-- below -/
theorem bwr_e (hM : mo_n n A I) (hk : km n A els I) (hF : 300 ≤ F) {u y : List Nat} (ha : els[a]? = some u) (hb : els[b]? = some y) :
    Tr (hs l s d tl) (e175 F 26 (nI a) (nI b) (mkH (hs l s d tl) I J)) (fun v I' J' => ((v = nI 1 ∧ sbw n A u y) ∨ (v = nI 0 ∧ ¬ sbw n A u y)) ∧ I' = I ∧ rfr I I' J J') := by
  have hok := hM.1
  have hn5 := hM.2.2.1
  obtain ⟨uc, uL, ul, u20, a40, ua, uw⟩ := km_c hk ha
  obtain ⟨yc, yL, yl, y20, b40, yb, yw⟩ := km_c hk hb
  show Tr _ (m175_0 F 26 _ _ _) _
  unfold m175_0
  obtain ⟨J1, e1, h1, h2⟩ := sqr_e (l := l) (s := s) (d := d) (tl := tl) (F := F) (J := J) hM hk (by omega) ha
  simp (disch := omega) only [rc26, gi26_0, pi26_0, gr26_1, gr26_2, gr26_3, gr26_4, gi26_5, pi26_5, gi26_6, pi26_6, gi26_7, pi26_7, gl26_8, pl26_8, gi26_9, pi26_9, gi26_10, pi26_10, gr26_11, gi26_12, pi26_12, gr26_13, gr26_14, gi26_15, pi26_15, gi26_16, pi26_16, gr26_17, gr26_18, gi26_19, pi26_19, gr26_20, gr26_21, gr26_22, gr26_23, gr26_24, gr26_25, gr26_26, gi26_27, pi26_27, gr26_28, gr26_29, gi26_30, pi26_30, gi26_31, pi26_31, gr26_32, gr26_33, gr26_34, gr26_35, gr26_36, gr26_37, gr26_38, gr26_39, gr26_40, Option.bind_some, ie1 hk ha, ie1 hk hb, d_eq, d_ne]
  rw [if_neg (by omega), if_pos (by omega)]
  simp (disch := omega) only [rc26, gi26_0, pi26_0, gr26_1, gr26_2, gr26_3, gr26_4, gi26_5, pi26_5, gi26_6, pi26_6, gi26_7, pi26_7, gl26_8, pl26_8, gi26_9, pi26_9, gi26_10, pi26_10, gr26_11, gi26_12, pi26_12, gr26_13, gr26_14, gi26_15, pi26_15, gi26_16, pi26_16, gr26_17, gr26_18, gi26_19, pi26_19, gr26_20, gr26_21, gr26_22, gr26_23, gr26_24, gr26_25, gr26_26, gi26_27, pi26_27, gr26_28, gr26_29, gi26_30, pi26_30, gi26_31, pi26_31, gr26_32, gr26_33, gr26_34, gr26_35, gr26_36, gr26_37, gr26_38, gr26_39, gr26_40, Option.bind_some, n_0, n_1, e1, rI34, wI34, yb]
  refine lpd (fun f c (x : hJ × List Nat) => m175_35 F f 26 (nI b) (nI c - nI 1) (mkH (hs l s d tl) I x.1)) (fun c x => c ≤ y.length ∧ cx_L n x.2 ∧ cx_l n A x.2 ≤ 20 ∧ sq n A x.2 (x.1 32) 0 ∧ (∀ c, c ≠ 32 → x.1 c = J c) ∧ (sbw n A u y ↔ gb n A x.2 (y.take c).reverse)) (fun r => Tr (hs l s d tl) r _) ?_ ?_ F y.length (J1, u) (by omega) ⟨Nat.le_refl _, uL, by dsimp only; omega, h1, h2, by rw [List.take_length]; exact (gb_r hok uL yL).symm⟩
  · rintro f ⟨K, x⟩ ⟨-, k1, k2, k3, k4, k5⟩
    dsimp only at k1 k2 k3 k4 k5
    rw [List.take_zero, List.reverse_nil] at k5
    have hz : gb n A x [] ↔ cx_l n A x = 0 := Iff.rfl
    rw [hz] at k5
    show Tr _ (m175_35 F (f + 1) _ _ _ _) _
    rw [m175_35]
    simp (disch := omega) only [z_m1, m_ltk, if_true]
    simp (disch := omega) only [rc26, Option.bind_some]
    unfold m175_89
    rcases ioq_e (l := l) (s := s) (d := d) (tl := tl) (F := F) (I := I) (J := K) hok hn5 (by omega) k1 (by omega) k3 with ⟨e, h⟩ | ⟨e, h⟩
    · rw [e]
      simp (disch := omega) only [Option.bind_some, d_eq]
      rw [if_neg (by omega)]
      exact Tr_ret ⟨Or.inl ⟨rfl, k5.mpr h⟩, rfl, rfr_J k4⟩
    · rw [e]
      simp (disch := omega) only [Option.bind_some, d_eq, if_true]
      exact Tr_ret ⟨Or.inr ⟨rfl, fun h2 => h (k5.mp h2)⟩, rfl, rfr_J k4⟩
  · rintro f c ⟨K, x⟩ ⟨k0, k1, k2, k3, k4, k5⟩
    dsimp only at k0 k1 k2 k3 k4 k5
    right
    obtain ⟨t, ht⟩ := ex_at (show c < y.length by omega)
    have htn := cx_L_at yL ht
    rw [take_c ht, List.reverse_append] at k5
    show ∃ y, m175_35 F (f + 1) _ _ _ _ = _ ∧ _
    rw [m175_35]
    simp (disch := omega) only [pk_sub1, d_lt, if_false]
    simp (disch := omega) only [rc26, gi26_0, pi26_0, gr26_1, gr26_2, gr26_3, gr26_4, gi26_5, pi26_5, gi26_6, pi26_6, gi26_7, pi26_7, gl26_8, pl26_8, gi26_9, pi26_9, gi26_10, pi26_10, gr26_11, gi26_12, pi26_12, gr26_13, gr26_14, gi26_15, pi26_15, gi26_16, pi26_16, gr26_17, gr26_18, gi26_19, pi26_19, gr26_20, gr26_21, gr26_22, gr26_23, gr26_24, gr26_25, gr26_26, gi26_27, pi26_27, gr26_28, gr26_29, gi26_30, pi26_30, gi26_31, pi26_31, gr26_32, gr26_33, gr26_34, gr26_35, gr26_36, gr26_37, gr26_38, gr26_39, gr26_40, Option.bind_some, n_0, n_1, n_2, n_3, n_4, n_5, n_6, n_8, n_9, n_10, n_12, n_20, n_25, n_27, n_30, n_31, n_32, n_40, n_48, n_57, n_59, n_63, n_96, n_97, n_120, n_122, n_255, n_256, n_300, n_301, n_512, n_1000, n_1001, n_1002, n_1003, n_1004, n_1005, n_2000, n_2304, n_4096, nI_add, pk_mul, n_m, c_ge, c_gt, c_lt, c_le, c_eq, c_ne, d_lt, d_ge, d_ne, d_eq, d_gt, d_le, m_ltk, m_gek, m_eq, m_ne, rI35, wI35, yw c t ht]
    unfold m175_71
    rcases idq_e (l := l) (s := s) (d := d) (tl := tl) (F := F) (I := I) (J := K) hok hn5 (by omega) q32 (by decide) htn (by omega) k1 (by omega) k3 with ⟨e2, hdn⟩ | ⟨e2, hdn⟩
    · obtain ⟨J2, c1, c2, c3⟩ := th_e (l := l) (s := s) (d := d) (tl := tl) (F := F) (J := K) hM (by omega) htn k1 k3
      rw [e2]
      simp (disch := omega) only [rc26, gi26_0, pi26_0, gr26_1, gr26_2, gr26_3, gr26_4, gi26_5, pi26_5, gi26_6, pi26_6, gi26_7, pi26_7, gl26_8, pl26_8, gi26_9, pi26_9, gi26_10, pi26_10, gr26_11, gi26_12, pi26_12, gr26_13, gr26_14, gi26_15, pi26_15, gi26_16, pi26_16, gr26_17, gr26_18, gi26_19, pi26_19, gr26_20, gr26_21, gr26_22, gr26_23, gr26_24, gr26_25, gr26_26, gi26_27, pi26_27, gr26_28, gr26_29, gi26_30, pi26_30, gi26_31, pi26_31, gr26_32, gr26_33, gr26_34, gr26_35, gr26_36, gr26_37, gr26_38, gr26_39, gr26_40, Option.bind_some, d_eq, c1, n_1, n_m, p_m1, Prod.exists]
      rw [if_neg (by omega)]
      refine ⟨_, x ++ [t], rfl, by omega, cx_L_app k1 (cx_L_1 htn), by have := dn_1 hok k1 htn hdn; omega, c2, fun c hc => (c3 c hc).trans (k4 c hc), ?_⟩
      rw [k5]
      exact ⟨fun h => h.1 hdn, fun h => ⟨fun _ => h, fun h2 => absurd hdn h2⟩⟩
    · rw [e2]
      simp (disch := omega) only [Option.bind_some, d_eq, if_true, n_1, n_m, p_m1, Prod.exists]
      refine ⟨_, x, rfl, by omega, k1, k2, k3, k4, ?_⟩
      rw [k5]
      exact ⟨fun h => h.2 hdn, fun h => ⟨fun h2 => absurd h2 hdn, fun _ => h⟩⟩
/-- the set of mirrors down -/
theorem dwr_e (hM : mo_n n A I) (hF : 300 ≤ F) {x : List Nat} (hx : cx_L n x) (hl : cx_l n A x ≤ 31) (hq : sq n A x (J 32) 0) : ∃ S, m170_45 F F 26 (nI 0) (nI 0) (mkH (hs l s d tl) I J) = some (nI S, (mkH (hs l s d tl) I J)) ∧ S < 2 ^ n ∧ ∀ j, j < n → (S / 2 ^ j % 2 = 1 ↔ dn n A x j) := by
  obtain ⟨hok, h1n, hn5, hn, -⟩ := hM
  have tw : ∀ k : Nat, 2 ^ (k + 1) = 2 ^ k + 2 ^ k := fun k => by omega
  refine lpc (fun f k (S : Nat) => m170_45 F f 26 (nI S) (nI k) (mkH (hs l s d tl) I J)) n (fun k S => S < 2 ^ k ∧ ∀ j, j < k → (S / 2 ^ j % 2 = 1 ↔ dn n A x j)) (fun r => ∃ S, r = some (nI S, (mkH (hs l s d tl) I J)) ∧ S < 2 ^ n ∧ ∀ j, j < n → (S / 2 ^ j % 2 = 1 ↔ dn n A x j)) ?_ ?_ F 0 0 (by omega) (by omega) ⟨by decide, fun j hj => by omega⟩
  · intro f S hK
    refine ⟨S, ?_, hK⟩
    show m170_45 F (f + 1) _ _ _ _ = _
    rw [m170_45]
    simp (disch := omega) only [rc26, gi26_0, pi26_0, gr26_1, gr26_2, gr26_3, gr26_4, gi26_5, pi26_5, gi26_6, pi26_6, gi26_7, pi26_7, gl26_8, pl26_8, gi26_9, pi26_9, gi26_10, pi26_10, gr26_11, gi26_12, pi26_12, gr26_13, gr26_14, gi26_15, pi26_15, gi26_16, pi26_16, gr26_17, gr26_18, gi26_19, pi26_19, gr26_20, gr26_21, gr26_22, gr26_23, gr26_24, gr26_25, gr26_26, gi26_27, pi26_27, gr26_28, gr26_29, gi26_30, pi26_30, gi26_31, pi26_31, gr26_32, gr26_33, gr26_34, gr26_35, gr26_36, gr26_37, gr26_38, gr26_39, gr26_40, Option.bind_some, hn, n_0, n_1, n_2, n_3, n_4, n_5, n_6, n_8, n_9, n_10, n_12, n_20, n_25, n_27, n_30, n_31, n_32, n_40, n_48, n_57, n_59, n_63, n_96, n_97, n_120, n_122, n_255, n_256, n_300, n_301, n_512, n_1000, n_1001, n_1002, n_1003, n_1004, n_1005, n_2000, n_2304, n_4096, nI_add, pk_mul, n_m, c_ge, c_gt, c_lt, c_le, c_eq, c_ne, d_lt, d_ge, d_ne, d_eq, d_gt, d_le, m_ltk, m_gek, m_eq, m_ne]
    rw [if_pos (by omega)]
  · intro f k S hk hK
    right
    show ∃ y, m170_45 F (f + 1) _ _ _ _ = _ ∧ _
    rw [m170_45]
    simp (disch := omega) only [rc26, gi26_0, pi26_0, gr26_1, gr26_2, gr26_3, gr26_4, gi26_5, pi26_5, gi26_6, pi26_6, gi26_7, pi26_7, gl26_8, pl26_8, gi26_9, pi26_9, gi26_10, pi26_10, gr26_11, gi26_12, pi26_12, gr26_13, gr26_14, gi26_15, pi26_15, gi26_16, pi26_16, gr26_17, gr26_18, gi26_19, pi26_19, gr26_20, gr26_21, gr26_22, gr26_23, gr26_24, gr26_25, gr26_26, gi26_27, pi26_27, gr26_28, gr26_29, gi26_30, pi26_30, gi26_31, pi26_31, gr26_32, gr26_33, gr26_34, gr26_35, gr26_36, gr26_37, gr26_38, gr26_39, gr26_40, Option.bind_some, hn, n_0, n_1, n_2, n_3, n_4, n_5, n_6, n_8, n_9, n_10, n_12, n_20, n_25, n_27, n_30, n_31, n_32, n_40, n_48, n_57, n_59, n_63, n_96, n_97, n_120, n_122, n_255, n_256, n_300, n_301, n_512, n_1000, n_1001, n_1002, n_1003, n_1004, n_1005, n_2000, n_2304, n_4096, nI_add, pk_mul, n_m, c_ge, c_gt, c_lt, c_le, c_eq, c_ne, d_lt, d_ge, d_ne, d_eq, d_gt, d_le, m_ltk, m_gek, m_eq, m_ne]
    rw [if_neg (by omega)]
    unfold m170_76
    have hk5 : k < 5 := by omega
    have h32 : 2 ^ k ≤ 16 := by
      have := Nat.pow_le_pow_right (n := 2) (by omega) (show k ≤ 4 by omega)
      omega
    have low : ∀ j, j < k → (S + 2 ^ k) / 2 ^ j % 2 = S / 2 ^ j % 2 := by
      intro j hj
      have e : 2 ^ k = 2 ^ j * (2 * 2 ^ (k - j - 1)) := by
        rw [← Nat.mul_assoc, ← Nat.pow_succ, ← Nat.pow_add]
        congr 1
        omega
      rw [e, Nat.add_mul_div_left _ _ (Nat.two_pow_pos j)]
      omega
    rcases idq_e (l := l) (s := s) (d := d) (tl := tl) (F := F) (I := I) (J := J) hok hn5 (by omega) q32 (by decide) hk (by omega) hx hl hq with ⟨e2, hdn⟩ | ⟨e2, hdn⟩
    · rw [e2]
      simp (disch := omega) only [Option.bind_some, n_0, n_1, n_2, n_3, n_4, n_5, n_6, n_8, n_9, n_10, n_12, n_20, n_25, n_27, n_30, n_31, n_32, n_40, n_48, n_57, n_59, n_63, n_96, n_97, n_120, n_122, n_255, n_256, n_300, n_301, n_512, n_1000, n_1001, n_1002, n_1003, n_1004, n_1005, n_2000, n_2304, n_4096, nI_add, pk_mul, n_m, c_ge, c_gt, c_lt, c_le, c_eq, c_ne, d_lt, d_ge, d_ne, d_eq, d_gt, d_le, m_ltk, m_gek, m_eq, m_ne]
      rw [if_neg (by omega), or_e k hk5 S (by omega) hK.1]
      refine ⟨S + 2 ^ k, rfl, by have := tw k; omega, fun j hj => ?_⟩
      by_cases hj2 : j = k
      · subst hj2
        rw [Nat.add_div_right _ (Nat.two_pow_pos j), Nat.div_eq_of_lt hK.1]
        exact ⟨fun _ => hdn, fun _ => rfl⟩
      · rw [low j (by omega)]
        exact hK.2 j (by omega)
    · have eor : nI S ||| nI 0 = nI S := Int32.or_zero
      rw [e2]
      simp (disch := omega) only [Option.bind_some, n_0, n_1, n_2, n_3, n_4, n_5, n_6, n_8, n_9, n_10, n_12, n_20, n_25, n_27, n_30, n_31, n_32, n_40, n_48, n_57, n_59, n_63, n_96, n_97, n_120, n_122, n_255, n_256, n_300, n_301, n_512, n_1000, n_1001, n_1002, n_1003, n_1004, n_1005, n_2000, n_2304, n_4096, nI_add, pk_mul, n_m, c_ge, c_gt, c_lt, c_le, c_eq, c_ne, d_lt, d_ge, d_ne, d_eq, d_gt, d_le, m_ltk, m_gek, m_eq, m_ne, if_true, eor]
      refine ⟨S, rfl, by have := tw k; omega, fun j hj => ?_⟩
      by_cases hj2 : j = k
      · subst hj2
        rw [Nat.div_eq_of_lt hK.1]
        exact ⟨fun e => by omega, fun e => absurd e hdn⟩
      · exact hK.2 j (by omega)
end S
