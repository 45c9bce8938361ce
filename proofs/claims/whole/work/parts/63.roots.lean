/-! The class: Roots. -/
theorem k_gt (x y : Int64) : (mc1 .gt (lg_cmp x y) = true) = (y < x) := by
  show (decide (lg_cmp x y > 0) = true) = _
  rw [decide_eq_true_eq]
  unfold lg_cmp
  apply propext
  by_cases h1 : x > y
  · rw [if_pos h1]
    exact ⟨fun _ => h1, fun _ => by decide⟩
  · rw [if_neg h1]
    refine ⟨fun h => ?_, fun h => absurd h h1⟩
    by_cases h2 : x = y
    · rw [if_pos h2] at h
      exact absurd h (by decide)
    · rw [if_neg h2] at h
      exact absurd h (by decide)
theorem k_geg (x y : Int64) : (mc1 .ge (lg_cmp x y) = true) = ¬ x < y := by
  show (decide (0 ≤ lg_cmp x y) = true) = _
  rw [decide_eq_true_eq]
  unfold lg_cmp
  apply propext
  by_cases h1 : x > y
  · rw [if_pos h1]
    exact ⟨fun _ h => by have a1 := Int64.lt_iff_toInt_lt.mp h1; have a2 := Int64.lt_iff_toInt_lt.mp h; omega, fun _ => by decide⟩
  · rw [if_neg h1]
    by_cases h2 : x = y
    · rw [if_pos h2, h2]
      exact ⟨fun _ h => by have a2 := Int64.lt_iff_toInt_lt.mp h; omega, fun _ => by decide⟩
    · rw [if_neg h2]
      refine ⟨fun h => absurd h (by decide), fun h => ?_⟩
      exfalso
      apply h2
      rw [← Int64.toInt_inj]
      have h3 : ¬ y.toInt < x.toInt := fun e => h1 (Int64.lt_iff_toInt_lt.mpr e)
      have h4 : ¬ x.toInt < y.toInt := fun e => h (Int64.lt_iff_toInt_lt.mpr e)
      omega
/-- a row is what x makes of start root i -/
def rt (n : Nat) (A : Nat → Nat → Int) (x : List Nat) (i : Nat) (g : Nat → Int64) (o : Nat) : Prop := ∀ k, k < n → g (o + k) = zJ (cx_x n A x (cx_e i) k)
/-- w, t times -/
def pwr (y : List Nat) : Nat → List Nat
  | 0 => []
  | t + 1 => y ++ pwr y t
section S
variable {n : Nat} {A : Nat → Nat → Int}
theorem pwr_L {y : List Nat} (h : cx_L n y) (t : Nat) : cx_L n (pwr y t) := by
  induction t with
  | zero => exact cx_L_nil
  | succ t ih => exact cx_L_app h ih
theorem pwr_r (y : List Nat) (t : Nat) : pwr y (t + 1) = pwr y t ++ y := by
  induction t with
  | zero => show y ++ [] = [] ++ y; rw [List.append_nil]; rfl
  | succ t ih =>
    show y ++ pwr y (t + 1) = y ++ pwr y t ++ y
    rw [ih, List.append_assoc]
theorem sJ_z {k : Nat} {f : Nat → Int64} {g : Nat → Int} (h : ∀ j, j < k → f j = zJ (g j)) : sJ k f = zJ (cx_sum k g) := by
  induction k with
  | zero => rfl
  | succ k ih => rw [sJ, cx_sum, ih (fun j hj => h j (by omega)), h k (by omega), zJ_add]
theorem rt_turn {x : List Nat} {i t : Nat} {J : hJ} {b p : Nat} (h : rt n A x i (J b) p) (ht : t < n) : rt n A (t :: x) i (upJ J b (p + t) (J b (p + t) - sJ n (fun j => zJ (A t j) * J b (p + j))) b) p := by
  intro k hk
  have e : sJ n (fun j => zJ (A t j) * J b (p + j)) = zJ (cx_sum n (fun j => A t j * cx_x n A x (cx_e i) j)) := sJ_z (fun j hj => by rw [h j hj, zJ_mul])
  rw [upJ_at, e, cx_x]
  unfold cx_a
  by_cases hkt : k = t
  · subst hkt
    rw [if_pos rfl, if_pos rfl, h k hk, zJ_sub]
  · rw [if_neg (by omega), if_neg hkt, h k hk]
theorem rt_nil {i : Nat} {J : hJ} {b p : Nat} : rt n A [] i (rwJ J b p n (fun j => zJ (cx_e i j)) b) p := by
  intro k hk
  rw [rwJ_in hk]
  rfl
/-- letters left out at unlike places: unlike elements -/
theorem er_inj (hok : cx_ok n A) {y : List Nat} (hy : cx_L n y) (hl : cx_l n A y = y.length) {i j : Nat} (hij : i < j) (hj : j < y.length) : cx_g n A (y.eraseIdx i) ≠ cx_g n A (y.eraseIdx j) := by
  intro h
  obtain ⟨a, ha⟩ := ex_at (show i < y.length by omega)
  obtain ⟨b, hb⟩ := ex_at hj
  have e1 : y = y.take i ++ (a :: y.drop (i + 1)) := by rw [← drop_c ha, List.take_append_drop]
  have e2 : y.drop (i + 1) = (y.drop (i + 1)).take (j - (i + 1)) ++ (b :: y.drop (j + 1)) := by
    have hb2 : (y.drop (i + 1))[j - (i + 1)]? = some b := by
      rw [List.getElem?_drop, ← hb]
      congr 1
      omega
    have := List.take_append_drop (j - (i + 1)) (y.drop (i + 1))
    rw [drop_c hb2, List.drop_drop, show i + 1 + (j - (i + 1) + 1) = j + 1 by omega] at this
    exact this.symm
  have pL := take_L hy i
  have rL := drop_L hy (j + 1)
  have hmL : cx_L n ((y.drop (i + 1)).take (j - (i + 1))) := take_L (drop_L hy (i + 1)) _
  have haL := cx_L_at hy ha
  have hbL := cx_L_at hy hb
  have ej : y.eraseIdx j = y.take i ++ (a :: (y.drop (i + 1)).take (j - (i + 1))) ++ y.drop (j + 1) := by
    rw [er_app]
    congr 1
    have : y.take j = (y.take i ++ (a :: y.drop (i + 1))).take j := by rw [← e1]
    rw [this, List.take_append, List.length_take, Nat.min_eq_left (by omega), show j - i = (j - (i + 1)) + 1 by omega, List.take_succ_cons, List.take_of_length_le (by rw [List.length_take]; omega)]
  rw [er_app, ej] at h
  -- take i away, and what stands behind j
  generalize hm : (y.drop (i + 1)).take (j - (i + 1)) = m at *
  rw [e2] at h
  have h1 : cx_g n A (m ++ (b :: y.drop (j + 1))) = cx_g n A ((a :: m) ++ y.drop (j + 1)) := by
    have := cx_g_ap2 (n := n) (A := A) (y.take i).reverse h
    rw [List.append_assoc (y.take i), ← List.append_assoc (y.take i).reverse, ← List.append_assoc (y.take i).reverse] at this
    have c := cx_g_vni (A := A) hok pL
    exact (cx_g_ap1 _ c).symm.trans (this.trans (cx_g_ap1 _ c))
  have h2 : cx_g n A (m ++ [b]) = cx_g n A (a :: m) := by
    have := cx_g_ap1 (n := n) (A := A) (y.drop (j + 1)).reverse h1
    rw [show m ++ (b :: y.drop (j + 1)) = (m ++ [b]) ++ y.drop (j + 1) by rw [List.append_assoc]; rfl, List.append_assoc, List.append_assoc (a :: m)] at this
    have c := cx_g_inv (A := A) hok rL
    have c1 := cx_g_ap2 (m ++ [b]) c
    have c2 := cx_g_ap2 (a :: m) c
    rw [List.append_nil] at c1 c2
    exact c1.symm.trans (this.trans c2)
  have h3 : cx_g n A y = cx_g n A (y.take i ++ (m ++ y.drop (j + 1))) := by
    have e3 : cx_g n A (a :: (m ++ [b])) = cx_g n A m := (cx_g_cons a h2).trans (cx_g_sc hok haL m)
    have e4 : y = y.take i ++ ((a :: (m ++ [b])) ++ y.drop (j + 1)) := by
      have : (a :: (m ++ [b])) ++ y.drop (j + 1) = a :: y.drop (i + 1) := by
        rw [e2]
        simp
      rw [this]
      exact e1
    have e5 := cx_g_ap2 (n := n) (A := A) (y.take i) (cx_g_ap1 (y.drop (j + 1)) e3)
    rw [← e4] at e5
    exact e5
  have h4 := cx_l_le (A := A) hy (cx_L_app pL (cx_L_app hmL rL)) h3.symm
  have h5 : m.length = j - (i + 1) := by
    rw [← hm, List.length_take, List.length_drop]
    omega
  rw [List.length_append, List.length_append, List.length_take, List.length_drop] at h4
  omega
theorem x_in (hok : cx_ok n A) {u : List Nat} (hu : cx_L n u) (hl : cx_l n A u ≤ 31) {j : Nat} (hj : j < n) (k : Nat) : -2 ^ 63 ≤ cx_x n A u (cx_e j) k ∧ cx_x n A u (cx_e j) k < 2 ^ 63 := by
  have h1 := cx_bd_x hok hu hj k
  have h2 := pow31 hl
  omega
/-- all numbers 0 or more, or all 0 or less -/
theorem cx_sgn (hok : cx_ok n A) {x : List Nat} (hx : cx_L n x) {s : Nat} (hs : s < n) : (∀ i, 0 ≤ cx_x n A x (cx_e s) i) ∨ (∀ i, cx_x n A x (cx_e s) i ≤ 0) := by
  rcases cx_step hok hx hs with h | h
  · exact Or.inl h.2
  · exact Or.inr h.2
end S
section S
variable {l s d : Value} {tl : List hQ} {F : Nat} {I : hI} {J : hJ} {n a b o p N M : Nat} {A : Nat → Nat → Int} {els : List (List Nat)}
/-- turnBy -/
theorem tb_e (hc : cl_n n A I) (hk : kp n A els I J) (hF : 100 ≤ F) {y x : List Nat} {i : Nat} (hb : els[b]? = some y) (ha : (hs l s d tl)[a]? = some (.inl (1, N))) (hN : N < 2 ^ 31) (h1 : p + n ≤ N) (h11 : a ≠ 11) (h12 : a ≠ 12) (hr : rt n A x i (J a) p) :
    Tr (hs l s d tl) (e52 F 19 (nI b) a (nI p) (mkH (hs l s d tl) I J)) (fun _ I' J' => rt n A (y ++ x) i (J' a) p ∧ I' = I ∧ (∀ c, c ≠ a → J' c = J c) ∧ ∀ k, k < p ∨ p + n ≤ k → J' a k = J a k) := by
  obtain ⟨yc, yL, yl, y20, b40, yb⟩ := kp_c hk hb
  show Tr _ (m52_0 F 19 _ _ _ _) _
  unfold m52_0
  simp (disch := omega) only [rc0, gr0_0, gr0_1, gr0_2, gr0_3, gr0_4, gr0_5, gr0_6, gi0_7, pi0_7, rc1, gi1_0, pi1_0, gr1_1, gr1_2, rc4, gr4_0, gi4_1, pi4_1, gi4_2, pi4_2, gi4_3, pi4_3, gi4_4, pi4_4, gi4_5, pi4_5, gr4_6, gr4_7, rc8, gr8_0, gi8_1, pi8_1, gr8_2, gr8_3, gr8_4, gr8_5, gr8_6, rc14, gr14_0, gr14_1, gr14_2, gr14_3, gr14_4, gr14_5, rc19, gr19_0, gr19_1, gr19_2, gr19_3, rc22, gr22_0, gr22_1, gr22_2, gr22_3, Option.bind_some, n_0, n_1, n_2, n_3, n_4, n_5, n_6, n_8, n_9, n_10, n_12, n_20, n_25, n_27, n_30, n_31, n_32, n_40, n_48, n_57, n_59, n_63, n_96, n_97, n_120, n_122, n_255, n_256, n_300, n_301, n_512, n_1000, n_1001, n_1002, n_1003, n_1004, n_1005, n_2000, n_2304, n_4096, nI_add, pk_mul, n_m, c_ge, c_gt, c_lt, c_le, c_eq, c_ne, d_lt, d_ge, d_ne, d_eq, d_gt, d_le, m_ltk, m_gek, m_eq, m_ne, rI10, wI10, yb]
  refine lpd (fun f c (K : hJ) => m52_13 F f 19 (nI b) a (nI p) (nI c - nI 1) (mkH (hs l s d tl) I K)) (fun c K => c ≤ y.length ∧ rt n A (y.drop c ++ x) i (K a) p ∧ (∀ c, c ≠ a → K c = J c) ∧ ∀ k, k < p ∨ p + n ≤ k → K a k = J a k) (fun r => Tr (hs l s d tl) r _) ?_ ?_ F y.length J (by omega) ⟨Nat.le_refl _, by rw [List.drop_length]; exact hr, fun _ _ => rfl, fun _ _ => rfl⟩
  · rintro f K ⟨-, k1, k2, k3⟩
    show Tr _ (m52_13 F (f + 1) _ _ _ _ _ _) _
    rw [m52_13]
    simp (disch := omega) only [z_m1, m_ltk, if_true]
    rw [List.drop_zero] at k1
    exact Tr_ret ⟨k1, rfl, k2, k3⟩
  · rintro f c K ⟨k0, k1, k2, k3⟩
    right
    obtain ⟨t, ht⟩ := ex_at (show c < y.length by omega)
    have htn := cx_L_at yL ht
    have hkK := kp_fr (n := n) (A := A) hk (I' := I) (J' := K) rfl rfl rfl (k2 11 (Ne.symm h11)) (k2 12 (Ne.symm h12))
    show ∃ y, m52_13 F (f + 1) _ _ _ _ _ _ = _ ∧ _
    rw [m52_13]
    simp (disch := omega) only [pk_sub1, n_0, n_1, n_2, n_3, n_4, n_5, n_6, n_8, n_9, n_10, n_12, n_20, n_25, n_27, n_30, n_31, n_32, n_40, n_48, n_57, n_59, n_63, n_96, n_97, n_120, n_122, n_255, n_256, n_300, n_301, n_512, n_1000, n_1001, n_1002, n_1003, n_1004, n_1005, n_2000, n_2304, n_4096, nI_add, pk_mul, n_m, c_ge, c_gt, c_lt, c_le, c_eq, c_ne, d_lt, d_ge, d_ne, d_eq, d_gt, d_le, m_ltk, m_gek, m_eq, m_ne, rc0, gr0_0, gr0_1, gr0_2, gr0_3, gr0_4, gr0_5, gr0_6, gi0_7, pi0_7, rc1, gi1_0, pi1_0, gr1_1, gr1_2, rc4, gr4_0, gi4_1, pi4_1, gi4_2, pi4_2, gi4_3, pi4_3, gi4_4, pi4_4, gi4_5, pi4_5, gr4_6, gr4_7, rc8, gr8_0, gi8_1, pi8_1, gr8_2, gr8_3, gr8_4, gr8_5, gr8_6, rc14, gr14_0, gr14_1, gr14_2, gr14_3, gr14_4, gr14_5, rc19, gr19_0, gr19_1, gr19_2, gr19_3, rc22, gr22_0, gr22_1, gr22_2, gr22_3, Option.bind_some, if_false, lo_e hkK hb ht, tr_e hc (by omega : 6 ≤ F) ha hN h1 htn, p_m1]
    refine ⟨_, rfl, by omega, ?_, fun e he => (upJ_ne he).trans (k2 e he), fun k hk => ?_⟩
    · rw [drop_c ht]
      exact rt_turn k1 htn
    · rw [upJ_at, if_neg (by omega)]
      exact k3 k hk
/-- imageAt -/
theorem im_e (hc : cl_n n A I) (hk : kp n A els I J) (hF : 100 ≤ F) {y : List Nat} {i k : Nat} (hb : els[b]? = some y) (hi : i < n) (hkn : k < n) :
    Tr (hs l s d tl) (e53 F 19 (nI b) (nI i) (nI k) (mkH (hs l s d tl) I J)) (fun v I' J' => v = zJ (cx_x n A y (cx_e i) k) ∧ I' = I ∧ ∀ c, c ≠ 20 → J' c = J c) := by
  have hn := hc.2.2.2.1
  have hn5 := hc.2.2.1
  show Tr _ (m53_0 F 19 _ _ _ _) _
  unfold m53_0
  simp (disch := omega) only [rc0, gr0_0, gr0_1, gr0_2, gr0_3, gr0_4, gr0_5, gr0_6, gi0_7, pi0_7, rc1, gi1_0, pi1_0, gr1_1, gr1_2, rc4, gr4_0, gi4_1, pi4_1, gi4_2, pi4_2, gi4_3, pi4_3, gi4_4, pi4_4, gi4_5, pi4_5, gr4_6, gr4_7, rc8, gr8_0, gi8_1, pi8_1, gr8_2, gr8_3, gr8_4, gr8_5, gr8_6, rc14, gr14_0, gr14_1, gr14_2, gr14_3, gr14_4, gr14_5, rc19, gr19_0, gr19_1, gr19_2, gr19_3, rc22, gr22_0, gr22_1, gr22_2, gr22_3, Option.bind_some, n_0, n_1, n_2, n_3, n_4, n_5, n_6, n_8, n_9, n_10, n_12, n_20, n_25, n_27, n_30, n_31, n_32, n_40, n_48, n_57, n_59, n_63, n_96, n_97, n_120, n_122, n_255, n_256, n_300, n_301, n_512, n_1000, n_1001, n_1002, n_1003, n_1004, n_1005, n_2000, n_2304, n_4096, nI_add, pk_mul, n_m, c_ge, c_gt, c_lt, c_le, c_eq, c_ne, d_lt, d_ge, d_ne, d_eq, d_gt, d_le, m_ltk, m_gek, m_eq, m_ne, sr_e hn hn5 (by omega : 6 ≤ F) (q20 (l := l) (s := s) (d := d) (tl := tl)) (by decide) (by omega : 0 + n ≤ 5) hi]
  obtain ⟨_, I1, J1, e1, h1, h2, h3, -⟩ := tb_e (l := l) (s := s) (d := d) (tl := tl) (F := F) (a := 20) (x := []) (i := i) (p := 0) (J := rwJ J 20 0 n (fun j => zJ (cx_e i j))) hc (kp_fr hk rfl rfl rfl (rwJ_ne (by decide)) (rwJ_ne (by decide))) hF hb q20 (by decide) (by omega) (by decide) (by decide) rt_nil
  subst h2
  rw [e1]
  simp (disch := omega) only [rc0, gr0_0, gr0_1, gr0_2, gr0_3, gr0_4, gr0_5, gr0_6, gi0_7, pi0_7, rc1, gi1_0, pi1_0, gr1_1, gr1_2, rc4, gr4_0, gi4_1, pi4_1, gi4_2, pi4_2, gi4_3, pi4_3, gi4_4, pi4_4, gi4_5, pi4_5, gr4_6, gr4_7, rc8, gr8_0, gi8_1, pi8_1, gr8_2, gr8_3, gr8_4, gr8_5, gr8_6, rc14, gr14_0, gr14_1, gr14_2, gr14_3, gr14_4, gr14_5, rc19, gr19_0, gr19_1, gr19_2, gr19_3, rc22, gr22_0, gr22_1, gr22_2, gr22_3, Option.bind_some, rJ20, wJ20]
  rw [List.append_nil] at h1
  have := h1 k hkn
  rw [Nat.zero_add] at this
  exact Tr_ret ⟨this, rfl, fun c hc => (h3 c hc).trans (rwJ_ne hc)⟩
/-- inversionAt -/
theorem iv_e (hc : cl_n n A I) (hk : kp n A els I J) (hF : 100 ≤ F) {y : List Nat} {i k t : Nat} (hb : els[b]? = some y) (hi : i < y.length) (hkn : k < n) (ht : y[y.length - 1 - i]? = some t) :
    Tr (hs l s d tl) (e54 F 19 (nI b) (nI i) (nI k) (mkH (hs l s d tl) I J)) (fun v I' J' => v = zJ (cx_x n A (y.drop (y.length - i)).reverse (cx_e t) k) ∧ I' = I ∧ ∀ c, c ≠ 20 → J' c = J c) := by
  have hn := hc.2.2.2.1
  have hn5 := hc.2.2.1
  obtain ⟨yc, yL, yl, y20, b40, yb⟩ := kp_c hk hb
  have htn := cx_L_at yL ht
  show Tr _ (m54_0 F 19 _ _ _ _) _
  unfold m54_0
  simp (disch := omega) only [rc0, gr0_0, gr0_1, gr0_2, gr0_3, gr0_4, gr0_5, gr0_6, gi0_7, pi0_7, rc1, gi1_0, pi1_0, gr1_1, gr1_2, rc4, gr4_0, gi4_1, pi4_1, gi4_2, pi4_2, gi4_3, pi4_3, gi4_4, pi4_4, gi4_5, pi4_5, gr4_6, gr4_7, rc8, gr8_0, gi8_1, pi8_1, gr8_2, gr8_3, gr8_4, gr8_5, gr8_6, rc14, gr14_0, gr14_1, gr14_2, gr14_3, gr14_4, gr14_5, rc19, gr19_0, gr19_1, gr19_2, gr19_3, rc22, gr22_0, gr22_1, gr22_2, gr22_3, Option.bind_some, n_0, n_1, n_2, n_3, n_4, n_5, n_6, n_8, n_9, n_10, n_12, n_20, n_25, n_27, n_30, n_31, n_32, n_40, n_48, n_57, n_59, n_63, n_96, n_97, n_120, n_122, n_255, n_256, n_300, n_301, n_512, n_1000, n_1001, n_1002, n_1003, n_1004, n_1005, n_2000, n_2304, n_4096, nI_add, pk_mul, n_m, c_ge, c_gt, c_lt, c_le, c_eq, c_ne, d_lt, d_ge, d_ne, d_eq, d_gt, d_le, m_ltk, m_gek, m_eq, m_ne, rI10, wI10, yb, pk_sub, lo_e hk hb ht, sr_e hn hn5 (by omega : 6 ≤ F) (q20 (l := l) (s := s) (d := d) (tl := tl)) (by decide) (by omega : 0 + n ≤ 5) htn]
  rw [show y.length - 1 - i + 1 = y.length - i by omega]
  refine lpc (fun f j (K : hJ) => m54_43 F f 19 (nI b) (nI k) (nI j) (mkH (hs l s d tl) I K)) y.length (fun j K => y.length - i ≤ j ∧ rt n A ((y.drop (y.length - i)).take (j - (y.length - i))).reverse t (K 20) 0 ∧ (∀ c, c ≠ 20 → K c = J c)) (fun r => Tr (hs l s d tl) r _) ?_ ?_ F (y.length - i) (rwJ J 20 0 n (fun j => zJ (cx_e t j))) (by omega) (by omega) ⟨Nat.le_refl _, by rw [Nat.sub_self, List.take_zero]; exact rt_nil, fun c hc => rwJ_ne hc⟩
  · rintro f K ⟨-, k1, k2⟩
    have e : (y.drop (y.length - i)).take (y.length - (y.length - i)) = y.drop (y.length - i) := by rw [← List.length_drop, List.take_length]
    rw [e] at k1
    show Tr _ (m54_43 F (f + 1) _ _ _ _ _) _
    rw [m54_43]
    simp (disch := omega) only [rc0, gr0_0, gr0_1, gr0_2, gr0_3, gr0_4, gr0_5, gr0_6, gi0_7, pi0_7, rc1, gi1_0, pi1_0, gr1_1, gr1_2, rc4, gr4_0, gi4_1, pi4_1, gi4_2, pi4_2, gi4_3, pi4_3, gi4_4, pi4_4, gi4_5, pi4_5, gr4_6, gr4_7, rc8, gr8_0, gi8_1, pi8_1, gr8_2, gr8_3, gr8_4, gr8_5, gr8_6, rc14, gr14_0, gr14_1, gr14_2, gr14_3, gr14_4, gr14_5, rc19, gr19_0, gr19_1, gr19_2, gr19_3, rc22, gr22_0, gr22_1, gr22_2, gr22_3, Option.bind_some, n_0, n_1, n_2, n_3, n_4, n_5, n_6, n_8, n_9, n_10, n_12, n_20, n_25, n_27, n_30, n_31, n_32, n_40, n_48, n_57, n_59, n_63, n_96, n_97, n_120, n_122, n_255, n_256, n_300, n_301, n_512, n_1000, n_1001, n_1002, n_1003, n_1004, n_1005, n_2000, n_2304, n_4096, nI_add, pk_mul, n_m, c_ge, c_gt, c_lt, c_le, c_eq, c_ne, d_lt, d_ge, d_ne, d_eq, d_gt, d_le, m_ltk, m_gek, m_eq, m_ne, rI10, wI10, rJ20, wJ20, yb]
    rw [if_pos (by omega)]
    have := k1 k hkn
    rw [Nat.zero_add] at this
    exact Tr_ret ⟨this, rfl, k2⟩
  · rintro f j K hj ⟨k0, k1, k2⟩
    right
    obtain ⟨r, hr⟩ := ex_at hj
    have hrn := cx_L_at yL hr
    have hr2 : (y.drop (y.length - i))[j - (y.length - i)]? = some r := by
      rw [List.getElem?_drop, ← hr]
      congr 1
      omega
    have hkK := kp_fr (n := n) (A := A) hk (I' := I) (J' := K) rfl rfl rfl (k2 11 (by decide)) (k2 12 (by decide))
    show ∃ y, m54_43 F (f + 1) _ _ _ _ _ = _ ∧ _
    rw [m54_43]
    simp (disch := omega) only [rc0, gr0_0, gr0_1, gr0_2, gr0_3, gr0_4, gr0_5, gr0_6, gi0_7, pi0_7, rc1, gi1_0, pi1_0, gr1_1, gr1_2, rc4, gr4_0, gi4_1, pi4_1, gi4_2, pi4_2, gi4_3, pi4_3, gi4_4, pi4_4, gi4_5, pi4_5, gr4_6, gr4_7, rc8, gr8_0, gi8_1, pi8_1, gr8_2, gr8_3, gr8_4, gr8_5, gr8_6, rc14, gr14_0, gr14_1, gr14_2, gr14_3, gr14_4, gr14_5, rc19, gr19_0, gr19_1, gr19_2, gr19_3, rc22, gr22_0, gr22_1, gr22_2, gr22_3, Option.bind_some, n_0, n_1, n_2, n_3, n_4, n_5, n_6, n_8, n_9, n_10, n_12, n_20, n_25, n_27, n_30, n_31, n_32, n_40, n_48, n_57, n_59, n_63, n_96, n_97, n_120, n_122, n_255, n_256, n_300, n_301, n_512, n_1000, n_1001, n_1002, n_1003, n_1004, n_1005, n_2000, n_2304, n_4096, nI_add, pk_mul, n_m, c_ge, c_gt, c_lt, c_le, c_eq, c_ne, d_lt, d_ge, d_ne, d_eq, d_gt, d_le, m_ltk, m_gek, m_eq, m_ne, rI10, wI10, yb, lo_e hkK hb hr, tr_e hc (by omega : 6 ≤ F) (q20 (l := l) (s := s) (d := d) (tl := tl)) (by decide) (by omega : 0 + n ≤ 5) hrn]
    rw [if_neg (by omega)]
    refine ⟨_, rfl, by omega, ?_, fun e he => (upJ_ne he).trans (k2 e he)⟩
    rw [show j + 1 - (y.length - i) = j - (y.length - i) + 1 by omega, take_c hr2, List.reverse_append]
    exact rt_turn k1 hrn
/-- exchanged -/
theorem xc_e (hc : cl_n n A I) (hk : kp n A els I J) (hF : 100 ≤ F) {y : List Nat} {t : Nat} (hb : els[b]? = some y) (ht : t < n) (hd : dn n A y t) :
    Tr (hs l s d tl) (e55 F 19 (nI b) (nI t) (mkH (hs l s d tl) I J)) (fun v I' J' => (∃ i, i < y.length ∧ v = nI i ∧ cx_g n A (y.eraseIdx i) = cx_g n A (y ++ [t])) ∧ I' = I ∧ ∀ c, c ≠ 20 → J' c = J c) := by
  have hok := hc.1
  have hn := hc.2.2.2.1
  have hn5 := hc.2.2.1
  obtain ⟨yc, yL, yl, y20, b40, yb⟩ := kp_c hk hb
  show Tr _ (m55_0 F 19 _ _ _) _
  unfold m55_0
  simp (disch := omega) only [rc0, gr0_0, gr0_1, gr0_2, gr0_3, gr0_4, gr0_5, gr0_6, gi0_7, pi0_7, rc1, gi1_0, pi1_0, gr1_1, gr1_2, rc4, gr4_0, gi4_1, pi4_1, gi4_2, pi4_2, gi4_3, pi4_3, gi4_4, pi4_4, gi4_5, pi4_5, gr4_6, gr4_7, rc8, gr8_0, gi8_1, pi8_1, gr8_2, gr8_3, gr8_4, gr8_5, gr8_6, rc14, gr14_0, gr14_1, gr14_2, gr14_3, gr14_4, gr14_5, rc19, gr19_0, gr19_1, gr19_2, gr19_3, rc22, gr22_0, gr22_1, gr22_2, gr22_3, Option.bind_some, n_0, n_1, n_2, n_3, n_4, n_5, n_6, n_8, n_9, n_10, n_12, n_20, n_25, n_27, n_30, n_31, n_32, n_40, n_48, n_57, n_59, n_63, n_96, n_97, n_120, n_122, n_255, n_256, n_300, n_301, n_512, n_1000, n_1001, n_1002, n_1003, n_1004, n_1005, n_2000, n_2304, n_4096, nI_add, pk_mul, n_m, c_ge, c_gt, c_lt, c_le, c_eq, c_ne, d_lt, d_ge, d_ne, d_eq, d_gt, d_le, m_ltk, m_gek, m_eq, m_ne, rI10, wI10, yb, sr_e hn hn5 (by omega : 6 ≤ F) (q20 (l := l) (s := s) (d := d) (tl := tl)) (by decide) (by omega : 0 + n ≤ 5) ht]
  refine lpd (fun f c (K : hJ) => m55_25 F f 19 (nI b) (nI c - nI 1) (mkH (hs l s d tl) I K)) (fun c K => c ≤ y.length ∧ rt n A (y.drop c) t (K 20) 0 ∧ (∀ c, c ≠ 20 → K c = J c) ∧ ∀ i, 0 ≤ cx_x n A (y.drop c) (cx_e t) i) (fun r => Tr (hs l s d tl) r _) ?_ ?_ F y.length (rwJ J 20 0 n (fun j => zJ (cx_e t j))) (by omega) ⟨Nat.le_refl _, by rw [List.drop_length]; exact rt_nil, fun c hc => rwJ_ne hc, fun i => by
    rw [List.drop_length]
    show 0 ≤ cx_e t i
    unfold cx_e
    split <;> omega⟩
  · rintro f K ⟨-, k1, k2, k3⟩
    exfalso
    rw [List.drop_zero] at k3
    obtain ⟨i, hi⟩ := (cx_dn hok yL ht).mpr hd
    have := k3 i
    omega
  · rintro f c K ⟨k0, k1, k2, k3⟩
    obtain ⟨r, hr⟩ := ex_at (show c < y.length by omega)
    have hrn := cx_L_at yL hr
    have hkK := kp_fr (n := n) (A := A) hk (I' := I) (J' := K) rfl rfl rfl (k2 11 (by decide)) (k2 12 (by decide))
    have hd1 := drop_L yL (c + 1)
    have hdc := drop_L yL c
    have hl1 : cx_l n A (y.drop c) ≤ 31 := by
      have := cx_l_len (A := A) hdc
      rw [List.length_drop] at this
      omega
    have k4 := rt_turn k1 hrn
    rw [← drop_c hr] at k4
    have k5 := k4 r hrn
    rw [Nat.zero_add] at k5
    have hin := x_in hok hdc hl1 ht r
    show Tr _ (m55_25 F (f + 1) _ _ _ _) _ ∨ ∃ y, m55_25 F (f + 1) _ _ _ _ = _ ∧ _
    rw [m55_25]
    simp (disch := omega) only [pk_sub1, n_0, n_1, n_2, n_3, n_4, n_5, n_6, n_8, n_9, n_10, n_12, n_20, n_25, n_27, n_30, n_31, n_32, n_40, n_48, n_57, n_59, n_63, n_96, n_97, n_120, n_122, n_255, n_256, n_300, n_301, n_512, n_1000, n_1001, n_1002, n_1003, n_1004, n_1005, n_2000, n_2304, n_4096, nI_add, pk_mul, n_m, c_ge, c_gt, c_lt, c_le, c_eq, c_ne, d_lt, d_ge, d_ne, d_eq, d_gt, d_le, m_ltk, m_gek, m_eq, m_ne, rc0, gr0_0, gr0_1, gr0_2, gr0_3, gr0_4, gr0_5, gr0_6, gi0_7, pi0_7, rc1, gi1_0, pi1_0, gr1_1, gr1_2, rc4, gr4_0, gi4_1, pi4_1, gi4_2, pi4_2, gi4_3, pi4_3, gi4_4, pi4_4, gi4_5, pi4_5, gr4_6, gr4_7, rc8, gr8_0, gi8_1, pi8_1, gr8_2, gr8_3, gr8_4, gr8_5, gr8_6, rc14, gr14_0, gr14_1, gr14_2, gr14_3, gr14_4, gr14_5, rc19, gr19_0, gr19_1, gr19_2, gr19_3, rc22, gr22_0, gr22_1, gr22_2, gr22_3, Option.bind_some, rJ20, wJ20, if_false, lo_e hkK hb hr, tr_e hc (by omega : 6 ≤ F) (q20 (l := l) (s := s) (d := d) (tl := tl)) (by decide) (by omega : 0 + n ≤ 5) hrn, p_m1, k_ge]
    rw [Nat.zero_add]
    rw [Nat.zero_add] at k4
    by_cases hneg : cx_x n A (y.drop c) (cx_e t) r < 0
    · left
      rw [if_neg (fun h => h (by rw [k5]; exact (zJ_lt hin.1 hin.2).mpr hneg))]
      refine Tr_ret ⟨⟨c, by omega, rfl, ?_⟩, rfl, fun e he => (upJ_ne he).trans (k2 e he)⟩
      have hle : ∀ i, cx_x n A (r :: y.drop (c + 1)) (cx_e t) i ≤ 0 := by
        rw [← drop_c hr]
        rcases cx_sgn hok hdc ht with h | h
        · have := h r
          omega
        · exact h
      have hcj := cx_conj hok hd1 ht hrn (cx_x_er hok hd1 ht hrn k3 hle)
      have e1 : y ++ [t] = y.take c ++ (r :: (y.drop (c + 1) ++ [t])) := by
        have : y.take c ++ (r :: (y.drop (c + 1) ++ [t])) = (y.take c ++ (r :: y.drop (c + 1))) ++ [t] := by simp
        rw [this, ← drop_c hr, List.take_append_drop]
      rw [er_app, e1]
      exact (cx_g_ap2 _ ((cx_g_cons r hcj).trans (cx_g_sc hok hrn _))).symm
    · right
      rw [if_pos (by rw [k5]; exact fun h => hneg ((zJ_lt hin.1 hin.2).mp h))]
      refine ⟨_, rfl, by omega, k4, fun e he => (upJ_ne he).trans (k2 e he), ?_⟩
      rcases cx_sgn hok hdc ht with h | h
      · exact h
      · intro i
        by_cases hir : i = r
        · rw [hir]
          omega
        · rw [drop_c hr, cx_x]
          unfold cx_a
          rw [if_neg hir]
          exact k3 i
end S
