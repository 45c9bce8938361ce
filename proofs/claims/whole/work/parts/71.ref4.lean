/-! The reference: both-sided cosets, orders. -/
section S
variable {n : Nat} {A : Nat → Nat → Int}
/-- what the left takes away opens no way down on the right -/
theorem nd_left (hok : cx_ok n A) {p : Nat → Prop} {x : List Nat} (hx : cx_L n x) {t : Nat} (ht : t < n) (hd : dn n A x.reverse t) (hno : ∀ j, j < n → ¬ (p j ∧ dn n A x j)) : ∀ j, j < n → ¬ (p j ∧ dn n A (t :: x) j) := by
  intro j hj h
  have h1 := up_1 hok hx hj (fun h2 => hno j hj ⟨h.1, h2⟩)
  have h2 : cx_l n A (t :: x) + 1 = cx_l n A x := by
    have h3 := dn_1 hok (cx_L_rev hx) ht hd
    rw [cx_l_rev hok hx, ← cx_l_cons hok hx ht] at h3
    exact h3
  have h3 := h.2
  unfold dn at h3
  have h4 : cx_l n A (t :: (x ++ [j])) = cx_l n A (t :: x ++ [j]) := rfl
  rcases cx_lstep hok (cx_L_app hx (cx_L_1 hj)) ht with h5 | h5 <;> omega
theorem nd_tk (hok : cx_ok n A) {p q : Nat → Prop} : ∀ {z u : List Nat}, cx_L n u → tk n A q u z → (∀ j, j < n → ¬ (p j ∧ dn n A u.reverse j)) → ∀ j, j < n → ¬ (p j ∧ dn n A (u ++ z).reverse j) := by
  intro z
  induction z with
  | nil => intro u hu _ h; rw [List.append_nil]; exact h
  | cons t z ih =>
    intro u hu ht h
    have hs := ht.1.1
    have h1 := nd_left hok (p := p) (cx_L_rev hu) hs (by rw [List.reverse_reverse]; exact ht.1.2.2.1) h
    have h2 := ih (cx_L_app hu (cx_L_1 hs)) ht.2 (by rw [List.reverse_append]; exact h1)
    rw [List.append_assoc] at h2
    exact h2
theorem tk_end {p : Nat → Prop} {u z : List Nat} (h : tk n A p u z) : ∀ j, j < n → ¬ (p j ∧ dn n A (u ++ z) j) := by
  have := tk_app (z := z) (z' := []) (by rw [List.append_nil]; exact h)
  exact this
end S
section S
variable {l s d : Value} {tl : List hQ} {F : Nat} {I : hI} {J : hJ} {n a b o p N M : Nat} {A : Nat → Nat → Int} {els : List (List Nat)}
theorem bo_step (hM : mo_n n A I) (hF : 300 ≤ F) {L R : Nat} (hL : L < 32) (hR : R < 32) {x a1 a2 c2 : List Nat} (hx : cx_L n x) (h20 : x.length ≤ 20) (hr : rw0 x I) (ha1 : tk n A (bt R) x a1) (ha2 : tk n A (bt L) (x ++ a1).reverse a2) (hc2 : cx_c n A c2) (hg2 : cx_g n A c2 = cx_g n A ((x ++ a1).reverse ++ a2)) :
    ∃ I1 J1 I2 I3 J3 I4, e187 F 26 (nI R) (mkH (hs l s d tl) I J) = some ((), (mkH (hs l s d tl) I1 J1)) ∧ e188 F 26 (mkH (hs l s d tl) I1 J1) = some ((), (mkH (hs l s d tl) I2 J1)) ∧ e187 F 26 (nI L) (mkH (hs l s d tl) I2 J1) = some ((), (mkH (hs l s d tl) I3 J3)) ∧ e188 F 26 (mkH (hs l s d tl) I3 J3) = some ((), (mkH (hs l s d tl) I4 J3)) ∧ rw0 c2.reverse I4 ∧ rf I I4 ∧ ∀ c, c ≠ 32 → J3 c = J c := by
  have hok := hM.1
  have hl := cx_l_len (A := A) hx
  have hlen := tk_len hok hx ha1
  have L1 := cx_L_app hx hlen.1
  obtain ⟨c1, hc1, hg1⟩ := cx_c_ex hok _ L1 rfl
  have c1L := cx_c_L hc1
  have c1l : c1.length ≤ 20 := by
    have h1 := cx_c_l hc1
    have h2 := cx_l_eq hg1
    omega
  have hgr : cx_g n A (x ++ a1).reverse = cx_g n A c1.reverse := cx_g_rev hok L1 c1L hg1.symm
  have ha2' := tk_g hgr ha2
  have hlen2 := tk_len hok (cx_L_rev c1L) ha2'
  have hc1r : cx_l n A c1.reverse ≤ 20 := by rw [cx_l_rev hok c1L, cx_c_l hc1]; exact c1l
  have c2l : c2.length ≤ 20 := by
    have h1 := cx_c_l hc2
    have h2 := cx_l_eq (hg2.trans (cx_g_ap1 a2 hgr))
    omega
  obtain ⟨_, I1, J1, e1, r1, f1, j1⟩ := red_e (l := l) (s := s) (d := d) (tl := tl) (F := F) (J := J) hM hF hR hx (by omega) (by omega) hr ha1 hc1 hg1
  obtain ⟨I2, e2, r2, f2⟩ := rev_e (l := l) (s := s) (d := d) (tl := tl) (F := F) (J := J1) (by omega) r1 (by omega)
  obtain ⟨_, I3, J3, e3, r3, f3, j3⟩ := red_e (l := l) (s := s) (d := d) (tl := tl) (F := F) (J := J1) (mo_rf hM (rf_tr f1 f2)) hF hL (cx_L_rev c1L) (by omega) (by rw [List.length_reverse]; omega) r2 ha2' hc2 (hg2.trans (cx_g_ap1 a2 hgr))
  obtain ⟨I4, e4, r4, f4⟩ := rev_e (l := l) (s := s) (d := d) (tl := tl) (F := F) (J := J3) (by omega) r3 (by omega)
  exact ⟨I1, J1, I2, I3, J3, I4, e1, e2, e3, e4, r4, rf_tr (rf_tr (rf_tr f1 f2) f3) f4, fun c hc => (j3 c hc).trans (j1 c hc)⟩
/-- both -/
theorem bor_e (hM : mo_n n A I) (hk : km n A els I) (hF : 300 ≤ F) {L R : Nat} (hL : L < 2 ^ n) (hR : R < 2 ^ n) {y z1 z2 : List Nat} (hb : els[b]? = some y) (hz1 : tk n A (bt R) y z1) (hz2 : tk n A (bt L) (y ++ z1).reverse z2) :
    Tr (hs l s d tl) (e189 F 26 (nI b) (nI L) (nI R) (mkH (hs l s d tl) I J)) (fun v I' J' => v = nI (cx_l n A ((y ++ z1).reverse ++ z2)) ∧ rf I I' ∧ ∀ c, c ≠ 32 → J' c = J c) := by
  have hok := hM.1
  have hn5 := hM.2.2.1
  have h32 := Nat.pow_le_pow_right (n := 2) (by omega) hn5
  obtain ⟨yc, yL, yl, y20, b40, yb, yw⟩ := km_c hk hb
  have hlen := tk_len hok yL hz1
  have L1 := cx_L_app yL hlen.1
  have hlen2 := tk_len hok (cx_L_rev L1) hz2
  have L2 := cx_L_app (cx_L_rev L1) hlen2.1
  rw [cx_l_rev hok L1] at hlen2
  obtain ⟨c2, hc2, hg2⟩ := cx_c_ex hok _ L2 rfl
  have c2L := cx_c_L hc2
  have c2l : c2.length = cx_l n A ((y ++ z1).reverse ++ z2) := by rw [← cx_l_eq hg2, cx_c_l hc2]
  -- behind the first time nothing is taken
  have hgr2 : cx_g n A c2.reverse = cx_g n A ((y ++ z1).reverse ++ z2).reverse := cx_g_rev hok c2L L2 hg2
  have nR : tk n A (bt R) c2.reverse [] := by
    intro j hj
    rw [dn_g hgr2]
    exact nd_tk hok (cx_L_rev L1) hz2 (by rw [List.reverse_reverse]; exact tk_end hz1) j hj
  have nL : tk n A (bt L) (c2.reverse ++ []).reverse [] := by
    rw [List.append_nil, List.reverse_reverse]
    intro j hj
    rw [dn_g hg2]
    exact tk_end hz2 j hj
  have hk0 := km_rf hk (rf_0 I (nI 0))
  obtain ⟨I1, e1, r1, f1⟩ := pa_e (l := l) (s := s) (d := d) (tl := tl) (F := F) (J := J) hk0 (by omega) hb (rw0_0 I) (by simp; omega)
  have hf1 := rf_tr (rf_0 I (nI 0)) f1
  show Tr _ (m189_0 F 26 _ _ _ _) _
  unfold m189_0
  simp (disch := omega) only [rc26, gi26_0, pi26_0, gr26_1, gr26_2, gr26_3, gr26_4, gi26_5, pi26_5, gi26_6, pi26_6, gi26_7, pi26_7, gl26_8, pl26_8, gi26_9, pi26_9, gi26_10, pi26_10, gr26_11, gi26_12, pi26_12, gr26_13, gr26_14, gi26_15, pi26_15, gi26_16, pi26_16, gr26_17, gr26_18, gi26_19, pi26_19, gr26_20, gr26_21, gr26_22, gr26_23, gr26_24, gr26_25, gr26_26, gi26_27, pi26_27, gr26_28, gr26_29, gi26_30, pi26_30, gi26_31, pi26_31, gr26_32, gr26_33, gr26_34, gr26_35, gr26_36, gr26_37, gr26_38, gr26_39, gr26_40, Option.bind_some, ie1 hk hb, ss1 hM hL, ss1 hM hR, d_ne, d_eq, n_0, e1]
  rw [if_pos (by omega), if_neg (by omega), if_pos (by omega)]
  -- one time, two times
  obtain ⟨f, rfl⟩ : ∃ f, F = f + 4 := ⟨F - 4, by omega⟩
  obtain ⟨K1, Q1, K2, K3, Q3, K4, g1, g2, g3, g4, g5, g6, g7⟩ := bo_step (l := l) (s := s) (d := d) (tl := tl) (F := f + 4) (J := J) (mo_rf hM hf1) hF (show L < 32 by omega) (show R < 32 by omega) yL y20 r1 hz1 hz2 hc2 hg2
  rw [m189_45]
  have hr1 : I1 26 15 = nI y.length := r1.2
  have hm1 : ∀ k : Nat, k < 2 ^ 31 → ((-1 : Int32) = nI k) = False := fun k hk => eq_false (gI_nI (k := 1) (by omega) (by omega) hk)
  simp (disch := omega) only [rc26, gi26_0, pi26_0, gr26_1, gr26_2, gr26_3, gr26_4, gi26_5, pi26_5, gi26_6, pi26_6, gi26_7, pi26_7, gl26_8, pl26_8, gi26_9, pi26_9, gi26_10, pi26_10, gr26_11, gi26_12, pi26_12, gr26_13, gr26_14, gi26_15, pi26_15, gi26_16, pi26_16, gr26_17, gr26_18, gi26_19, pi26_19, gr26_20, gr26_21, gr26_22, gr26_23, gr26_24, gr26_25, gr26_26, gi26_27, pi26_27, gr26_28, gr26_29, gi26_30, pi26_30, gi26_31, pi26_31, gr26_32, gr26_33, gr26_34, gr26_35, gr26_36, gr26_37, gr26_38, gr26_39, gr26_40, Option.bind_some, hr1, g_eq, hm1, if_false, g1, g2, g3, g4]
  have hr4 : K4 26 15 = nI c2.length := by
    have := g5.2
    rw [List.length_reverse] at this
    exact this
  have hfr4 := rf_tr hf1 g6
  rw [m189_45]
  simp (disch := omega) only [rc26, gi26_0, pi26_0, gr26_1, gr26_2, gr26_3, gr26_4, gi26_5, pi26_5, gi26_6, pi26_6, gi26_7, pi26_7, gl26_8, pl26_8, gi26_9, pi26_9, gi26_10, pi26_10, gr26_11, gi26_12, pi26_12, gr26_13, gr26_14, gi26_15, pi26_15, gi26_16, pi26_16, gr26_17, gr26_18, gi26_19, pi26_19, gr26_20, gr26_21, gr26_22, gr26_23, gr26_24, gr26_25, gr26_26, gi26_27, pi26_27, gr26_28, gr26_29, gi26_30, pi26_30, gi26_31, pi26_31, gr26_32, gr26_33, gr26_34, gr26_35, gr26_36, gr26_37, gr26_38, gr26_39, gr26_40, Option.bind_some, hr4, g_eq]
  by_cases hlast : nI y.length = nI c2.length
  · rw [if_pos hlast]
    exact Tr_ret ⟨by rw [c2l], hfr4, g7⟩
  · rw [if_neg hlast]
    obtain ⟨N1, P1, N2, N3, P3, N4, i1, i2, i3, i4, i5, i6, i7⟩ := bo_step (l := l) (s := s) (d := d) (tl := tl) (F := f + 4) (J := Q3) (c2 := c2) (mo_rf hM hfr4) hF (show L < 32 by omega) (show R < 32 by omega) (cx_L_rev c2L) (by rw [List.length_reverse]; omega) g5 nR nL hc2 (by rw [List.append_nil, List.append_nil, List.reverse_reverse])
    have hr5 : N4 26 15 = nI c2.length := by
      have := i5.2
      rw [List.length_reverse] at this
      exact this
    simp (disch := omega) only [rc26, gi26_0, pi26_0, gr26_1, gr26_2, gr26_3, gr26_4, gi26_5, pi26_5, gi26_6, pi26_6, gi26_7, pi26_7, gl26_8, pl26_8, gi26_9, pi26_9, gi26_10, pi26_10, gr26_11, gi26_12, pi26_12, gr26_13, gr26_14, gi26_15, pi26_15, gi26_16, pi26_16, gr26_17, gr26_18, gi26_19, pi26_19, gr26_20, gr26_21, gr26_22, gr26_23, gr26_24, gr26_25, gr26_26, gi26_27, pi26_27, gr26_28, gr26_29, gi26_30, pi26_30, gi26_31, pi26_31, gr26_32, gr26_33, gr26_34, gr26_35, gr26_36, gr26_37, gr26_38, gr26_39, gr26_40, Option.bind_some, i1, i2, i3, i4]
    rw [m189_45]
    simp (disch := omega) only [rc26, gi26_0, pi26_0, gr26_1, gr26_2, gr26_3, gr26_4, gi26_5, pi26_5, gi26_6, pi26_6, gi26_7, pi26_7, gl26_8, pl26_8, gi26_9, pi26_9, gi26_10, pi26_10, gr26_11, gi26_12, pi26_12, gr26_13, gr26_14, gi26_15, pi26_15, gi26_16, pi26_16, gr26_17, gr26_18, gi26_19, pi26_19, gr26_20, gr26_21, gr26_22, gr26_23, gr26_24, gr26_25, gr26_26, gi26_27, pi26_27, gr26_28, gr26_29, gi26_30, pi26_30, gi26_31, pi26_31, gr26_32, gr26_33, gr26_34, gr26_35, gr26_36, gr26_37, gr26_38, gr26_39, gr26_40, Option.bind_some, hr5, g_eq, if_true]
    exact Tr_ret ⟨by rw [c2l], rf_tr hfr4 i6, fun c hc => (i7 c hc).trans (g7 c hc)⟩
/-- order -/
theorem odr_e (hM : mo_n n A I) (hk : km n A els I) (hF : 300 ≤ F) {y : List Nat} (hb : els[b]? = some y) (h8 : y.length ≤ 8) :
    Tr (hs l s d tl) (e194 F 26 (nI b) (mkH (hs l s d tl) I J)) (fun v I' J' => ordr n A y v ∧ I' = I ∧ rfr I I' J J') := by
  have hok := hM.1
  have hn5 := hM.2.2.1
  obtain ⟨yc, yL, yl, y20, b40, yb, yw⟩ := km_c hk hb
  have nf : ∀ i k, i < 5 → k < 5 → ∀ x, cx_L n x → ¬ (i < n ∧ k < n) → cx_x n A x (cx_e i) k = cx_e i k := by
    intro i k hi hk x hx h
    by_cases hin : i < n
    · exact cx_x_out hx (by omega) _
    · rw [cx_x_fix (fun j hj => by unfold cx_e; rw [if_neg (by omega)])]
  have nf01 : ∀ i k, ¬ far (zJ (cx_e i k)) := by
    intro i k
    unfold cx_e
    split
    · unfold far; decide
    · unfold far; decide
  show Tr _ (m194_0 F 26 _ _) _
  unfold m194_0
  simp (disch := omega) only [rc26, gi26_0, pi26_0, gr26_1, gr26_2, gr26_3, gr26_4, gi26_5, pi26_5, gi26_6, pi26_6, gi26_7, pi26_7, gl26_8, pl26_8, gi26_9, pi26_9, gi26_10, pi26_10, gr26_11, gi26_12, pi26_12, gr26_13, gr26_14, gi26_15, pi26_15, gi26_16, pi26_16, gr26_17, gr26_18, gi26_19, pi26_19, gr26_20, gr26_21, gr26_22, gr26_23, gr26_24, gr26_25, gr26_26, gi26_27, pi26_27, gr26_28, gr26_29, gi26_30, pi26_30, gi26_31, pi26_31, gr26_32, gr26_33, gr26_34, gr26_35, gr26_36, gr26_37, gr26_38, gr26_39, gr26_40, Option.bind_some, ie1 hk hb, d_ne, rI34, wI34, yb, n_8, c_le, n_1, bg_e (by omega : 30 ≤ F)]
  rw [if_pos (by omega), if_pos (by omega)]
  refine lpc (fun f t (K : hJ) => m194_33 F f 26 (nI b) (nI t) (mkH (hs l s d tl) I K)) 31 (fun t K => 1 ≤ t ∧ sq n A (pwr y (t - 1)) (K 32) 0 ∧ (∀ c, c ≠ 32 → K c = J c) ∧ ∀ t', 1 ≤ t' → t' < t → ¬ ostart n A y t' ∧ ¬ ofar n A y t') (fun r => Tr (hs l s d tl) r _) ?_ ?_ F 1 (rwJ J 32 0 25 (fun q => zJ (if q / 5 = q % 5 then 1 else 0))) (by omega) (by omega) ⟨by omega, sq_nil, fun c hc => rwJ_ne hc, fun t' h1 h2 => by omega⟩
  · rintro f K ⟨j0, j1, j2, j3⟩
    show Tr _ (m194_33 F (f + 1) _ _ _ _) _
    rw [m194_33]
    simp (disch := omega) only [n_30, c_gt, n_1, n_m]
    rw [if_pos (by omega)]
    exact Tr_ret ⟨Or.inr ⟨fun t h1 h2 => j3 t h1 (by omega), rfl⟩, rfl, rfr_J j2⟩
  · rintro f t K ht ⟨j0, j1, j2, j3⟩
    obtain ⟨t, rfl⟩ : ∃ r, t = r + 1 := ⟨t - 1, by omega⟩
    rw [Nat.add_sub_cancel] at j1
    show Tr _ (m194_33 F (f + 1) _ _ _ _) _ ∨ ∃ y, m194_33 F (f + 1) _ _ _ _ = _ ∧ _
    rw [m194_33]
    simp (disch := omega) only [n_30, c_gt, n_0]
    rw [if_neg (by omega)]
    refine lpc (fun g k (K : hJ) => m194_41 F (m194_33 F f) g 26 (nI b) (nI (t + 1)) (nI k) (mkH (hs l s d tl) I K)) y.length (fun k K => sq n A (pwr y t ++ y.take k) (K 32) 0 ∧ ∀ c, c ≠ 32 → K c = J c) (fun r => Tr (hs l s d tl) r (fun v I' J' => ordr n A y v ∧ I' = I ∧ rfr I I' J J') ∨ ∃ K : hJ, r = m194_33 F f 26 (nI b) (nI (t + 1 + 1)) (mkH (hs l s d tl) I K) ∧ 1 ≤ t + 1 + 1 ∧ sq n A (pwr y (t + 1 + 1 - 1)) (K 32) 0 ∧ (∀ c, c ≠ 32 → K c = J c) ∧ ∀ t', 1 ≤ t' → t' < t + 1 + 1 → ¬ ostart n A y t' ∧ ¬ ofar n A y t') ?_ ?_ F 0 K (by omega) (by omega) ⟨by rw [List.take_zero, List.append_nil]; exact j1, j2⟩
    · rintro g K ⟨i1, i2⟩
      rw [List.take_length, ← pwr_r] at i1
      have pL := pwr_L yL (t + 1)
      have val : ∀ q, q < 25 → K 32 q = zJ (cx_x n A (pwr y (t + 1)) (cx_e (q / 5)) (q % 5)) := by
        intro q hq
        have := i1 (q / 5) (q % 5) (by omega) (by omega)
        rw [← this]
        congr 1
        omega
      have hfar : (∃ q, q < 25 ∧ far (K 32 q)) ↔ ofar n A y (t + 1) := by
        constructor
        · rintro ⟨q, hq, h⟩
          rw [val q hq] at h
          by_cases hc : q / 5 < n ∧ q % 5 < n
          · exact ⟨q / 5, q % 5, hc.1, hc.2, h⟩
          · rw [nf _ _ (by omega) (by omega) _ pL hc] at h
            exact absurd h (nf01 _ _)
        · rintro ⟨i, k, hi, hk, h⟩
          refine ⟨5 * i + k, by omega, ?_⟩
          rw [val _ (by omega), show (5 * i + k) / 5 = i by omega, show (5 * i + k) % 5 = k by omega]
          exact h
      have idv : ∀ q, (if q / 5 = q % 5 then (1 : Int) else 0) = cx_e (q / 5) (q % 5) := by
        intro q
        unfold cx_e
        by_cases h : q / 5 = q % 5
        · rw [if_pos h, if_pos h.symm]
        · rw [if_neg h, if_neg (fun e => h e.symm)]
      have hone : (∀ q, q < 25 → K 32 q = zJ (if q / 5 = q % 5 then 1 else 0)) ↔ ostart n A y (t + 1) := by
        constructor
        · intro h i k hi hk
          have := h (5 * i + k) (by omega)
          rw [val _ (by omega), idv, show (5 * i + k) / 5 = i by omega, show (5 * i + k) % 5 = k by omega] at this
          exact this
        · intro h q hq
          rw [val q hq, idv]
          by_cases hc : q / 5 < n ∧ q % 5 < n
          · exact h _ _ hc.1 hc.2
          · rw [nf _ _ (by omega) (by omega) _ pL hc]
      have nosf : ofar n A y (t + 1) → ¬ ostart n A y (t + 1) := by
        rintro ⟨i, k, hi, hk, h⟩ h2
        rw [h2 i k hi hk] at h
        exact nf01 _ _ h
      show Tr _ (m194_41 F _ (g + 1) _ _ _ _ _) _ ∨ ∃ y, m194_41 F _ (g + 1) _ _ _ _ _ = _ ∧ _
      rw [m194_41]
      simp (disch := omega) only [rc26, gi26_0, pi26_0, gr26_1, gr26_2, gr26_3, gr26_4, gi26_5, pi26_5, gi26_6, pi26_6, gi26_7, pi26_7, gl26_8, pl26_8, gi26_9, pi26_9, gi26_10, pi26_10, gr26_11, gi26_12, pi26_12, gr26_13, gr26_14, gi26_15, pi26_15, gi26_16, pi26_16, gr26_17, gr26_18, gi26_19, pi26_19, gr26_20, gr26_21, gr26_22, gr26_23, gr26_24, gr26_25, gr26_26, gi26_27, pi26_27, gr26_28, gr26_29, gi26_30, pi26_30, gi26_31, pi26_31, gr26_32, gr26_33, gr26_34, gr26_35, gr26_36, gr26_37, gr26_38, gr26_39, gr26_40, Option.bind_some, c_ge, rI34, wI34, yb, n_0]
      rw [if_pos (by omega)]
      refine lpc (fun g k (_ : Unit) => m194_74 F (m194_33 F f) g 26 (nI b) (nI (t + 1)) (nI k) (mkH (hs l s d tl) I K)) 25 (fun k _ => ∀ q, q < k → ¬ far (K 32 q)) (fun r => Tr (hs l s d tl) r (fun v I' J' => ordr n A y v ∧ I' = I ∧ rfr I I' J J') ∨ ∃ K : hJ, r = m194_33 F f 26 (nI b) (nI (t + 1 + 1)) (mkH (hs l s d tl) I K) ∧ 1 ≤ t + 1 + 1 ∧ sq n A (pwr y (t + 1 + 1 - 1)) (K 32) 0 ∧ (∀ c, c ≠ 32 → K c = J c) ∧ ∀ t', 1 ≤ t' → t' < t + 1 + 1 → ¬ ostart n A y t' ∧ ¬ ofar n A y t') ?_ ?_ F 0 () (by omega) (by omega) (fun q hq => by omega)
      · rintro g _ hno
        have hnf : ¬ ofar n A y (t + 1) := fun h => by
          obtain ⟨q, hq, h2⟩ := hfar.mpr h
          exact hno q hq h2
        show Tr _ (m194_74 F _ (g + 1) _ _ _ _ _) _ ∨ ∃ y, m194_74 F _ (g + 1) _ _ _ _ _ = _ ∧ _
        rw [m194_74]
        simp (disch := omega) only [rc26, gi26_0, pi26_0, gr26_1, gr26_2, gr26_3, gr26_4, gi26_5, pi26_5, gi26_6, pi26_6, gi26_7, pi26_7, gl26_8, pl26_8, gi26_9, pi26_9, gi26_10, pi26_10, gr26_11, gi26_12, pi26_12, gr26_13, gr26_14, gi26_15, pi26_15, gi26_16, pi26_16, gr26_17, gr26_18, gi26_19, pi26_19, gr26_20, gr26_21, gr26_22, gr26_23, gr26_24, gr26_25, gr26_26, gi26_27, pi26_27, gr26_28, gr26_29, gi26_30, pi26_30, gi26_31, pi26_31, gr26_32, gr26_33, gr26_34, gr26_35, gr26_36, gr26_37, gr26_38, gr26_39, gr26_40, Option.bind_some, c_ge, n_25]
        rw [if_pos (by omega)]
        rcases io_e (l := l) (s := s) (d := d) (tl := tl) (F := F) (I := I) (J := K) (by omega) with ⟨e, h⟩ | ⟨e, h⟩
        · left
          rw [e]
          simp (disch := omega) only [Option.bind_some, d_eq]
          rw [if_neg (by omega)]
          exact Tr_ret ⟨Or.inl ⟨t + 1, by omega, by omega, fun t' a1 a2 => j3 t' a1 a2, Or.inl ⟨hone.mp h, rfl⟩⟩, rfl, rfr_J i2⟩
        · right
          rw [e]
          simp (disch := omega) only [Option.bind_some, d_eq, if_true, n_1, nI_add]
          refine ⟨K, by trivial, by omega, i1, i2, fun t' a1 a2 => ?_⟩
          by_cases htt : t' = t + 1
          · subst htt
            exact ⟨fun h2 => h (hone.mpr h2), hnf⟩
          · exact j3 t' a1 (by omega)
      · rintro g k _ hk25 hno
        show (Tr _ (m194_74 F _ (g + 1) _ _ _ _ _) _ ∨ ∃ y, m194_74 F _ (g + 1) _ _ _ _ _ = _ ∧ _) ∨ ∃ y : Unit, m194_74 F _ (g + 1) _ _ _ _ _ = _ ∧ _
        rw [m194_74]
        simp (disch := omega) only [rc26, gi26_0, pi26_0, gr26_1, gr26_2, gr26_3, gr26_4, gi26_5, pi26_5, gi26_6, pi26_6, gi26_7, pi26_7, gl26_8, pl26_8, gi26_9, pi26_9, gi26_10, pi26_10, gr26_11, gi26_12, pi26_12, gr26_13, gr26_14, gi26_15, pi26_15, gi26_16, pi26_16, gr26_17, gr26_18, gi26_19, pi26_19, gr26_20, gr26_21, gr26_22, gr26_23, gr26_24, gr26_25, gr26_26, gi26_27, pi26_27, gr26_28, gr26_29, gi26_30, pi26_30, gi26_31, pi26_31, gr26_32, gr26_33, gr26_34, gr26_35, gr26_36, gr26_37, gr26_38, gr26_39, gr26_40, Option.bind_some, c_ge, n_25, rJ32, wJ32, k_gt, k_geg]
        rw [if_neg (by omega)]
        unfold m194_106
        have fin : far (K 32 k) → ordr n A y (gI 1) := fun h =>
          have hf := hfar.mp ⟨k, hk25, h⟩
          Or.inl ⟨t + 1, by omega, by omega, fun t' a1 a2 => j3 t' a1 a2, Or.inr ⟨nosf hf, hf, rfl⟩⟩
        by_cases h1 : 1000000000000 < K 32 k
        · rw [if_pos h1]
          exact Or.inl (Or.inl (Tr_ret ⟨fin (Or.inl h1), rfl, rfr_J i2⟩))
        · rw [if_neg h1]
          by_cases h2 : K 32 k < -1000000000000
          · rw [if_neg (fun h => h h2)]
            exact Or.inl (Or.inl (Tr_ret ⟨fin (Or.inr h2), rfl, rfr_J i2⟩))
          · rw [if_pos h2]
            simp only [n_1, nI_add]
            refine Or.inr ⟨(), by trivial, fun q hq => ?_⟩
            by_cases hqk : q = k
            · subst hqk
              exact fun h => h.elim h1 h2
            · exact hno q (by omega)
    · rintro g k K hky ⟨i1, i2⟩
      right
      obtain ⟨r, hr⟩ := ex_at hky
      have hrn := cx_L_at yL hr
      obtain ⟨J3, c1, c2, c3⟩ := th_e (l := l) (s := s) (d := d) (tl := tl) (F := F) (J := K) hM (by omega) hrn (cx_L_app (pwr_L yL t) (take_L yL k)) i1
      show ∃ y, m194_41 F _ (g + 1) _ _ _ _ _ = _ ∧ _
      rw [m194_41]
      simp (disch := omega) only [rc26, gi26_0, pi26_0, gr26_1, gr26_2, gr26_3, gr26_4, gi26_5, pi26_5, gi26_6, pi26_6, gi26_7, pi26_7, gl26_8, pl26_8, gi26_9, pi26_9, gi26_10, pi26_10, gr26_11, gi26_12, pi26_12, gr26_13, gr26_14, gi26_15, pi26_15, gi26_16, pi26_16, gr26_17, gr26_18, gi26_19, pi26_19, gr26_20, gr26_21, gr26_22, gr26_23, gr26_24, gr26_25, gr26_26, gi26_27, pi26_27, gr26_28, gr26_29, gi26_30, pi26_30, gi26_31, pi26_31, gr26_32, gr26_33, gr26_34, gr26_35, gr26_36, gr26_37, gr26_38, gr26_39, gr26_40, Option.bind_some, c_ge, rI34, wI34, rI35, wI35, yb, n_20, pk_mul, nI_add, yw k r hr, c1, n_1]
      rw [if_neg (by omega)]
      exact ⟨_, rfl, by rw [take_app hr]; exact c2, fun c hc => (c3 c hc).trans (i2 c hc)⟩
end S
