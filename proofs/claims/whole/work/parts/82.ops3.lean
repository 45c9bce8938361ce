/-! Calls of both: letters, ways down, roots, exchange, inversions, keep, feed. -/
section S
variable {l s d : Value} {tl : List hQ} {F : Nat} {I : hI} {J : hJ} {n : Nat} {T : tT} {els : List (List Nat)} {x : List Nat} {N : Nat} {tx : Nat → Nat} {fl : Int32}
theorem notm {w : Int32} {m : Nat} (hm : m < 2 ^ 31) (h : ∀ j, j < m → w ≠ nI j) : mc1 .lt w = true ∨ (¬ mc1 .lt w = true ∧ ¬ mc2 .lt w (nI m) = true) := by
  by_cases h0 : w < 0
  · left
    unfold mc1
    exact decide_eq_true h0
  · right
    refine ⟨by unfold mc1; rw [decide_eq_true_eq]; exact h0, ?_⟩
    have h2 := ge_of hm h0 h
    unfold mc2
    dsimp only
    rw [decide_eq_true_eq]
    intro h3
    have a1 := Int32.le_iff_toInt_le.mp h2
    have a2 := Int32.lt_iff_toInt_lt.mp h3
    omega
theorem bwn1 {m j : Nat} (hm : m < 2 ^ 30) (hj : j < m) (hp : List mE) : e137 F (nI j).toInt64 0 ((nI m - 1).toInt64) hp = some (nI 1, hp) := by
  rcases bw_n (F := F) (nI j) hm hp with ⟨_, _, _, h⟩ | ⟨h, _⟩
  · exact h
  · exact absurd rfl (h j hj)
theorem bwn0 {m : Nat} {w : Int32} (hm : m < 2 ^ 30) (h : ∀ j, j < m → w ≠ nI j) (hp : List mE) : e137 F w.toInt64 0 ((nI m - 1).toInt64) hp = some (nI 0, hp) := by
  rcases bw_n (F := F) w hm hp with ⟨j, h1, h2, _⟩ | ⟨_, h2⟩
  · exact absurd h2 (h j h1)
  · exact h2
/-- at -/
theorem op9 (h : st n T els x N tx fl I J) (a b : Int32) : ok2 (hs l s d tl) (e114 F 0 a b) (e168 F 26 a b) I J (fun I' J' => I' = I ∧ J' = J) := by
  have hk := h.2.1.2.2.1
  have hm := h.2.2.2.2.1
  have e1 : ∀ hp, e114 F 0 a b hp = m114_0 F 0 a b hp := fun _ => rfl
  have e2 : ∀ hp, e168 F 26 a b hp = m168_0 F 26 a b hp := fun _ => rfl
  rcases el_c els a with ⟨j, y, hj, rfl⟩ | ha
  · have kc := kp_c hk hj
    have mc := km_c hm hj
    have h20 := kc.2.2.2.1
    have h40 := kc.2.2.2.2.1
    rcases mi_c y.length b with ⟨i, hi, rfl⟩ | hb
    · obtain ⟨t, ht⟩ := ex_at hi
      refine ok2_s (nI t) ?_ ?_ ⟨rfl, rfl⟩
      · rw [e1]; unfold m114_0
        rw [gr0_2, Option.bind_some, rc8, Option.bind_some, eh1 hk hj, Option.bind_some, if_pos z1, if_neg (show ¬ mc1 .lt (nI i) = true by rw [d_lt (by omega)]; exact id), gr0_2, Option.bind_some, gr8_3, Option.bind_some, rI10 h40, Option.bind_some, kc.2.2.2.2.2, if_pos (show mc2 .lt (nI i) (nI y.length) = true by rw [c_lt (by omega) (by omega)]; exact hi), Option.bind_some, rc8, Option.bind_some, lo_e hk hj ht, Option.bind_some]
      · rw [e2]; unfold m168_0 m168_45
        rw [rc26, Option.bind_some, ie1 hm hj, Option.bind_some, if_pos z1, gr26_17, Option.bind_some, rI34 h40, Option.bind_some, mc.2.2.2.2.2.1, bwn1 (by omega) hi, Option.bind_some, if_neg y1, gr26_18, Option.bind_some, n_20, pk_mul, nI_add, rI35 (by omega), Option.bind_some, mc.2.2.2.2.2.2 i t ht]
    · refine ok2_s (-1) ?_ ?_ ⟨rfl, rfl⟩
      · rw [e1]; unfold m114_0 m114_32
        rw [gr0_2, Option.bind_some, rc8, Option.bind_some, eh1 hk hj, Option.bind_some, if_pos z1]
        rcases notm (m := y.length) (by omega) hb with h1 | ⟨h1, h2⟩
        · rw [if_pos h1]
        · rw [if_neg h1, gr0_2, Option.bind_some, gr8_3, Option.bind_some, rI10 h40, Option.bind_some, kc.2.2.2.2.2, if_neg h2]
      · rw [e2]; unfold m168_0 m168_45
        rw [rc26, Option.bind_some, ie1 hm hj, Option.bind_some, if_pos z1, gr26_17, Option.bind_some, rI34 h40, Option.bind_some, mc.2.2.2.2.2.1, bwn0 (by omega) hb, Option.bind_some, if_pos y0]
  · refine ok2_s (-1001) ?_ ?_ ⟨rfl, rfl⟩
    · rw [e1]; unfold m114_0
      rw [gr0_2, Option.bind_some, rc8, Option.bind_some, eh0 hk ha, Option.bind_some, if_neg z0]
    · rw [e2]; unfold m168_0
      rw [rc26, Option.bind_some, ie0 hm ha, Option.bind_some, if_neg z0]
theorem set_un : ∀ n, n ≤ 5 → ∀ S, S < 2 ^ n → ∀ R, R < 2 ^ n → (∀ j, j < n → (S / 2 ^ j % 2 = 1 ↔ R / 2 ^ j % 2 = 1)) → S = R := by
  intro n hn S hS R hR h
  have h32 := Nat.pow_le_pow_right (n := 2) (by omega) hn
  have key : ∀ j, j < 5 → S / 2 ^ j % 2 = R / 2 ^ j % 2 := by
    intro j hj
    by_cases hjn : j < n
    · have := h j hjn
      omega
    · have e : 2 ^ n ≤ 2 ^ j := Nat.pow_le_pow_right (by omega) (by omega)
      rw [Nat.div_eq_of_lt (by omega), Nat.div_eq_of_lt (by omega)]
  have k0 := key 0 (by omega)
  have k1 := key 1 (by omega)
  have k2 := key 2 (by omega)
  have k3 := key 3 (by omega)
  have k4 := key 4 (by omega)
  simp only [Nat.pow_zero, Nat.pow_one, Nat.div_one, show 2 ^ 2 = 4 by decide, show 2 ^ 3 = 8 by decide, show 2 ^ 4 = 16 by decide] at k0 k1 k2 k3 k4
  omega
/-- down -/
theorem op10 (h : st n T els x N tx fl I J) (hF : 300 ≤ F) (a w : Int32) : ok2 (hs l s d tl) (e115 F 0 a w) (e170 F 26 a w) I J (fun I' J' => st n T els x N tx fl I' J' ∧ opf I I' J J') := by
  have hc := h.2.1.1
  have hk := h.2.1.2.2.1
  have hm := h.2.2.2.2.1
  have hM := h.2.2.1
  have hok := hc.1
  have hn5 := hc.2.2.1
  have e1 : ∀ hp, e115 F 0 a w hp = m115_0 F 0 a w hp := fun _ => rfl
  have e2 : ∀ hp, e170 F 26 a w hp = m170_0 F 26 a w hp := fun _ => rfl
  have b1 : ∀ (j : Nat) (hp : List mE), j < 2 → e137 F (nI j).toInt64 0 1 hp = some (nI 1, hp) := by
    intro j hp hj
    have e : (1 : Int64) = (nI 2 - 1).toInt64 := by decide
    rw [e]
    exact bwn1 (by omega) hj hp
  rcases el_c els a with ⟨i, y, hi, rfl⟩ | ha
  · have kc := kp_c hk hi
    have kk := hk.2.2.2.2 i y hi
    have h40 := kc.2.2.2.2.1
    have h20 := kc.2.2.2.1
    rcases two_c w with rfl | rfl | hw
    · refine scm (R := fun v => ∃ S, v = nI S ∧ S < 2 ^ n ∧ ∀ j, j < n → (S / 2 ^ j % 2 = 1 ↔ dn n (gA T) y.reverse j)) h ?_ ?_ ?_
      · obtain ⟨S, s1, s2, s3⟩ := sb_e (l := l) (s := s) (d := d) (tl := tl) (F := F) (I := I) (J := J) (a := 11) (o := i * 5) hc.2.2.2.1 hn5 (by omega) q11 (by decide) (by omega)
        rw [e1]; unfold m115_0 m115_53
        rw [gr0_2, Option.bind_some, rc8, Option.bind_some, eh1 hk hi, Option.bind_some, if_pos z1, if_neg (show ¬ mc1 .lt (nI 0) = true by decide), if_pos (show mc2 .le (nI 0) 1 = true by decide), gr0_0, Option.bind_some, if_neg z0, gr0_2, Option.bind_some, gr8_4, Option.bind_some, rc1, Option.bind_some, n_5, pk_mul, s1, Option.bind_some]
        refine Tr_ret ⟨⟨S, rfl, s2, fun j hj => ?_⟩, fun _ _ => rfl, fun _ _ _ _ _ => rfl⟩
        rw [s3 j hj]
        exact wt_dn hok (cx_L_rev kc.2.1) (by rw [cx_l_rev hok kc.2.1]; omega) kk.2.2.2.2.1 hj
      · intro I1 J1 hs
        obtain ⟨J2, g1, g2, g3⟩ := sqb_e (l := l) (s := s) (d := d) (tl := tl) (F := F) (J := J1) hs.1 hs.2.2.1 (by omega) hi
        obtain ⟨S, s1, s2, s3⟩ := dwr_e (l := l) (s := s) (d := d) (tl := tl) (F := F) (J := J2) hs.1 hF (cx_L_rev kc.2.1) (by rw [cx_l_rev hok kc.2.1]; omega) g2
        rw [e2]; unfold m170_0 m170_37
        rw [rc26, Option.bind_some, ie1 hs.2.2.1 hi, Option.bind_some, if_pos z1, b1 0 _ (by omega), Option.bind_some, if_pos z1, if_neg z0, rc26, Option.bind_some, n_1, g1, Option.bind_some, n_0, s1]
        exact Tr_ret ⟨⟨S, rfl, s2, s3⟩, rfr_J g3, hs.2.2.1⟩
      · rintro v v' ⟨S, rfl, a1, a2⟩ ⟨R, rfl, b1, b2⟩
        rw [set_un n hn5 S a1 R b1 (fun j hj => (a2 j hj).trans (b2 j hj).symm)]
    · refine scm (R := fun v => ∃ S, v = nI S ∧ S < 2 ^ n ∧ ∀ j, j < n → (S / 2 ^ j % 2 = 1 ↔ dn n (gA T) y j)) h ?_ ?_ ?_
      · obtain ⟨S, s1, s2, s3⟩ := sb_e (l := l) (s := s) (d := d) (tl := tl) (F := F) (I := I) (J := J) (a := 12) (o := i * 5) hc.2.2.2.1 hn5 (by omega) q12 (by decide) (by omega)
        rw [e1]; unfold m115_0 m115_53
        rw [gr0_2, Option.bind_some, rc8, Option.bind_some, eh1 hk hi, Option.bind_some, if_pos z1, if_neg (show ¬ mc1 .lt (nI 1) = true by decide), if_pos (show mc2 .le (nI 1) 1 = true by decide), gr0_0, Option.bind_some, if_pos z1, gr0_2, Option.bind_some, gr8_5, Option.bind_some, rc1, Option.bind_some, n_5, pk_mul, s1, Option.bind_some]
        refine Tr_ret ⟨⟨S, rfl, s2, fun j hj => ?_⟩, fun _ _ => rfl, fun _ _ _ _ _ => rfl⟩
        rw [s3 j hj]
        exact wt_dn hok kc.2.1 (by omega) kk.2.2.2.2.2 hj
      · intro I1 J1 hs
        obtain ⟨J2, g1, g2, g3⟩ := sqr_e (l := l) (s := s) (d := d) (tl := tl) (F := F) (J := J1) hs.1 hs.2.2.1 (by omega) hi
        obtain ⟨S, s1, s2, s3⟩ := dwr_e (l := l) (s := s) (d := d) (tl := tl) (F := F) (J := J2) hs.1 hF kc.2.1 (by omega) g2
        rw [e2]; unfold m170_0 m170_37
        rw [rc26, Option.bind_some, ie1 hs.2.2.1 hi, Option.bind_some, if_pos z1, b1 1 _ (by omega), Option.bind_some, if_pos z1, if_pos z1, rc26, Option.bind_some, n_0, g1, Option.bind_some, s1]
        exact Tr_ret ⟨⟨S, rfl, s2, s3⟩, rfr_J g3, hs.2.2.1⟩
      · rintro v v' ⟨S, rfl, a1, a2⟩ ⟨R, rfl, b1, b2⟩
        rw [set_un n hn5 S a1 R b1 (fun j hj => (a2 j hj).trans (b2 j hj).symm)]
    · refine rcm h (-1002) ?_ ?_
      · rw [e1]; unfold m115_0 m115_24
        rw [gr0_2, Option.bind_some, rc8, Option.bind_some, eh1 hk hi, Option.bind_some, if_pos z1]
        rcases not2 hw with h1 | ⟨h1, h2⟩
        · rw [if_pos h1]
        · rw [if_neg h1, if_neg h2]
      · rw [e2]; unfold m170_0
        rw [rc26, Option.bind_some, ie1 hm hi, Option.bind_some, if_pos z1, bw2_0 hw, Option.bind_some, if_neg z0]
  · refine rcm h (-1001) ?_ ?_
    · rw [e1]; unfold m115_0
      rw [gr0_2, Option.bind_some, rc8, Option.bind_some, eh0 hk ha, Option.bind_some, if_neg z0]
    · rw [e2]; unfold m170_0
      rw [rc26, Option.bind_some, ie0 hm ha, Option.bind_some, if_neg z0]
/-- root -/
theorem op11 (h : st n T els x N tx fl I J) (hF : 300 ≤ F) (a b c : Int32) : ok2 (hs l s d tl) (e116 F 0 a b c) (e171 F 26 a b c) I J (fun I' J' => st n T els x N tx fl I' J' ∧ opf I I' J J') := by
  have hc := h.2.1.1
  have hk := h.2.1.2.2.1
  have hm := h.2.2.2.2.1
  have hM := h.2.2.1
  have hn5 := hc.2.2.1
  have e1 : ∀ hp, e116 F 0 a b c hp = m116_0 F 0 a b c hp := fun _ => rfl
  have e2 : ∀ hp, e171 F 26 a b c hp = m171_0 F 26 a b c hp := fun _ => rfl
  rcases el_c els a with ⟨w, y, hw, rfl⟩ | ha
  · rcases mi_c n b with ⟨i, hi, rfl⟩ | hb
    · rcases mi_c n c with ⟨k, hkn, rfl⟩ | hcc
      · refine scm (R := fun v => v = zJ (cx_x n (gA T) y (cx_e i) k)) h ?_ ?_ (fun v v' h1 h2 => h1.trans h2.symm)
        · rw [e1]; unfold m116_0
          rw [gr0_2, Option.bind_some, rc8, Option.bind_some, eh1 hk hw, Option.bind_some, if_pos z1, gr0_0, Option.bind_some, rc1, Option.bind_some, hm1 hc hi, Option.bind_some, if_neg y1, gr0_0, Option.bind_some, rc1, Option.bind_some, hm1 hc hkn, Option.bind_some, if_pos z1, gr0_4, Option.bind_some, rc19, Option.bind_some]
          exact Tr_b (im_e hc hk (by omega) hw hi hkn) (fun v I' J' hh => Tr_ret ⟨hh.1, fun c _ => by rw [hh.2.1], fun c _ _ c3 _ => hh.2.2 c c3⟩)
        · intro I1 J1 hs
          obtain ⟨J2, g1, g2, g3⟩ := sqr_e (l := l) (s := s) (d := d) (tl := tl) (F := F) (J := J1) hs.1 hs.2.2.1 (by omega) hw
          rw [e2]; unfold m171_0
          rw [rc26, Option.bind_some, ie1 hs.2.2.1 hw, Option.bind_some, if_pos z1, rc26, Option.bind_some, mm1 hs.1 hi, Option.bind_some, if_neg y1, rc26, Option.bind_some, mm1 hs.1 hkn, Option.bind_some, if_pos z1, rc26, Option.bind_some, n_0, g1, Option.bind_some, gr26_13, Option.bind_some, n_5, pk_mul, nI_add, rJ32 (by omega), Option.bind_some]
          have := g2 i k (by omega) (by omega)
          rw [Nat.zero_add] at this
          exact Tr_ret ⟨this, rfr_J g3, hs.2.2.1⟩
      · refine rcm h (-1002) ?_ ?_
        · rw [e1]; unfold m116_0 m116_37
          rw [gr0_2, Option.bind_some, rc8, Option.bind_some, eh1 hk hw, Option.bind_some, if_pos z1, gr0_0, Option.bind_some, rc1, Option.bind_some, hm1 hc hi, Option.bind_some, if_neg y1, gr0_0, Option.bind_some, rc1, Option.bind_some, hm0 hc hcc, Option.bind_some, if_neg z0]
        · rw [e2]; unfold m171_0 m171_28
          rw [rc26, Option.bind_some, ie1 hm hw, Option.bind_some, if_pos z1, rc26, Option.bind_some, mm1 hM hi, Option.bind_some, if_neg y1, rc26, Option.bind_some, mm0 hM hcc, Option.bind_some, if_neg z0]
    · refine rcm h (-1002) ?_ ?_
      · rw [e1]; unfold m116_0 m116_37
        rw [gr0_2, Option.bind_some, rc8, Option.bind_some, eh1 hk hw, Option.bind_some, if_pos z1, gr0_0, Option.bind_some, rc1, Option.bind_some, hm0 hc hb, Option.bind_some, if_pos y0]
      · rw [e2]; unfold m171_0 m171_28
        rw [rc26, Option.bind_some, ie1 hm hw, Option.bind_some, if_pos z1, rc26, Option.bind_some, mm0 hM hb, Option.bind_some, if_pos y0]
  · refine rcm h (-1001) ?_ ?_
    · rw [e1]; unfold m116_0
      rw [gr0_2, Option.bind_some, rc8, Option.bind_some, eh0 hk ha, Option.bind_some, if_neg z0]
    · rw [e2]; unfold m171_0
      rw [rc26, Option.bind_some, ie0 hm ha, Option.bind_some, if_neg z0]
/-- inversion -/
theorem op18 (h : st n T els x N tx fl I J) (hF : 300 ≤ F) (a b c : Int32) : ok2 (hs l s d tl) (e123 F 0 a b c) (e183 F 26 a b c) I J (fun I' J' => st n T els x N tx fl I' J' ∧ opf I I' J J') := by
  have hc := h.2.1.1
  have hk := h.2.1.2.2.1
  have hm := h.2.2.2.2.1
  have hM := h.2.2.1
  have e1 : ∀ hp, e123 F 0 a b c hp = m123_0 F 0 a b c hp := fun _ => rfl
  have e2 : ∀ hp, e183 F 26 a b c hp = m183_0 F 26 a b c hp := fun _ => rfl
  rcases el_c els a with ⟨w, y, hw, rfl⟩ | ha
  · have kc := kp_c hk hw
    have mc := km_c hm hw
    have h20 := kc.2.2.2.1
    have h40 := kc.2.2.2.2.1
    rcases mi_c n c with ⟨k, hkn, rfl⟩ | hcc
    · rcases mi_c y.length b with ⟨i, hi, rfl⟩ | hb
      · obtain ⟨t, ht⟩ := ex_at (show y.length - 1 - i < y.length by omega)
        refine scm (R := fun v => v = zJ (cx_x n (gA T) (y.drop (y.length - i)).reverse (cx_e t) k)) h ?_ (fun I1 J1 hs => Tr_mo (ivr_e hs.1 hs.2.2.1 hF hw hi hkn ht) (fun v I' J' hh => ⟨hh.1, hh.2.2, km_r (I' := I') (J' := J') hs.2.2.1 hh.2.1⟩)) (fun v v' h1 h2 => h1.trans h2.symm)
        rw [e1]; unfold m123_0
        rw [gr0_2, Option.bind_some, rc8, Option.bind_some, eh1 hk hw, Option.bind_some, if_pos z1, gr0_0, Option.bind_some, rc1, Option.bind_some, hm1 hc hkn, Option.bind_some, if_pos z1, if_neg (show ¬ mc1 .lt (nI i) = true by rw [d_lt (by omega)]; exact id), gr0_2, Option.bind_some, gr8_3, Option.bind_some, rI10 h40, Option.bind_some, kc.2.2.2.2.2, if_pos (show mc2 .lt (nI i) (nI y.length) = true by rw [c_lt (by omega) (by omega)]; exact hi), gr0_4, Option.bind_some, rc19, Option.bind_some]
        exact Tr_b (iv_e hc hk (by omega) hw hi hkn ht) (fun v I' J' hh => Tr_ret ⟨hh.1, fun c _ => by rw [hh.2.1], fun c _ _ c3 _ => hh.2.2 c c3⟩)
      · refine rcm h 0 ?_ ?_
        · rw [e1]; unfold m123_0 m123_47
          rw [gr0_2, Option.bind_some, rc8, Option.bind_some, eh1 hk hw, Option.bind_some, if_pos z1, gr0_0, Option.bind_some, rc1, Option.bind_some, hm1 hc hkn, Option.bind_some, if_pos z1]
          rcases notm (m := y.length) (by omega) hb with h1 | ⟨h1, h2⟩
          · rw [if_pos h1]
          · rw [if_neg h1, gr0_2, Option.bind_some, gr8_3, Option.bind_some, rI10 h40, Option.bind_some, kc.2.2.2.2.2, if_neg h2]
        · rw [e2]; unfold m183_0
          rw [rc26, Option.bind_some, ie1 hm hw, Option.bind_some, if_pos z1, rc26, Option.bind_some, mm1 hM hkn, Option.bind_some, if_pos z1, gr26_17, Option.bind_some, rI34 h40, Option.bind_some, mc.2.2.2.2.2.1, bwn0 (by omega) hb, Option.bind_some, if_neg z0]
    · refine rcm h (-1002) ?_ ?_
      · rw [e1]; unfold m123_0
        rw [gr0_2, Option.bind_some, rc8, Option.bind_some, eh1 hk hw, Option.bind_some, if_pos z1, gr0_0, Option.bind_some, rc1, Option.bind_some, hm0 hc hcc, Option.bind_some, if_neg z0]
      · rw [e2]; unfold m183_0
        rw [rc26, Option.bind_some, ie1 hm hw, Option.bind_some, if_pos z1, rc26, Option.bind_some, mm0 hM hcc, Option.bind_some, if_neg z0]
  · refine rcm h (-1001) ?_ ?_
    · rw [e1]; unfold m123_0
      rw [gr0_2, Option.bind_some, rc8, Option.bind_some, eh0 hk ha, Option.bind_some, if_neg z0]
    · rw [e2]; unfold m183_0
      rw [rc26, Option.bind_some, ie0 hm ha, Option.bind_some, if_neg z0]
/-- exchange -/
theorem op17 (h : st n T els x N tx fl I J) (hF : 300 ≤ F) (a b : Int32) : ok2 (hs l s d tl) (e122 F 0 a b) (e181 F 26 a b) I J (fun I' J' => st n T els x N tx fl I' J' ∧ opf I I' J J') := by
  have hc := h.2.1.1
  have hk := h.2.1.2.2.1
  have hm := h.2.2.2.2.1
  have hM := h.2.2.1
  have hok := hc.1
  have hn5 := hc.2.2.1
  have e1 : ∀ hp, e122 F 0 a b hp = m122_0 F 0 a b hp := fun _ => rfl
  have e2 : ∀ hp, e181 F 26 a b hp = m181_0 F 26 a b hp := fun _ => rfl
  have kle : ∀ z : Int64, (mc1 .le (lg_cmp z 0) = true) ↔ ¬ (0 : Int64) < z := by
    intro z
    have hgt := k_gt z 0
    have hle : (mc1 .le (lg_cmp z 0) = true) ↔ ¬ (mc1 .gt (lg_cmp z 0) = true) := by
      unfold mc1
      simp only [decide_eq_true_eq, Int32.le_iff_toInt_le, Int32.lt_iff_toInt_lt, gt_iff_lt]
      omega
    rw [hle, hgt]
  rcases el_c els a with ⟨w, y, hw, rfl⟩ | ha
  · have kc := kp_c hk hw
    have kk := hk.2.2.2.2 w y hw
    have h20 := kc.2.2.2.1
    have h40 := kc.2.2.2.2.1
    rcases mi_c n b with ⟨t, ht, rfl⟩ | hb
    · have hwt := kk.2.2.2.2.2 t ht
      have hin := h_in hok kc.2.1 (show cx_l n (gA T) y ≤ 31 by omega) ht
      have hsg := cx_h_sign hok kc.2.1 ht
      have pos : (0 : Int64) < J 12 (w * 5 + t) ↔ ¬ dn n (gA T) y t := by
        rw [hwt, j_0, Int64.lt_iff_toInt_lt]
        unfold zJ dn
        rw [Int64.toInt_ofInt_of_le hin.1 hin.2, Int64.toInt_ofInt_of_le (by decide) (by decide)]
        rcases hsg with h1 | h1 <;> omega
      by_cases hd : dn n (gA T) y t
      · refine scm (R := fun v => ∃ i, i < y.length ∧ v = nI i ∧ cx_g n (gA T) (y.eraseIdx i) = cx_g n (gA T) (y ++ [t])) h ?_ (fun I1 J1 hs => Tr_mo (xcr_e hs.1 hs.2.2.1 hF hw ht hd) (fun v I' J' hh => ⟨hh.1, hh.2.2, km_r (I' := I') (J' := J') hs.2.2.1 hh.2.1⟩)) ?_
        · rw [e1]; unfold m122_0
          rw [gr0_2, Option.bind_some, rc8, Option.bind_some, eh1 hk hw, Option.bind_some, if_pos z1, gr0_0, Option.bind_some, rc1, Option.bind_some, hm1 hc ht, Option.bind_some, if_pos z1, gr0_2, Option.bind_some, gr8_5, Option.bind_some, n_5, pk_mul, nI_add, rJ12 (by omega), Option.bind_some, if_pos ((kle _).mpr (fun h => pos.mp h hd)), gr0_4, Option.bind_some, rc19, Option.bind_some]
          exact Tr_b (xc_e hc hk (by omega) hw ht hd) (fun v I' J' hh => Tr_ret ⟨hh.1, fun c _ => by rw [hh.2.1], fun c _ _ c3 _ => hh.2.2 c c3⟩)
        · rintro v v' ⟨i, hi, rfl, g1⟩ ⟨j, hj, rfl, g2⟩
          have : i = j := by
            rcases Nat.lt_trichotomy i j with h1 | h1 | h1
            · exact absurd (g1.trans g2.symm) (er_inj hok kc.2.1 kc.2.2.1 h1 hj)
            · exact h1
            · exact absurd (g2.trans g1.symm) (er_inj hok kc.2.1 kc.2.2.1 h1 hi)
          rw [this]
      · refine scm (R := fun v => v = -1003) h ?_ ?_ (fun v v' h1 h2 => h1.trans h2.symm)
        · rw [e1]; unfold m122_0
          rw [gr0_2, Option.bind_some, rc8, Option.bind_some, eh1 hk hw, Option.bind_some, if_pos z1, gr0_0, Option.bind_some, rc1, Option.bind_some, hm1 hc ht, Option.bind_some, if_pos z1, gr0_2, Option.bind_some, gr8_5, Option.bind_some, n_5, pk_mul, nI_add, rJ12 (by omega), Option.bind_some, if_neg (fun h => (kle _).mp h (pos.mpr hd))]
          exact Tr_ret ⟨rfl, fun _ _ => rfl, fun _ _ _ _ _ => rfl⟩
        · intro I1 J1 hst
          obtain ⟨J2, g1, g2, g3⟩ := sqr_e (l := l) (s := s) (d := d) (tl := tl) (F := F) (J := J1) hst.1 hst.2.2.1 (by omega) hw
          have g4 : e157 F 32 (nI 0) (nI t) (mkH (hs l s d tl) I1 J2) = some (nI 0, (mkH (hs l s d tl) I1 J2)) := by
            rcases idq_e (l := l) (s := s) (d := d) (tl := tl) (F := F) (I := I1) (J := J2) hok hn5 (by omega) q32 (by decide) ht (by omega) kc.2.1 (by omega) g2 with ⟨_, h1⟩ | ⟨e, _⟩
            · exact absurd h1 hd
            · exact e
          rw [e2]; unfold m181_0
          rw [rc26, Option.bind_some, ie1 hst.2.2.1 hw, Option.bind_some, if_pos z1, rc26, Option.bind_some, mm1 hst.1 ht, Option.bind_some, if_pos z1, rc26, Option.bind_some, n_0, g1, Option.bind_some, gr26_13, Option.bind_some, g4, Option.bind_some, if_neg z0]
          exact Tr_ret ⟨rfl, rfr_J g3, hst.2.2.1⟩
    · refine rcm h (-1002) ?_ ?_
      · rw [e1]; unfold m122_0
        rw [gr0_2, Option.bind_some, rc8, Option.bind_some, eh1 hk hw, Option.bind_some, if_pos z1, gr0_0, Option.bind_some, rc1, Option.bind_some, hm0 hc hb, Option.bind_some, if_neg z0]
      · rw [e2]; unfold m181_0
        rw [rc26, Option.bind_some, ie1 hm hw, Option.bind_some, if_pos z1, rc26, Option.bind_some, mm0 hM hb, Option.bind_some, if_neg z0]
  · refine rcm h (-1001) ?_ ?_
    · rw [e1]; unfold m122_0
      rw [gr0_2, Option.bind_some, rc8, Option.bind_some, eh0 hk ha, Option.bind_some, if_neg z0]
    · rw [e2]; unfold m181_0
      rw [rc26, Option.bind_some, ie0 hm ha, Option.bind_some, if_neg z0]
end S
