/-! The class's reading: clauses, the whole text. -/
section S
variable {N p m : Nat} {tx : Nat → Nat} {T : tT}
theorem figr_y {v q : Nat} (lo hi : Nat) (h : figr N tx p 0 9 = .inr (v, q)) : figr N tx p lo hi = if lo ≤ v ∧ v ≤ hi then .inr (v, q) else .inl (2, sk N tx p) := by
  unfold figr at *
  by_cases h1 : sk N tx p < N ∧ 48 ≤ tx (sk N tx p) ∧ tx (sk N tx p) ≤ 57
  · rw [if_pos h1] at *
    rw [if_pos (by omega)] at h
    have e := Sum.inr.inj h
    have e1 := (Prod.mk.inj e).1
    have e2 := (Prod.mk.inj e).2
    rw [e1, e2]
  · rw [if_neg h1] at h
    cases h
theorem figr_n {c q : Nat} (lo hi : Nat) (h : figr N tx p 0 9 = .inl (c, q)) : figr N tx p lo hi = .inl (c, q) := by
  unfold figr at *
  by_cases h1 : sk N tx p < N ∧ 48 ≤ tx (sk N tx p) ∧ tx (sk N tx p) ≤ 57
  · rw [if_pos h1, if_pos (by omega)] at h
    cases h
  · rw [if_neg h1] at *
    exact h
theorem figr_lt {v q lo hi : Nat} (hp : p ≤ N) (h : figr N tx p lo hi = .inr (v, q)) : p < q ∧ q ≤ N := by
  unfold figr at h
  have := sk_le (tx := tx) hp
  split at h
  · split at h
    · have e2 := (Prod.mk.inj (Sum.inr.inj h)).2
      omega
    · cases h
  · cases h
theorem tt_lt {t q : Nat} (hp : p ≤ N) (h : turnc N tx p = .inr (t, q)) : p < q := by
  unfold turnc at h
  have := sk_le (tx := tx) hp
  split at h
  · split at h
    · have e2 := (Prod.mk.inj (Sum.inr.inj h)).2
      omega
    · cases h
  · split at h
    · cases h
    · rename_i v p' hf
      split at h
      · have e2 := (Prod.mk.inj (Sum.inr.inj h)).2
        have := figr_lt hp hf
        omega
      · cases h
theorem endc_lt {q : Nat} (hp : p ≤ N) (h : endc N tx p = .inr q) : p < q ∧ q ≤ N := by
  unfold endc at h
  have := sk_le (tx := tx) hp
  split at h
  · have e2 := Sum.inr.inj h
    omega
  · cases h
end S
section S
variable {l s d : Value} {tl : List hQ} {F : Nat} {I : hI} {J : hJ} {N p m : Nat} {tx : Nat → Nat} {T : tT}
theorem tq_m (h : tq N tx p m T I) {v : Nat} (h1 : 1 ≤ v) (h5 : v ≤ 5) : tq N tx p v T (upI I 4 5 (nI v)) := by
  obtain ⟨⟨k1, k2, k3⟩, k4, k5, k6, k7, k8, k9, k10, k11⟩ := h
  refine ⟨⟨k1, by rw [upI_at, if_neg (by decide), k2], fun i hi => by rw [upI_ne (by decide)]; exact k3 i hi⟩, k4, by rw [upI_at, if_neg (by decide), k5], by rw [upI_at, if_neg (by decide), k6], by rw [upI_at, if_neg (by decide), k7], h1, h5, by rw [upI_at, if_pos rfl], fun i j hi hj => ?_⟩
  rw [upI_ne (by decide), upI_ne (by decide)]
  exact k11 i j hi hj
/-- what a clause comes to -/
def co (l s d : Value) (tl : List hQ) (N : Nat) (tx : Nat → Nat) (p : Nat) (I : hI) (J : hJ) (R : (Nat × Nat) ⊕ (Nat × Nat × tT)) (r : Option (Unit × List mE)) : Prop := (∃ I' p' m' T', R = .inr (p', m', T') ∧ r = some ((), (mkH (hs l s d tl) I' J)) ∧ tq N tx p' m' T' I' ∧ tf I I' ∧ p < p') ∨ (∃ I' c q, R = .inl (c, q) ∧ r = some ((), (mkH (hs l s d tl) I' J)) ∧ tw N c q I I' ∧ tf I I')
/-- tellMirrors -/
theorem tm_e (h : tq N tx p m T I) (hF : 300 ≤ F) (first : Bool) : co l s d tl N tx p I J (mirc N tx first T p) (e80 F 4 (nI (if first = true then 1 else 0)) (mkH (hs l s d tl) I J)) := by
  have hN := h.1.1
  have hpN := h.2.1
  obtain ⟨I1, e1, h1, h2⟩ := tkw_e (l := l) (s := s) (d := d) (tl := tl) (F := F) (J := J) h hF (w := 1000001) (W := w_mir) (Or.inl ⟨rfl, rfl⟩)
  have bad : mirc N tx first T p = .inl (1, p) → m80_20 F 4 (nI p) (mkH (hs l s d tl) I1 J) = some ((), (mkH (hs l s d tl) (upI (upI I1 4 3 (nI 1)) 4 4 (nI p)) J)) → co l s d tl N tx p I J (mirc N tx first T p) (m80_20 F 4 (nI p) (mkH (hs l s d tl) I1 J)) := by
    intro hm he
    right
    exact ⟨_, 1, p, hm, he, tw_fr (bl_w h1.1 (by omega) (by omega) hpN) (tq_41 h h1), tf_tr h2 (tf_tr (tf_up _ _ _) (tf_up _ _ _))⟩
  have he20 : m80_20 F 4 (nI p) (mkH (hs l s d tl) I1 J) = some ((), (mkH (hs l s d tl) (upI (upI I1 4 3 (nI 1)) 4 4 (nI p)) J)) := by
    unfold m80_20
    simp only [rc0, gr0_0, gr0_1, gr0_2, gr0_3, gr0_4, gr0_5, gr0_6, gi0_7, pi0_7, rc1, gi1_0, pi1_0, gr1_1, gr1_2, rc4, gr4_0, gi4_1, pi4_1, gi4_2, pi4_2, gi4_3, pi4_3, gi4_4, pi4_4, gi4_5, pi4_5, gr4_6, gr4_7, rc8, gr8_0, gi8_1, pi8_1, gr8_2, gr8_3, gr8_4, gr8_5, gr8_6, rc14, gr14_0, gr14_1, gr14_2, gr14_3, gr14_4, gr14_5, rc19, gr19_0, gr19_1, gr19_2, gr19_3, rc22, gr22_0, gr22_1, gr22_2, gr22_3, Option.bind_some, n_1, bl_e]
  have e0 : e80 F 4 (nI (if first = true then 1 else 0)) (mkH (hs l s d tl) I J) = m80_0 F 4 (nI (if first = true then 1 else 0)) (mkH (hs l s d tl) I J) := rfl
  rw [e0]
  unfold m80_0
  rw [gi4_2, Option.bind_some, rc4, Option.bind_some, h.2.2.1]
  rcases e1 with ⟨hw, e1⟩ | ⟨hw, e1⟩
  · rw [e1, Option.bind_some, if_neg (show ¬ mc1 .eq (nI 1) = true by decide)]
    cases first with
    | false =>
      rw [if_neg (show ¬ mc1 .ne (nI (if false = true then 1 else 0)) = true by decide)]
      exact bad (by unfold mirc; rw [if_neg (fun h => by cases h.2)]) he20
    | true =>
      rw [if_pos (show mc1 .ne (nI (if true = true then 1 else 0)) = true by decide)]
      have hl7 : (wl N tx p).length = 7 := by rw [hw]; rfl
      rw [hl7] at h1
      have hmc : mirc N tx true T p = match figr N tx (p + 7) 1 5 with
        | .inl e => .inl e
        | .inr (v, p1) => match endc N tx p1 with
          | .inl e => .inl e
          | .inr p2 => .inr (p2, v, T) := by
        unfold mirc
        rw [if_pos ⟨hw, rfl⟩]
        rfl
      have h7N := h1.2.1
      rw [rc4, Option.bind_some]
      rcases tg_e (l := l) (s := s) (d := d) (tl := tl) (F := F) (J := J) h1 hF with ⟨I2, v, g1, g2, -, g3, g4, g5⟩ | ⟨I2, g1, -, g3, g4, g5⟩
      · have hfy := figr_y 1 5 g1
        rw [g3, Option.bind_some, gi4_3, Option.bind_some, g4.2.2.2.1, if_pos (show mc1 .eq (nI 0) = true by decide)]
        have hrange : ∀ x, m80_53 F 4 (mkH (hs l s d tl) I2 J) = x → figr N tx (p + 7) 1 5 = .inl (2, sk N tx (p + 7)) → co l s d tl N tx p I J (mirc N tx true T p) x := by
          intro x hx hf
          right
          have hg4 := g4.2.1
          refine ⟨upI (upI I2 4 3 (nI 2)) 4 4 (nI (sk N tx (p + 7))), 2, sk N tx (p + 7), by rw [hmc, hf], ?_, tw_fr (bl_w g4.1 (by omega) (by omega) (by omega)) (tq_41 h g4), tf_tr (tf_tr h2 g5) (tf_tr (tf_up _ _ _) (tf_up _ _ _))⟩
          rw [← hx]
          unfold m80_53
          simp (disch := omega) only [rc0, gr0_0, gr0_1, gr0_2, gr0_3, gr0_4, gr0_5, gr0_6, gi0_7, pi0_7, rc1, gi1_0, pi1_0, gr1_1, gr1_2, rc4, gr4_0, gi4_1, pi4_1, gi4_2, pi4_2, gi4_3, pi4_3, gi4_4, pi4_4, gi4_5, pi4_5, gr4_6, gr4_7, rc8, gr8_0, gi8_1, pi8_1, gr8_2, gr8_3, gr8_4, gr8_5, gr8_6, rc14, gr14_0, gr14_1, gr14_2, gr14_3, gr14_4, gr14_5, rc19, gr19_0, gr19_1, gr19_2, gr19_3, rc22, gr22_0, gr22_1, gr22_2, gr22_3, Option.bind_some, g4.2.2.1, n_1, n_2, pk_sub, Nat.add_sub_cancel, bl_e]
        by_cases hv1 : v < 1
        · rw [if_pos (show mc2 .lt (nI v) 1 = true by rw [n_1, c_lt (by omega) (by omega)]; exact hv1)]
          exact hrange _ rfl (by rw [hfy, if_neg (by omega)])
        · rw [if_neg (show ¬ mc2 .lt (nI v) 1 = true by rw [n_1, c_lt (by omega) (by omega)]; exact hv1)]
          by_cases hv5 : v ≤ 5
          · rw [if_pos (show mc2 .le (nI v) 5 = true by rw [n_5, c_le (by omega) (by omega)]; exact hv5), pi4_5, Option.bind_some, rc4, Option.bind_some]
            have g4' := tq_m g4 (v := v) (by omega) hv5
            have hlt := figr_lt (by omega) g1
            rcases te_e (l := l) (s := s) (d := d) (tl := tl) (F := F) (J := J) g4' hF with ⟨I3, k1, k2, k3, k4, k5⟩ | ⟨I3, k1, k3, k4, k5⟩
            · left
              have := endc_lt hlt.2 k1
              refine ⟨I3, _, v, T, by rw [hmc, hfy, if_pos (by omega)]; dsimp only; rw [k1], by rw [k3]; rfl, k4, tf_tr (tf_tr h2 g5) (tf_tr (tf_up _ _ _) k5), by omega⟩
            · right
              exact ⟨I3, 1, _, by rw [hmc, hfy, if_pos (by omega)]; dsimp only; rw [k1], by rw [k3]; rfl, tw_fr k4 ((tq_41 h g4').symm ▸ rfl), tf_tr (tf_tr h2 g5) (tf_tr (tf_up _ _ _) k5)⟩
          · rw [if_neg (show ¬ mc2 .le (nI v) 5 = true by rw [n_5, c_le (by omega) (by omega)]; exact hv5)]
            exact hrange _ rfl (by rw [hfy, if_neg (by omega)])
      · right
        have hfn := figr_n 1 5 g1
        rw [g3, Option.bind_some, gi4_3, Option.bind_some, g4.2.2.2.1, if_neg (show ¬ mc1 .eq (nI 1) = true by decide)]
        exact ⟨I2, 1, _, by rw [hmc, hfn], rfl, tw_fr g4 (tq_41 h h1), tf_tr h2 g5⟩
  · rw [e1, Option.bind_some, if_pos (show mc1 .eq (nI 0) = true by decide)]
    exact bad (by unfold mirc; rw [if_neg (fun h => hw h.1)]) he20
/-- setPair -/
theorem sp_e {i j t : Nat} (hi : i < 5) (hj : j < 5) : e82 F 4 (nI i) (nI j) (nI t) (mkH (hs l s d tl) I J) = some ((), (mkH (hs l s d tl) (upI (upI I 7 (i * 5 + j) (nI 1)) 6 (i * 5 + j) (nI t)) J)) := by
  show m82_0 F 4 _ _ _ _ = _
  unfold m82_0
  simp (disch := omega) only [rc0, gr0_0, gr0_1, gr0_2, gr0_3, gr0_4, gr0_5, gr0_6, gi0_7, pi0_7, rc1, gi1_0, pi1_0, gr1_1, gr1_2, rc4, gr4_0, gi4_1, pi4_1, gi4_2, pi4_2, gi4_3, pi4_3, gi4_4, pi4_4, gi4_5, pi4_5, gr4_6, gr4_7, rc8, gr8_0, gi8_1, pi8_1, gr8_2, gr8_3, gr8_4, gr8_5, gr8_6, rc14, gr14_0, gr14_1, gr14_2, gr14_3, gr14_4, gr14_5, rc19, gr19_0, gr19_1, gr19_2, gr19_3, rc22, gr22_0, gr22_1, gr22_2, gr22_3, Option.bind_some, n_5, pk_mul, nI_add]
  rw [wZ7 (by omega) (Or.inr rfl)]
  simp (disch := omega) only [rc0, gr0_0, gr0_1, gr0_2, gr0_3, gr0_4, gr0_5, gr0_6, gi0_7, pi0_7, rc1, gi1_0, pi1_0, gr1_1, gr1_2, rc4, gr4_0, gi4_1, pi4_1, gi4_2, pi4_2, gi4_3, pi4_3, gi4_4, pi4_4, gi4_5, pi4_5, gr4_6, gr4_7, rc8, gr8_0, gi8_1, pi8_1, gr8_2, gr8_3, gr8_4, gr8_5, gr8_6, rc14, gr14_0, gr14_1, gr14_2, gr14_3, gr14_4, gr14_5, rc19, gr19_0, gr19_1, gr19_2, gr19_3, rc22, gr22_0, gr22_1, gr22_2, gr22_3, Option.bind_some, rI6, wI6]
  rfl
theorem tq_U (h : tq N tx p m T I) {i j t : Nat} (hi : i < 5) (hj : j < 5) (ht : t < 10) : tq N tx p m (tU T i j t) (upI (upI (upI (upI I 7 (i * 5 + j) (nI 1)) 6 (i * 5 + j) (nI t)) 7 (j * 5 + i) (nI 1)) 6 (j * 5 + i) (nI t)) := by
  obtain ⟨⟨k1, k2, k3⟩, k4, k5, k6, k7, k8, k9, k10, k11⟩ := h
  have h4 : (upI (upI (upI (upI I 7 (i * 5 + j) (nI 1)) 6 (i * 5 + j) (nI t)) 7 (j * 5 + i) (nI 1)) 6 (j * 5 + i) (nI t)) 4 = I 4 := by rw [upI_ne (by decide), upI_ne (by decide), upI_ne (by decide), upI_ne (by decide)]
  have h5 : (upI (upI (upI (upI I 7 (i * 5 + j) (nI 1)) 6 (i * 5 + j) (nI t)) 7 (j * 5 + i) (nI 1)) 6 (j * 5 + i) (nI t)) 5 = I 5 := by rw [upI_ne (by decide), upI_ne (by decide), upI_ne (by decide), upI_ne (by decide)]
  have h7 : ∀ q, (upI (upI (upI (upI I 7 (i * 5 + j) (nI 1)) 6 (i * 5 + j) (nI t)) 7 (j * 5 + i) (nI 1)) 6 (j * 5 + i) (nI t)) 7 q = if q = j * 5 + i then nI 1 else if q = i * 5 + j then nI 1 else I 7 q := by
    intro q
    rw [upI_ne (by decide), upI_at]
    by_cases hq : q = j * 5 + i
    · rw [if_pos hq, if_pos hq]
    · rw [if_neg hq, if_neg hq, upI_ne (by decide), upI_at]
  have h6 : ∀ q, (upI (upI (upI (upI I 7 (i * 5 + j) (nI 1)) 6 (i * 5 + j) (nI t)) 7 (j * 5 + i) (nI 1)) 6 (j * 5 + i) (nI t)) 6 q = if q = j * 5 + i then nI t else if q = i * 5 + j then nI t else I 6 q := by
    intro q
    rw [upI_at]
    by_cases hq : q = j * 5 + i
    · rw [if_pos hq, if_pos hq]
    · rw [if_neg hq, if_neg hq, upI_ne (by decide), upI_at]
      by_cases hq2 : q = i * 5 + j
      · rw [if_pos hq2, if_pos hq2]
      · rw [if_neg hq2, if_neg hq2, upI_ne (by decide)]
  refine ⟨⟨k1, by rw [h4, k2], fun i hi => by rw [h5]; exact k3 i hi⟩, k4, by rw [h4, k5], by rw [h4, k6], by rw [h4, k7], k8, k9, by rw [h4, k10], fun a b ha hb => ?_⟩
  rw [h6, h7]
  unfold tU
  by_cases h1 : (a = i ∧ b = j) ∨ (a = j ∧ b = i)
  · rw [if_pos h1]
    rcases h1 with ⟨rfl, rfl⟩ | ⟨rfl, rfl⟩
    · refine ⟨?_, ?_, ht⟩
      · by_cases hq : a * 5 + b = b * 5 + a
        · rw [if_pos hq]; rfl
        · rw [if_neg hq, if_pos rfl]; rfl
      · by_cases hq : a * 5 + b = b * 5 + a
        · rw [if_pos hq]; rfl
        · rw [if_neg hq, if_pos rfl]; rfl
    · refine ⟨?_, ?_, ht⟩
      · rw [if_pos rfl]; rfl
      · rw [if_pos rfl]; rfl
  · have n1 : ¬ a * 5 + b = j * 5 + i := by omega
    have n2 : ¬ a * 5 + b = i * 5 + j := by omega
    rw [if_neg h1, if_neg n1, if_neg n2, if_neg n1, if_neg n2]
    exact k11 a b ha hb
theorem m36_w {c q : Nat} (h : tw N c q I I) (x y : Int32) : m81_36 F 4 x y (mkH (hs l s d tl) I J) = some ((), (mkH (hs l s d tl) I J)) := by
  unfold m81_36
  rw [gi4_3, Option.bind_some, h.2.2.2.1, if_neg]
  rw [d_eq (by have := h.2.1; omega)]
  have := h.1
  omega
theorem m80_w {c q : Nat} (h : tw N c q I I) (x y z : Int32) : m81_80 F 4 x y z (mkH (hs l s d tl) I J) = some ((), (mkH (hs l s d tl) I J)) := by
  unfold m81_80
  rw [gi4_3, Option.bind_some, h.2.2.2.1, if_neg]
  rw [d_eq (by have := h.2.1; omega)]
  have := h.1
  omega
theorem tw_self {c q : Nat} {I I' : hI} (h : tw N c q I I') : tw N c q I' I' := ⟨h.1, h.2.1, h.2.2.1, h.2.2.2.1, h.2.2.2.2.1, rfl⟩
/-- tellPair -/
theorem tp_e (h : tq N tx p m T I) (hF : 300 ≤ F) : co l s d tl N tx p I J (pairc N tx m T p) (e81 F 4 (mkH (hs l s d tl) I J)) := by
  have hN := h.1.1
  have hpN := h.2.1
  have hm1 := h.2.2.2.2.2.1
  have hm5 := h.2.2.2.2.2.2.1
  have e0 : e81 F 4 (mkH (hs l s d tl) I J) = m81_0 F 4 (mkH (hs l s d tl) I J) := rfl
  rw [e0]
  unfold m81_0
  rw [gi4_2, Option.bind_some, rc4, Option.bind_some, h.2.2.1]
  -- I
  rcases tg_e (l := l) (s := s) (d := d) (tl := tl) (F := F) (J := J) h hF with ⟨I2, i, g1, g2, -, g3, g4, g5⟩ | ⟨I2, g1, -, g3, g4, g5⟩
  rotate_left
  · right
    have hfn := figr_n 0 (m - 1) g1
    refine ⟨I2, 1, _, by unfold pairc; rw [hfn], ?_, g4, g5⟩
    rw [g3, Option.bind_some, gi4_3, Option.bind_some, g4.2.2.2.1, if_pos (show mc1 .ne (nI 1) = true by decide)]
    exact m36_w (tw_self g4) _ _
  have hfy := figr_y 0 (m - 1) g1
  have hlt1 := figr_lt hpN g1
  have gm := g4.2.2.2.2.2.2.2.1
  rw [g3, Option.bind_some, gi4_3, Option.bind_some, g4.2.2.2.1, if_neg (show ¬ mc1 .ne (nI 0) = true by decide), gi4_5, Option.bind_some, gm]
  by_cases him : i < m
  rotate_left
  · right
    rw [if_neg (show ¬ mc2 .lt (nI i) (nI m) = true by rw [c_lt (by omega) (by omega)]; exact him), gi4_2, Option.bind_some, rc4, Option.bind_some, g4.2.2.1, n_2, n_1, pk_sub1, bl_e, Option.bind_some]
    have hw := bl_w g4.1 (c := 2) (q := sk N tx p) (by omega) (by omega) (by omega)
    exact ⟨_, 2, sk N tx p, by unfold pairc; rw [hfy, if_neg (by omega)], m36_w (tw_self hw) _ _, tw_fr hw (tq_41 h g4), tf_tr g5 (tf_tr (tf_up _ _ _) (tf_up _ _ _))⟩
  rw [if_pos (show mc2 .lt (nI i) (nI m) = true by rw [c_lt (by omega) (by omega)]; exact him)]
  rw [if_pos (by omega)] at hfy
  -- J
  unfold m81_36
  rw [gi4_3, Option.bind_some, g4.2.2.2.1, if_pos (show mc1 .eq (nI 0) = true by decide), rc4, Option.bind_some]
  rcases tg_e (l := l) (s := s) (d := d) (tl := tl) (F := F) (J := J) g4 hF with ⟨I3, j, k1, k2, -, k3, k4, k5⟩ | ⟨I3, k1, -, k3, k4, k5⟩
  rotate_left
  · right
    have hfn := figr_n 0 (m - 1) k1
    refine ⟨I3, 1, _, by unfold pairc; rw [hfy]; dsimp only; rw [hfn], ?_, tw_fr k4 (tq_41 h g4), tf_tr g5 k5⟩
    rw [k3, Option.bind_some, gi4_3, Option.bind_some, k4.2.2.2.1, if_pos (show mc1 .ne (nI 1) = true by decide)]
    exact m80_w (tw_self k4) _ _ _
  have hfj := figr_y 0 (m - 1) k1
  have hlt2 := figr_lt hlt1.2 k1
  have km := k4.2.2.2.2.2.2.2.1
  rw [k3, Option.bind_some, gi4_3, Option.bind_some, k4.2.2.2.1, if_neg (show ¬ mc1 .ne (nI 0) = true by decide), gi4_5, Option.bind_some, km]
  have hbj : (figr N tx (sk N tx p + 1) 0 (m - 1) = .inl (2, sk N tx (sk N tx p + 1)) ∨ (figr N tx (sk N tx p + 1) 0 (m - 1) = .inr (j, sk N tx (sk N tx p + 1) + 1) ∧ i = j)) → co l s d tl N tx p I J (pairc N tx m T p) (m81_69 F 4 (nI p) (nI i) (nI j) (mkH (hs l s d tl) I3 J)) := by
    intro hc
    right
    have hw := bl_w k4.1 (c := 2) (q := sk N tx (sk N tx p + 1)) (by omega) (by omega) (by omega)
    refine ⟨_, 2, sk N tx (sk N tx p + 1), ?_, ?_, tw_fr hw (tq_41 h k4), tf_tr (tf_tr g5 k5) (tf_tr (tf_up _ _ _) (tf_up _ _ _))⟩
    · unfold pairc
      rw [hfy]
      dsimp only
      rcases hc with hc | ⟨hc, hij⟩
      · rw [hc]
      · rw [hc]
        dsimp only
        rw [if_pos hij, Nat.add_sub_cancel]
    · unfold m81_69
      rw [gi4_2, Option.bind_some, rc4, Option.bind_some, k4.2.2.1, n_2, n_1, pk_sub1, bl_e, Option.bind_some]
      exact m80_w (tw_self hw) _ _ _
  by_cases hjm : j < m
  rotate_left
  · rw [if_pos (show mc2 .ge (nI j) (nI m) = true by rw [c_ge (by omega) (by omega)]; omega)]
    exact hbj (Or.inl (by rw [hfj, if_neg (by omega)]))
  rw [if_neg (show ¬ mc2 .ge (nI j) (nI m) = true by rw [c_ge (by omega) (by omega)]; omega)]
  rw [if_pos (by omega)] at hfj
  by_cases hij : i = j
  · rw [if_neg (show ¬ mc2 .ne (nI j) (nI i) = true by rw [g_ne]; rw [hij]; exact fun h => h rfl)]
    exact hbj (Or.inr ⟨hfj, hij⟩)
  rw [if_pos (show mc2 .ne (nI j) (nI i) = true by rw [c_ne (by omega) (by omega)]; omega)]
  -- the pair
  have htold := (k4.2.2.2.2.2.2.2.2 i j (by omega) (by omega)).1
  unfold m81_80
  rw [gi4_3, Option.bind_some, k4.2.2.2.1, if_pos (show mc1 .eq (nI 0) = true by decide), gr4_7, Option.bind_some, n_5, pk_mul, nI_add, rZ7 (by omega), Option.bind_some, htold]
  by_cases hT : (T i j).isSome = true
  · right
    rw [if_neg (show ¬ mc1 .eq (nI (if (T i j).isSome = true then 1 else 0)) = true by rw [if_pos hT]; decide), rc4, Option.bind_some, n_3, bl_e, Option.bind_some]
    have hw := bl_w k4.1 (c := 3) (q := p) (by omega) (by omega) hpN
    refine ⟨_, 3, p, ?_, rfl, tw_fr hw (tq_41 h k4), tf_tr (tf_tr g5 k5) (tf_tr (tf_up _ _ _) (tf_up _ _ _))⟩
    unfold pairc
    rw [hfy]
    dsimp only
    rw [hfj]
    dsimp only
    rw [if_neg hij, if_pos hT]
  rw [if_pos (show mc1 .eq (nI (if (T i j).isSome = true then 1 else 0)) = true by rw [if_neg hT]; decide), rc4, Option.bind_some]
  have hpc : pairc N tx m T p = match turnc N tx (sk N tx (sk N tx p + 1) + 1) with
      | .inl e => .inl e
      | .inr (t, p3) => match endc N tx p3 with
        | .inl e => .inl e
        | .inr p4 => .inr (p4, m, tU T i j t) := by
    unfold pairc
    rw [hfy]
    dsimp only
    rw [hfj]
    dsimp only
    rw [if_neg hij, if_neg hT]
    rfl
  rcases tt_e (l := l) (s := s) (d := d) (tl := tl) (F := F) (J := J) k4 hF with ⟨I4, t, q, r1, r2, r3, r4, r5⟩ | ⟨I4, v, c, q, r1, r3, r4, r5⟩
  rotate_left
  · right
    refine ⟨I4, c, q, by rw [hpc, r1], ?_, tw_fr r4 (tq_41 h k4), tf_tr (tf_tr g5 k5) r5⟩
    rw [r3, Option.bind_some, gi4_3, Option.bind_some, r4.2.2.2.1, if_neg]
    rw [d_eq (by have := r4.2.1; omega)]
    have := r4.1
    omega
  have r4' := tq_U r4 (i := i) (j := j) (t := t) (by omega) (by omega) r2
  have hq := r4.2.1
  rw [r3, Option.bind_some, gi4_3, Option.bind_some, r4.2.2.2.1, if_pos (show mc1 .eq (nI 0) = true by decide), rc4, Option.bind_some, sp_e (by omega) (by omega), Option.bind_some, rc4, Option.bind_some, sp_e (by omega) (by omega), Option.bind_some, rc4, Option.bind_some]
  have tfU : tf I4 (upI (upI (upI (upI I4 7 (i * 5 + j) (nI 1)) 6 (i * 5 + j) (nI t)) 7 (j * 5 + i) (nI 1)) 6 (j * 5 + i) (nI t)) := fun c c1 c2 c3 => by rw [upI_ne c2, upI_ne c3, upI_ne c2, upI_ne c3]
  have hpq : p < q := by
    have hh := tt_lt (by omega) r1
    omega
  rcases te_e (l := l) (s := s) (d := d) (tl := tl) (F := F) (J := J) r4' hF with ⟨I5, w1, w2, w3, w4, w5⟩ | ⟨I5, w1, w3, w4, w5⟩
  · left
    have := endc_lt hq w1
    exact ⟨I5, _, m, _, by rw [hpc, r1]; dsimp only; rw [w1], by rw [w3]; rfl, w4, tf_tr (tf_tr (tf_tr g5 k5) r5) (tf_tr tfU w5), by omega⟩
  · right
    exact ⟨I5, 1, _, by rw [hpc, r1]; dsimp only; rw [w1], by rw [w3]; rfl, tw_fr w4 (tq_41 h r4'), tf_tr (tf_tr (tf_tr g5 k5) r5) (tf_tr tfU w5)⟩
end S
