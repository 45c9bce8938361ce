/-! Calls of both: keep, feed. -/
section S
variable {l s d : Value} {tl : List hQ} {F : Nat} {I : hI} {J : hJ} {n : Nat} {T : tT} {els : List (List Nat)} {x : List Nat} {N : Nat} {tx : Nat → Nat} {fl : Int32}
/-- keep -/
theorem op7 (h : st n T els x N tx fl I J) (hF : 300 ≤ F) : ok2 (hs l s d tl) (e112 F 0) (e166 F 26) I J (fun I' J' => ∃ r x', st n T (els ++ r) x' N tx fl I' J' ∧ opf I I' J J') := by
  obtain ⟨hT, hcl, hrf⟩ := h
  obtain ⟨c1, c2, c3, c4, c5, c6, c7⟩ := id hcl
  have hd := hrf.2.2.2.1
  have xL := hd.1
  have x20 := hd.2.1
  obtain ⟨y, hy, hg⟩ := cx_c_ex c1.1 _ xL rfl
  obtain ⟨v, I1, J1, e1, els1, k1, k2, k3, k4⟩ := kw_e (l := l) (s := s) (d := d) (tl := tl) (F := F) (b := 25) c1 c3 (by omega) q25 (by decide) xL x20 x20 c5 hy hg
  have kx : kpx n (gA T) els x v els1 := ⟨y, hy, hg, k1⟩
  have hv := kpx_v c3.2.1 kx
  obtain ⟨r, hr⟩ := kpx_ext kx
  -- the class
  have ec : e112 F 0 (mkH (hs l s d tl) I J) = some (v, (mkH (hs l s d tl) (if v = gI 1004 then I1 else upI I1 0 7 (nI 0)) J1)) := by
    show m112_0 F 0 _ = _
    unfold m112_0 m112_28
    rw [gr0_2, Option.bind_some, gr0_6, Option.bind_some, gi0_7, Option.bind_some, c4, rc8, Option.bind_some, e1, Option.bind_some]
    by_cases hv4 : v = gI 1004
    · rw [if_pos (show mc2 .eq v (-1004) = true by rw [g_eq]; exact hv4), if_pos hv4]
    · rw [if_neg (show ¬ mc2 .eq v (-1004) = true by rw [g_eq]; exact hv4), pi0_7, Option.bind_some, if_neg hv4]
      rfl
  have hI2 : ∀ c, c ≠ 0 → (if v = gI 1004 then I1 else upI I1 0 7 (nI 0)) c = I1 c := by
    intro c hc
    split
    · rfl
    · exact upI_ne hc
  have hcf : cfr I (if v = gI 1004 then I1 else upI I1 0 7 (nI 0)) J J1 := fun c hc => ⟨by rw [hI2 c (by omega)]; exact k3 c (by omega) (by omega) (by omega), k4 c (by omega) (by omega) (by omega)⟩
  have hs1 := str_c hrf hcf
  have hkp : kp n (gA T) els1 (if v = gI 1004 then I1 else upI I1 0 7 (nI 0)) J1 := kp_fr k2 (hI2 8 (by decide)) (hI2 9 (by decide)) (hI2 10 (by decide)) rfl rfl
  obtain ⟨v2, I3, J3, e3, els2, I4, m1, m2, m3, m4⟩ := kpr_e (l := l) (s := s) (d := d) (tl := tl) (F := F) (J := J1) hs1.1 hs1.2.2.1 hF hs1.2.2.2.1
  obtain ⟨u1, u2⟩ := kpx_un c1.1 kx m1
  subst u1
  subst u2
  have ho : opf I I4 J J3 := opf_tr (cfr_o hcf) (rfr_o m3)
  have stc1 : ∀ x', (if v = gI 1004 then I1 else upI I1 0 7 (nI 0)) 0 7 = nI x'.length → wd (I 25) 0 x' → stc n T els1 x' N tx fl (if v = gI 1004 then I1 else upI I1 0 7 (nI 0)) J1 := by
    intro x' h07 hw
    have kk : ∀ c, c = 1 ∨ c = 2 ∨ c = 3 ∨ c = 4 ∨ c = 5 ∨ c = 25 → (if v = gI 1004 then I1 else upI I1 0 7 (nI 0)) c = I c := fun c hc => by rw [hI2 c (by omega)]; exact k3 c (by omega) (by omega) (by omega)
    exact ⟨cl_fr c1 (kk 1 (by omega)) (kk 3 (by omega)), fun i j a b => by rw [kk 2 (by omega)]; exact c2 i j a b, hkp, h07, by rw [kk 25 (by omega)]; exact hw, ⟨c6.1, by rw [kk 4 (by omega)]; exact c6.2.1, fun i a => by rw [kk 5 (by omega)]; exact c6.2.2 i a⟩, by rw [kk 4 (by omega)]; exact c7⟩
  have str4 := str_r hs1 m3 m2
  have u26 : ∀ (z : Int32), opf I (upI I4 26 19 z) J J3 := fun z => ⟨fun c hc => ⟨by rw [upI_ne (by omega)]; exact (ho.1 c hc).1, (ho.1 c hc).2⟩, by rw [upI_at, if_neg (by decide)]; exact ho.2.1, by rw [upI_at, if_neg (by decide)]; exact ho.2.2⟩
  have fin : ∀ x', cx_L n x' → x'.length ≤ 20 → wd (I4 36) 0 x' → str n T els1 x' N tx fl (upI I4 26 19 (nI x'.length)) := by
    intro x' a1 a2 a3
    obtain ⟨s1, s2, s3, s4, s5, s6⟩ := str4
    exact ⟨mo_fr s1 (by rw [upI_at, if_neg (by decide)]) (upI_ne (by decide)), fun i j a b => by rw [upI_ne (by decide)]; exact s2 i j a b, km_fr s3 (by rw [upI_at, if_neg (by decide)]) (upI_ne (by decide)) (upI_ne (by decide)), ⟨a1, a2, by rw [upI_at, if_pos rfl], by rw [upI_ne (by decide)]; exact a3⟩, ⟨s5.1, by rw [upI_at, if_neg (by decide)]; exact s5.2.1, fun i hi => by rw [upI_ne (by decide)]; exact s5.2.2 i hi⟩, by rw [upI_at, if_neg (by decide)]; exact s6⟩
  have clow : ∀ (z : Int32) c, c < 26 → (upI I4 26 19 z) c = (if v = gI 1004 then I1 else upI I1 0 7 (nI 0)) c ∧ J3 c = J1 c := fun z c hc => ⟨by rw [upI_ne (by omega)]; exact (rfr_c m3 c hc).1, (rfr_c m3 c hc).2⟩
  rcases m4 with ⟨hv4, rfl⟩ | ⟨hv4, rfl⟩
  · refine ⟨v, _, J1, _, J3, ec, e3, r, x, ⟨hT, ?_, ?_⟩, u26 _⟩
    · rw [← hr]
      refine stc_r (stc1 x ?_ c5) (clow _)
      rw [if_pos hv4, k3 0 (by decide) (by decide) (by decide)]
      exact c4
    · rw [← hr]
      exact fin x xL x20 str4.2.2.2.1.2.2.2
  · refine ⟨v, _, J1, _, J3, ec, e3, r, [], ⟨hT, ?_, ?_⟩, u26 _⟩
    · rw [← hr]
      refine stc_r (stc1 [] ?_ wd_nil) (clow _)
      rw [if_neg hv4, upI_at, if_pos rfl]
      rfl
    · rw [← hr]
      exact fin [] cx_L_nil (by simp) wd_nil
/-- feed -/
theorem op0 (h : st n T els x N tx fl I J) (hF : 300 ≤ F) (a : Int32) (X : Int64) : ok2 (hs l s d tl) (e104 F 0 a X) (e139 F 26 a X) I J (fun I' J' => ∃ N' tx', st n T els x N' tx' fl I' J' ∧ opf I I' J J') := by
  have hh := h
  obtain ⟨hT, ⟨c1, c2, c3, c4, c5, c6, c7⟩, ⟨r1, r2, r3, r4, r5, r6⟩⟩ := h
  have e1 : ∀ hp, e104 F 0 a X hp = m104_0 F 0 a X hp := fun _ => rfl
  have e2 : ∀ hp, e139 F 26 a X hp = m139_0 F 26 a X hp := fun _ => rfl
  by_cases hk : ∃ k, 1 ≤ k ∧ k ≤ 8 ∧ a = nI k
  · obtain ⟨k, k1, k8, rfl⟩ := hk
    have ecl : ∀ {r}, e77 F 4 (nI k) X (mkH (hs l s d tl) I J) = some r → e104 F 0 (nI k) X (mkH (hs l s d tl) I J) = some r := by
      intro r hr
      rw [e1]
      unfold m104_0
      rw [if_neg (show ¬ mc2 .lt (nI k) 1 = true by rw [n_1, c_lt (by omega) (by omega)]; omega), if_pos (show mc2 .le (nI k) 8 = true by rw [n_8, c_le (by omega) (by omega)]; exact k8), gr0_1, Option.bind_some, rc4, Option.bind_some, hr, Option.bind_some]
    rcases ap_e (l := l) (s := s) (d := d) (tl := tl) (F := F) (J := J) c6 hF (n := k) k8 (x := X) with ⟨hf, g1⟩ | ⟨hf, I1, t1, g1, g2, g3, g4, g5, g6⟩
    · rcases rfe_e (l := l) (s := s) (d := d) (tl := tl) (F := F) (J := J) r5 hF (n := k) k1 k8 (x := X) with ⟨_, q1⟩ | ⟨hf2, _⟩
      · exact ok2_s _ (ecl g1) q1 ⟨N, tx, hh, opf_rf I J⟩
      · omega
    · have hcf : cfr I I1 J J := fun c hc => ⟨g5 c (by omega) (by omega), rfl⟩
      have hs1 := str_c ⟨r1, r2, r3, r4, r5, r6⟩ hcf
      rcases rfe_e (l := l) (s := s) (d := d) (tl := tl) (F := F) (J := J) hs1.2.2.2.2.1 hF (n := k) k1 k8 (x := X) with ⟨hf2, _⟩ | ⟨_, I2, t2, q1, q2, q3, q4, q5, q6⟩
      · omega
      · have tt : ∀ i, i < N + k → t2 i = t1 i := by
          intro i hi
          by_cases hiN : i < N
          · rw [q3 i hiN, g3 i hiN]
          · have e := q4 (k - 1 - (i - N)) (by omega)
            have e' := g4 (k - 1 - (i - N)) (by omega)
            rw [show N + (k - 1 - (k - 1 - (i - N))) = i by omega] at e e'
            rw [e, e']
        refine ⟨_, I1, J, I2, J, ecl g1, q1, N + k, t1, ⟨hT, ?_, ?_⟩, ?_⟩
        · have low : ∀ c, c < 26 → I2 c = I1 c ∧ J c = J c := fun c hc => ⟨q5 c (by omega) (by omega), rfl⟩
          refine stc_r ⟨cl_fr c1 (g5 1 (by decide) (by decide)) (g5 3 (by decide) (by decide)), fun i j a b => by rw [g5 2 (by decide) (by decide)]; exact c2 i j a b, kp_fr c3 (g5 8 (by decide) (by decide)) (g5 9 (by decide) (by decide)) (g5 10 (by decide) (by decide)) rfl rfl, by rw [g5 0 (by decide) (by decide)]; exact c4, by rw [g5 25 (by decide) (by decide)]; exact c5, g2, by rw [g6 4 (by decide)]; exact c7⟩ low
        · obtain ⟨s1, s2, s3, s4, s5, s6⟩ := hs1
          refine ⟨mo_fr s1 (q6 0 (by decide)) (q5 28 (by decide) (by decide)), fun i j a b => by rw [q5 27 (by decide) (by decide)]; exact s2 i j a b, km_fr s3 (q6 16 (by decide)) (q5 34 (by decide) (by decide)) (q5 35 (by decide) (by decide)), ⟨s4.1, s4.2.1, by rw [q6 19 (by decide)]; exact s4.2.2.1, by rw [q5 36 (by decide) (by decide)]; exact s4.2.2.2⟩, ⟨q2.1, q2.2.1, fun i hi => ?_⟩, by rw [q6 6 (by decide)]; exact s6⟩
          have := q2.2.2 i hi
          rw [tt i hi] at this
          exact this
        · exact opf_tr (cfr_o hcf) ⟨fun c hc => ⟨q5 c (by omega) (by omega), rfl⟩, q6 30 (by decide), q6 31 (by decide)⟩
  · have hno : ∀ k, 1 ≤ k → k ≤ 8 → a ≠ nI k := fun k h1 h2 e => hk ⟨k, h1, h2, e⟩
    have hr : a.toInt < 1 ∨ 8 < a.toInt := by
      apply Classical.byContradiction
      intro hc
      have h0 : ¬ a.toInt < 0 := by omega
      refine hno a.toInt.toNat (by omega) (by omega) ?_
      rw [← Int32.toInt_inj, nI_toInt (by omega)]
      omega
    have t1 : (1 : Int32).toInt = 1 := rfl
    have t8 : (8 : Int32).toInt = 8 := rfl
    refine ok2_s (-1002) ?_ ?_ ⟨N, tx, hh, opf_rf I J⟩
    · rw [e1]
      unfold m104_0 m104_11
      by_cases hl : a.toInt < 1
      · rw [if_pos (show mc2 .lt a 1 = true by unfold mc2; exact decide_eq_true (Int32.lt_iff_toInt_lt.mpr (by omega)))]
      · rw [if_neg (show ¬ mc2 .lt a 1 = true by unfold mc2; dsimp only; rw [decide_eq_true_eq, Int32.lt_iff_toInt_lt]; omega), if_neg (show ¬ mc2 .le a 8 = true by unfold mc2; dsimp only; rw [decide_eq_true_eq, Int32.le_iff_toInt_le]; omega)]
    · rw [e2]
      unfold m139_0
      have e3 : e137 F a.toInt64 1 8 (mkH (hs l s d tl) I J) = some (nI 0, (mkH (hs l s d tl) I J)) := by
        rcases bw_g (F := F) a.toInt64 1 8 (mkH (hs l s d tl) I J) with ⟨_, h2, h3⟩ | ⟨e, _⟩
        · rw [Int32.toInt_toInt64] at h2 h3
          have l1 : (1 : Int64).toInt = 1 := rfl
          have l8 : (8 : Int64).toInt = 8 := rfl
          omega
        · exact e
      rw [e3, Option.bind_some, if_neg z0]
end S
