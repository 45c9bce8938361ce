/-! Calls of both: r, from the call on. -/
/-- what a call leaves that may change what the reference has found below -/
def exK (I I' : hI) (J J' : hJ) : Prop := (∀ c, 54 ≤ c → I' c = I c ∧ J' c = J c) ∧ (I' 26 30 = gI 1 ∨ ((∀ c, 45 ≤ c → I' c = I c ∧ J' c = J c) ∧ I' 26 30 = I 26 30 ∧ I' 26 31 = I 26 31))
section S
variable {l s d : Value} {tl : List hQ} {F : Nat} {I : hI} {J : hJ} {n : Nat} {T : tT} {els : List (List Nat)} {x : List Nat} {N : Nat} {tx : Nat → Nat} {fl : Int32}
theorem exK_s : exK I I J J := ⟨fun _ _ => ⟨rfl, rfl⟩, Or.inr ⟨fun _ _ => ⟨rfl, rfl⟩, rfl, rfl⟩⟩
/-- r, of the reference -/
theorem rr_e {A : Nat → Nat → Int} (hM : mo_n n A I) (hk : km n A els I) (hF : 9000 ≤ F) {a w : Nat} {u y : List Nat} (hu : els[a]? = some u) (hy : els[w]? = some y) (h8 : y.length ≤ 8) {k : Nat} (hk31 : k < 2 ^ 31) : ∃ (I' : hI) (J' : hJ), e205 F 26 (nI a) (nI w) (nI k) (mkH (hs l s d tl) I J) = some (zI (rww n A y u k), (mkH (hs l s d tl) I' J')) ∧ (∀ c, c < 45 → c ≠ 26 → I' c = I c) ∧ (∀ f, f ≠ 30 → f ≠ 31 → I' 26 f = I 26 f) ∧ I' 26 30 = gI 1 ∧ (∀ c, c < 45 → c ≠ 32 → J' c = J c) ∧ ∀ c, 54 ≤ c → I' c = I c ∧ J' c = J c := by
  have hok := hM.1
  obtain ⟨yc, yL, yl, y20, w40, yb, _⟩ := km_c hk hy
  obtain ⟨uc, uL, ul, u20, a40, _⟩ := km_c hk hu
  obtain ⟨W, I1, J1, e1, B1, f1⟩ := fb_e (l := l) (s := s) (d := d) (tl := tl) (F := F) (J := J) hM hk hF hy h8
  have hA := bqS_A B1.1
  -- explained is none
  have i2 : ∀ c, c ≠ 26 → upI I1 26 30 (gI 1) c = I1 c := fun c hc => upI_ne hc
  have f2 : ∀ f, f ≠ 30 → upI I1 26 30 (gI 1) 26 f = I1 26 f := fun f hf => by rw [upI_at, if_neg hf]
  have B2 : blF n A y W (upI I1 26 30 (gI 1)) J1 := by
    obtain ⟨b1, b2, b3, b4⟩ := B1
    refine ⟨b1, b2, ⟨b3.1, fun i u hu => by rw [i2 46 (by decide)]; exact b3.2.1 i u hu, by rw [f2 31 (by decide)]; exact b3.2.2⟩, fun i j u a1 a2 a3 => ?_⟩
    rw [i2 47 (by decide), i2 48 (by decide)]
    exact b4 i j u a1 a2 a3
  have hM2 : mo_n n A (upI I1 26 30 (gI 1)) := mo_fr (mo_bf hM f1) (f2 0 (by decide)) (i2 28 (by decide))
  have hk2 : km n A els (upI I1 26 30 (gI 1)) := km_fr hk (by rw [f2 16 (by decide)]; exact f1.2.1 16 (by decide)) (by rw [i2 34 (by decide)]; exact f1.1 34 (by decide) (by decide) (by decide) (by decide)) (by rw [i2 35 (by decide)]; exact f1.1 35 (by decide) (by decide) (by decide) (by decide))
  generalize hI2 : upI I1 26 30 (gI 1) = I2 at *
  have i30 : I2 26 30 = gI 1 := by rw [← hI2, upI_at, if_pos rfl]
  obtain ⟨v, J3, e3, r3, c3⟩ := po_e (l := l) (s := s) (d := d) (tl := tl) (F := F) hM2 hk2 hF yL h8 B2 hy
  have blJ : ∀ {J J' : hJ}, (∀ c, c ≠ 32 → J' c = J c) → blF n A y W I2 J → blF n A y W I2 J' := fun {J J'} hc B => ⟨B.1, B.2.1, ⟨fun i u hu => by rw [hc 45 (by decide)]; exact B.2.2.1.1 i u hu, B.2.2.1.2⟩, B.2.2.2⟩
  have B3 := blJ c3 B2
  obtain ⟨p, J4, e4, r4, c4⟩ := po_e (l := l) (s := s) (d := d) (tl := tl) (F := F) hM2 hk2 hF yL h8 B3 hu
  have B4 := blJ c4 B3
  rcases r3 with ⟨jv, xv, v1, v2, rfl⟩ | ⟨v1, _⟩
  · obtain ⟨I5, e5, r5, f5⟩ := fr_e (l := l) (s := s) (d := d) (tl := tl) (F := F) hM2 hF yL h8 B4 v1 yL (cx_c_l yc) v2.symm
    have fin : ∀ q, e205 F 26 (nI a) (nI w) (nI k) (mkH (hs l s d tl) I J) = q → q = (if mc1 .lt p = true then m205_84 F (mkH (hs l s d tl) I5 J4) else if mc2 .le (nI k) 8 = true then (rdI (mkH (hs l s d tl) I5 J4) 49 ((9 * p) + nI k)).bind fun x23 => m205_100 F x23 (mkH (hs l s d tl) I5 J4) else m205_84 F (mkH (hs l s d tl) I5 J4)) := by
      intro q hq
      rw [← hq]
      show m205_0 F 26 _ _ _ _ = _
      unfold m205_0
      rw [rc26, Option.bind_some, ie1 hk hu, Option.bind_some, if_neg (show ¬ mc1 .eq (nI 1) = true by decide), rc26, Option.bind_some, ie1 hk hy, Option.bind_some, if_pos (show mc1 .ne (nI 1) = true by decide), if_pos (show mc1 .ge (nI k) = true by rw [d_ge hk31]; trivial), gr26_17, Option.bind_some, rI34 (by omega), Option.bind_some, yb, if_pos (show mc2 .le (nI y.length) 8 = true by rw [show (8 : Int32) = nI 8 from rfl, c_le (by omega) (by omega)]; omega), rc26, Option.bind_some, e1, Option.bind_some]
      show ((pfv 11 30 (mkH (hs l s d tl) I1 J1) 26 (.int (gI 1))).bind _) = _
      rw [pi26_30, Option.bind_some, hI2, rc26, Option.bind_some, e3, Option.bind_some, rc26, Option.bind_some, e4, Option.bind_some, rc26, Option.bind_some, e5, Option.bind_some, gr26_36]
      rfl
    have fin := fin _ rfl
    refine ⟨I5, J4, ?_, fun c hc hc2 => ?_, fun g g1 g2 => ?_, ?_, fun c hc hc2 => ?_, fun c hc => ⟨?_, ?_⟩⟩
    · rw [fin]
      unfold m205_84 m205_100
      rcases r4 with ⟨j, z, b1, b2, rfl⟩ | ⟨b1, rfl⟩
      · have hj := (List.getElem?_eq_some_iff.mp b1).1
        have h256 := B1.2.1
        rw [if_neg (show ¬ mc1 .lt (nI j) = true by rw [d_lt (by omega)]; exact id)]
        by_cases hk8 : k ≤ 8
        · rw [if_pos (show mc2 .le (nI k) 8 = true by rw [show (8 : Int32) = nI 8 from rfl, c_le (by omega) (by omega)]; omega), n_9, pk_mul, nI_add, rI49 (by omega), Option.bind_some, r5 j z b1 k (by omega), rww_eg y z u b2]
        · rw [if_neg (show ¬ mc2 .le (nI k) 8 = true by rw [show (8 : Int32) = nI 8 from rfl, c_le (by omega) (by omega)]; omega)]
          have : rww n A y u k = 0 := rwl_dg hok (cx_L_rev yL) uL (by rw [List.length_reverse]; omega)
          rw [this]
          rfl
      · rw [if_pos (show mc1 .lt (gI 1) = true by decide), bqA_r hok yL hA v1 yL (cx_c_l yc) v2.symm uL b1 k]
        rfl
    · rw [f5 c (by omega) (by omega) (by omega), ← hI2, upI_ne hc2]
      exact f1.1 c hc2 (by omega) (by omega) (by omega)
    · rw [f5 26 (by decide) (by decide) (by decide), ← hI2, upI_at, if_neg g1]
      exact f1.2.1 g g2
    · rw [f5 26 (by decide) (by decide) (by decide)]
      exact i30
    · rw [c4 c hc2, c3 c hc2]
      exact f1.2.2 c hc2 (by omega)
    · rw [f5 c (by omega) (by omega) (by omega), ← hI2, upI_ne (by omega)]
      exact f1.1 c (by omega) (by omega) (by omega) (by omega)
    · rw [c4 c (by omega), c3 c (by omega)]
      exact f1.2.2 c (by omega) (by omega)
  · exfalso
    obtain ⟨j, z, b1, b2⟩ := hA.2.2.2 y (List.Sublist.refl _)
    exact v1 j z b1 b2
theorem ge0_c (c : Int32) : (∃ k, k < 2 ^ 31 ∧ c = nI k) ∨ c < 0 := by
  by_cases h : c < 0
  · exact Or.inr h
  · refine Or.inl ⟨c.toInt.toNat, ?_, ?_⟩
    · have := Int32.toInt_lt c
      rw [Int32.lt_iff_toInt_lt] at h
      have h0 : (0 : Int32).toInt = 0 := rfl
      omega
    · rw [← Int32.toInt_inj]
      have h1 := Int32.toInt_lt c
      rw [Int32.lt_iff_toInt_lt] at h
      have h0 : (0 : Int32).toInt = 0 := rfl
      rw [nI_toInt (by omega)]
      omega
/-- r -/
theorem op25 (h : st n T els x N tx fl I J) (hF : 9000 ≤ F) (a b c : Int32) : ok2 (hs l s d tl) (e131 F 0 a b c) (e205 F 26 a b c) I J (fun I' J' => st n T els x N tx fl I' J' ∧ exK I I' J J') := by
  have hkp := h.2.1.2.2.1
  have hkm := h.2.2.2.2.1
  have h40 := hkp.2.1
  have e0 : ∀ hp, e131 F 0 a b c hp = m131_0 F 0 a b c hp := fun _ => rfl
  have e1 : ∀ hp, e205 F 26 a b c hp = m205_0 F 26 a b c hp := fun _ => rfl
  rcases el_c els a with ⟨i, u, hu, rfl⟩ | ha
  · rcases el_c els b with ⟨w, y, hy, rfl⟩ | hb
    · have yb := (hkp.2.2.2.2 w y hy).2.2.1
      have ybm := (hkm.2.2.2.2 w y hy).2.2.1
      have y20 := (hkp.2.2.2.2 w y hy).2.1
      have hwl := (List.getElem?_eq_some_iff.mp hy).1
      rcases ge0_c c with ⟨k, hk31, rfl⟩ | hc
      · by_cases h8 : y.length ≤ 8
        · obtain ⟨I1, J1, f1, g1, g2⟩ := na48 (l := l) (s := s) (d := d) (tl := tl) (F := F) h.2.1.1 hkp hF hu hy h8 hk31
          have hs1 : str n T els x N tx fl I1 := str_c h.2.2 (J := J) (J' := J1) (fun c hc => ⟨g1 c (by omega), g2 c (by omega)⟩)
          obtain ⟨I2, J2, f2, k1, k2, k3, k4, k5⟩ := rr_e (l := l) (s := s) (d := d) (tl := tl) (F := F) (J := J1) hs1.1 hs1.2.2.1 hF hu hy h8 hk31
          refine ⟨_, I1, J1, I2, J2, ?_, f2, ⟨h.1, ?_, ?_⟩, fun c hc => ?_, Or.inl k3⟩
          · rw [e0]
            unfold m131_0
            rw [gr0_2, Option.bind_some, rc8, Option.bind_some, eh1 hkp hu, Option.bind_some, if_neg (show ¬ mc1 .eq (nI 1) = true by decide), gr0_2, Option.bind_some, rc8, Option.bind_some, eh1 hkp hy, Option.bind_some, if_pos (show mc1 .ne (nI 1) = true by decide), if_pos (show mc1 .ge (nI k) = true by rw [d_ge hk31]; trivial), gr0_2, Option.bind_some, gr8_3, Option.bind_some, rI10 (by omega), Option.bind_some, yb, if_pos (show mc2 .le (nI y.length) 8 = true by rw [show (8 : Int32) = nI 8 from rfl, c_le (by omega) (by omega)]; omega), gr0_5, Option.bind_some, rc22, Option.bind_some, f1, Option.bind_some]
          · have q1 : stc n T els x N tx fl I1 J1 := by
              obtain ⟨c1, c2, c3, c4, c5, c6, c7⟩ := h.2.1
              refine ⟨cl_fr c1 (g1 1 (by decide)) (g1 3 (by decide)), fun i j a1 a2 => by rw [g1 2 (by decide)]; exact c2 i j a1 a2, kp_fr c3 (g1 8 (by decide)) (g1 9 (by decide)) (g1 10 (by decide)) (g2 11 (by decide)) (g2 12 (by decide)), by rw [g1 0 (by decide)]; exact c4, by rw [g1 25 (by decide)]; exact c5, ⟨c6.1, by rw [g1 4 (by decide)]; exact c6.2.1, fun i hi => by rw [g1 5 (by decide)]; exact c6.2.2 i hi⟩, by rw [g1 4 (by decide)]; exact c7⟩
            exact stc_r q1 (fun c hc => ⟨k1 c (by omega) (by omega), k4 c (by omega) (by omega)⟩)
          · obtain ⟨s1, s2, s3, s4, s5, s6⟩ := hs1
            refine ⟨mo_fr s1 (k2 0 (by decide) (by decide)) (k1 28 (by decide) (by decide)), fun i j a1 a2 => by rw [k1 27 (by decide) (by decide)]; exact s2 i j a1 a2, km_fr s3 (k2 16 (by decide) (by decide)) (k1 34 (by decide) (by decide)) (k1 35 (by decide) (by decide)), ⟨s4.1, s4.2.1, by rw [k2 19 (by decide) (by decide)]; exact s4.2.2.1, by rw [k1 36 (by decide) (by decide)]; exact s4.2.2.2⟩, ⟨s5.1, by rw [k2 5 (by decide) (by decide)]; exact s5.2.1, fun i hi => by rw [k1 30 (by decide) (by decide)]; exact s5.2.2 i hi⟩, by rw [k2 6 (by decide) (by decide)]; exact s6⟩
          · obtain ⟨x1, x2⟩ := k5 c hc
            exact ⟨by rw [x1, g1 c (by omega)], by rw [x2, g2 c (by omega)]⟩
        · refine ok2_s (-1005) ?_ ?_ ⟨h, exK_s⟩
          · rw [e0]
            unfold m131_0
            rw [gr0_2, Option.bind_some, rc8, Option.bind_some, eh1 hkp hu, Option.bind_some, if_neg (show ¬ mc1 .eq (nI 1) = true by decide), gr0_2, Option.bind_some, rc8, Option.bind_some, eh1 hkp hy, Option.bind_some, if_pos (show mc1 .ne (nI 1) = true by decide), if_pos (show mc1 .ge (nI k) = true by rw [d_ge hk31]; trivial), gr0_2, Option.bind_some, gr8_3, Option.bind_some, rI10 (by omega), Option.bind_some, yb, if_neg (show ¬ mc2 .le (nI y.length) 8 = true by rw [show (8 : Int32) = nI 8 from rfl, c_le (by omega) (by omega)]; omega)]
          · rw [e1]
            unfold m205_0
            rw [rc26, Option.bind_some, ie1 hkm hu, Option.bind_some, if_neg (show ¬ mc1 .eq (nI 1) = true by decide), rc26, Option.bind_some, ie1 hkm hy, Option.bind_some, if_pos (show mc1 .ne (nI 1) = true by decide), if_pos (show mc1 .ge (nI k) = true by rw [d_ge hk31]; trivial), gr26_17, Option.bind_some, rI34 (by omega), Option.bind_some, ybm, if_neg (show ¬ mc2 .le (nI y.length) 8 = true by rw [show (8 : Int32) = nI 8 from rfl, c_le (by omega) (by omega)]; omega)]
      · have hge : ¬ mc1 .ge c = true := by
          unfold mc1
          dsimp only
          rw [decide_eq_true_eq, Int32.le_iff_toInt_le]
          rw [Int32.lt_iff_toInt_lt] at hc
          omega
        refine ok2_s (-1002) ?_ ?_ ⟨h, exK_s⟩
        · rw [e0]
          unfold m131_0
          rw [gr0_2, Option.bind_some, rc8, Option.bind_some, eh1 hkp hu, Option.bind_some, if_neg (show ¬ mc1 .eq (nI 1) = true by decide), gr0_2, Option.bind_some, rc8, Option.bind_some, eh1 hkp hy, Option.bind_some, if_pos (show mc1 .ne (nI 1) = true by decide), if_neg hge]
        · rw [e1]
          unfold m205_0
          rw [rc26, Option.bind_some, ie1 hkm hu, Option.bind_some, if_neg (show ¬ mc1 .eq (nI 1) = true by decide), rc26, Option.bind_some, ie1 hkm hy, Option.bind_some, if_pos (show mc1 .ne (nI 1) = true by decide), if_neg hge]
    · refine ok2_s (-1001) ?_ ?_ ⟨h, exK_s⟩
      · rw [e0]
        unfold m131_0 m131_22
        rw [gr0_2, Option.bind_some, rc8, Option.bind_some, eh1 hkp hu, Option.bind_some, if_neg (show ¬ mc1 .eq (nI 1) = true by decide), gr0_2, Option.bind_some, rc8, Option.bind_some, eh0 hkp hb, Option.bind_some, if_neg (show ¬ mc1 .ne (nI 0) = true by decide)]
      · rw [e1]
        unfold m205_0 m205_16
        rw [rc26, Option.bind_some, ie1 hkm hu, Option.bind_some, if_neg (show ¬ mc1 .eq (nI 1) = true by decide), rc26, Option.bind_some, ie0 hkm hb, Option.bind_some, if_neg (show ¬ mc1 .ne (nI 0) = true by decide)]
  · refine ok2_s (-1001) ?_ ?_ ⟨h, exK_s⟩
    · rw [e0]
      unfold m131_0 m131_22
      rw [gr0_2, Option.bind_some, rc8, Option.bind_some, eh0 hkp ha, Option.bind_some, if_pos (show mc1 .eq (nI 0) = true by decide)]
    · rw [e1]
      unfold m205_0 m205_16
      rw [rc26, Option.bind_some, ie0 hkm ha, Option.bind_some, if_pos (show mc1 .eq (nI 0) = true by decide)]
end S
