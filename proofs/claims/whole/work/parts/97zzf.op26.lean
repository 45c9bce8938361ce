/-! Calls of both: p, where its numbers are in range. -/
section S
variable {l s d : Value} {tl : List hQ} {F : Nat} {I : hI} {J : hJ} {n : Nat} {T : tT} {els : List (List Nat)} {x : List Nat} {N : Nat} {tx : Nat → Nat} {fl : Int32}
theorem st_x {I' : hI} {J' : hJ} (h : st n T els x N tx fl I J) (hx : xfr I I' J J') : st n T els x N tx fl I' J' := by
  obtain ⟨h1, h2, s1, s2, s3, s4, s5, s6⟩ := h
  have k1 : ∀ c, c < 45 → c ≠ 26 → I' c = I c := hx.1
  have k2 : ∀ g, g ≠ 30 → g ≠ 31 → I' 26 g = I 26 g := hx.2.1
  exact ⟨h1, stc_r h2 (fun c hc => ⟨k1 c (by omega) (by omega), hx.2.2.1 c (by omega) (by omega)⟩), mo_fr s1 (k2 0 (by decide) (by decide)) (k1 28 (by decide) (by decide)), fun i j a1 a2 => by rw [k1 27 (by decide) (by decide)]; exact s2 i j a1 a2, km_fr s3 (k2 16 (by decide) (by decide)) (k1 34 (by decide) (by decide)) (k1 35 (by decide) (by decide)), ⟨s4.1, s4.2.1, by rw [k2 19 (by decide) (by decide)]; exact s4.2.2.1, by rw [k1 36 (by decide) (by decide)]; exact s4.2.2.2⟩, ⟨s5.1, by rw [k2 5 (by decide) (by decide)]; exact s5.2.1, fun i hi => by rw [k1 30 (by decide) (by decide)]; exact s5.2.2 i hi⟩, by rw [k2 6 (by decide) (by decide)]; exact s6⟩
theorem st_54 {I' : hI} {J' : hJ} (h : st n T els x N tx fl I J) (hx : ∀ c, c < 54 → I' c = I c ∧ J' c = J c) : st n T els x N tx fl I' J' := ⟨h.1, stc_r h.2.1 (fun c hc => hx c (by omega)), str_f h.2.2 (fun c _ hc => (hx c hc).1)⟩
theorem exP_54 {A : Nat → Nat → Int} {I' : hI} {J' : hJ} (h : exP n A els I J) (hx : ∀ c, c < 54 → I' c = I c ∧ J' c = J c) : exP n A els I' J' := by
  unfold exP exQ blF blP tbT sqs at *
  rw [(hx 26 (by decide)).1, (hx 45 (by decide)).2, (hx 46 (by decide)).1, (hx 47 (by decide)).1, (hx 48 (by decide)).1, (hx 52 (by decide)).1]
  exact h
theorem idK_x {A : Nat → Nat → Int} {Q : List (List Nat) → Nat → (Nat → Int64) → Prop} {I' : hI} {J' : hJ} (h : idK n A Q els d I J) (hb : ∀ b : Nat, d = .ref b → 54 ≤ b) (hx : ∀ c, 54 ≤ c → I' c = I c ∧ J' c = J c) : idK n A Q els d I' J' := by
  intro b e
  have b54 := hb b e
  obtain ⟨h1, h2⟩ := h b e
  refine ⟨sfb_I h1 (hx _ (by omega)).1 (hx _ (by omega)).1 (hx _ (by omega)).1, ?_⟩
  rcases h2 with h7 | ⟨w, y, W, top, z, a1, a2, a3, a4, a5, a6, a7, a8, a9⟩
  · left
    rw [(hx b b54).1]
    exact h7
  · refine Or.inr ⟨w, y, W, top, z, a1, a2, by rw [(hx b b54).1]; exact a3, a4, shf_at a5 (hx _ (by omega)).1 (hx _ (by omega)).1 (hx _ (by omega)).1 (hx _ (by omega)).1 (hx _ (by omega)).2, a6, a7, by rw [(hx b b54).1]; exact a8, ?_⟩
    rw [(hx (b + 3) (by omega)).2]
    exact a9
/-- p -/
theorem op26 (h : st n T els x N tx fl I J) (hS : caS l s d tl) (ho : okh (hs l s d tl)) (hl : tl.length ≤ 100) (hk : idK n (gA T) (pkQ n (gA T)) els d I J) (hx : exP n (gA T) els I J) (hp : kpos n (gA T)) (hF : 9000 ≤ F) (a b c : Int32) : ∃ v d' tl' I1 J1 I2 J2, e132 F 0 a b c (mkH (hs l s d tl) I J) = some (v, mkH (hs l s d' tl') I1 J1) ∧ e206 F 26 a b c (mkH (hs l s d' tl') I1 J1) = some (v, mkH (hs l s d' tl') I2 J2) ∧ st n T els x N tx fl I2 J2 ∧ caS l s d' tl' ∧ okh (hs l s d' tl') ∧ cfm d d' 10 tl tl' I I1 J J1 ∧ xfr I1 I2 J1 J2 ∧ idK n (gA T) (pkQ n (gA T)) els d' I2 J2 ∧ exP n (gA T) els I2 J2 := by
  have hkp := h.2.1.2.2.1
  have hkm := h.2.2.2.2.1
  have hok := h.2.1.1.1
  have same : cfm d d 10 tl tl I I J J := ⟨Or.inl ⟨rfl, rfl⟩, fun _ _ _ _ => ⟨rfl, rfl⟩⟩
  rcases el_c els a with ⟨i, u, hu, rfl⟩ | ha
  · rcases el_c els b with ⟨w, y, hy, rfl⟩ | hb
    · have yb := (hkp.2.2.2.2 w y hy).2.2.1
      have ybm := (hkm.2.2.2.2 w y hy).2.2.1
      have y20 := (hkp.2.2.2.2 w y hy).2.1
      have w40 := (kp_lt hkp hy).2
      rcases ge0_c c with ⟨k, hk31, rfl⟩ | hc
      · have ec : e132 F 0 (nI i) (nI w) (nI k) (mkH (hs l s d tl) I J) = if mc2 .le (nI y.length) 8 = true then (e135 F 0 (mkH (hs l s d tl) I J)).bind fun q14 => if q14.1 < q14.2.length then (rcv 0 q14.2 q14.1).bind fun u18 => (e5 F q14.1 (nI w) q14.2).bind fun q17 => if q17.1 < q17.2.length then (rcv 0 q17.2 q17.1).bind fun u21 => (e2 F q17.1 (nI i) (nI k) q17.2).bind fun q20 => some (q20.1, q20.2) else none else none else some ((-1005), (mkH (hs l s d tl) I J)) := by
          show m132_0 F 0 _ _ _ _ = _
          unfold m132_0
          rw [gr0_2, Option.bind_some, rc8, Option.bind_some, eh1 hkp hu, Option.bind_some, if_neg (show ¬ mc1 .eq (nI 1) = true by decide), gr0_2, Option.bind_some, rc8, Option.bind_some, eh1 hkp hy, Option.bind_some, if_pos (show mc1 .ne (nI 1) = true by decide), if_pos (show mc1 .ge (nI k) = true by rw [d_ge hk31]; trivial), gr0_2, Option.bind_some, gr8_3, Option.bind_some, rI10 (by omega), Option.bind_some, yb, rc0, Option.bind_some]
        by_cases h8 : y.length ≤ 8
        · obtain ⟨yc, yL, yl, _⟩ := kp_c hkp hy
          obtain ⟨uc, uL, ul, _⟩ := kp_c hkp hu
          obtain ⟨v, b0, tl', I0, I1, J0, J1, f1, f2, f3, f4, f5, f6, f7, f8, f9, f10⟩ := pnum_e (F := F) h.2.1.1 hkp hS ho hl hk hF hu hy h8 (fun W hA => pkQ_f hok yL yl h8 hA (kpm_le hp h8)) (nI k)
          obtain ⟨H0, nd1, nd2, nd3, nd4⟩ := f1
          have st1 := st_54 h f9
          obtain ⟨I2, J2, f, g1, g2, g3, g4, g5⟩ := pref_e (l := l) (s := s) (d := .ref b0) (tl := tl') (F := F) st1.2.2.1 st1.2.2.2.2.1 hF hy h8 (exP_54 hx f9) hu hk31
          have hv := pans_v hok yL yl h8 (kpm_le hp h8) uL hk31 f5 g2
          refine ⟨v, .ref b0, tl', I1, J1, I2, J2, ?_, by rw [hv]; exact g1, st_x st1 g4, f6, f7, f8, g4, idK_x f10 (fun b' e => ?_) g4.2.2.2, g3⟩
          · rw [ec, if_pos (show mc2 .le (nI y.length) 8 = true by rw [c_8, c_le (by omega) (by omega)]; omega), nd1, Option.bind_some, if_pos nd2, nd3, Option.bind_some, nd4, Option.bind_some, if_pos f2, f3, Option.bind_some, f4, Option.bind_some]
          · rcases f6.2.2 with e' | ⟨b'', e', h54, _⟩
            · rw [e'] at e
              cases e
            · rw [e'] at e
              cases e
              exact h54
        · refine ⟨-1005, d, tl, I, J, I, J, ?_, ?_, h, hS, ho, same, xfr_rf I J, hk, hx⟩
          · rw [ec, if_neg (show ¬ mc2 .le (nI y.length) 8 = true by rw [c_8, c_le (by omega) (by omega)]; omega)]
          · show m206_0 F 26 _ _ _ _ = _
            unfold m206_0
            rw [rc26, Option.bind_some, ie1 hkm hu, Option.bind_some, if_neg (show ¬ mc1 .eq (nI 1) = true by decide), rc26, Option.bind_some, ie1 hkm hy, Option.bind_some, if_pos (show mc1 .ne (nI 1) = true by decide), if_pos (show mc1 .ge (nI k) = true by rw [d_ge hk31]; trivial), gr26_17, Option.bind_some, rI34 (by omega), Option.bind_some, ybm, if_neg (show ¬ mc2 .le (nI y.length) 8 = true by rw [c_8, c_le (by omega) (by omega)]; omega)]
      · have hc' : ¬ mc1 .ge c = true := by
          unfold mc1
          rw [decide_eq_true_eq]
          exact Int32.not_le.mpr hc
        refine ⟨-1002, d, tl, I, J, I, J, ?_, ?_, h, hS, ho, same, xfr_rf I J, hk, hx⟩
        · show m132_0 F 0 _ _ _ _ = _
          unfold m132_0
          rw [gr0_2, Option.bind_some, rc8, Option.bind_some, eh1 hkp hu, Option.bind_some, if_neg (show ¬ mc1 .eq (nI 1) = true by decide), gr0_2, Option.bind_some, rc8, Option.bind_some, eh1 hkp hy, Option.bind_some, if_pos (show mc1 .ne (nI 1) = true by decide), if_neg hc']
        · show m206_0 F 26 _ _ _ _ = _
          unfold m206_0
          rw [rc26, Option.bind_some, ie1 hkm hu, Option.bind_some, if_neg (show ¬ mc1 .eq (nI 1) = true by decide), rc26, Option.bind_some, ie1 hkm hy, Option.bind_some, if_pos (show mc1 .ne (nI 1) = true by decide), if_neg hc']
    · refine ⟨-1001, d, tl, I, J, I, J, ?_, ?_, h, hS, ho, same, xfr_rf I J, hk, hx⟩
      · show m132_0 F 0 _ _ _ _ = _
        unfold m132_0
        rw [gr0_2, Option.bind_some, rc8, Option.bind_some, eh1 hkp hu, Option.bind_some, if_neg (show ¬ mc1 .eq (nI 1) = true by decide), gr0_2, Option.bind_some, rc8, Option.bind_some, eh0 hkp hb, Option.bind_some, if_neg (show ¬ mc1 .ne (nI 0) = true by decide)]
        rfl
      · show m206_0 F 26 _ _ _ _ = _
        unfold m206_0
        rw [rc26, Option.bind_some, ie1 hkm hu, Option.bind_some, if_neg (show ¬ mc1 .eq (nI 1) = true by decide), rc26, Option.bind_some, ie0 hkm hb, Option.bind_some, if_neg (show ¬ mc1 .ne (nI 0) = true by decide)]
        rfl
  · refine ⟨-1001, d, tl, I, J, I, J, ?_, ?_, h, hS, ho, same, xfr_rf I J, hk, hx⟩
    · show m132_0 F 0 _ _ _ _ = _
      unfold m132_0
      rw [gr0_2, Option.bind_some, rc8, Option.bind_some, eh0 hkp ha, Option.bind_some, if_pos (show mc1 .eq (nI 0) = true by decide)]
      rfl
    · show m206_0 F 26 _ _ _ _ = _
      unfold m206_0
      rw [rc26, Option.bind_some, ie0 hkm ha, Option.bind_some, if_pos (show mc1 .eq (nI 0) = true by decide)]
      rfl
end S
