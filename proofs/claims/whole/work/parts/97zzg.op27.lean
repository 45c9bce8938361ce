/-! Calls of both: leans, where the numbers of P are in range. -/
theorem ln_lt2 : ∀ a, a < 9 → ∀ c, c < 21 → (mc1 .lt (nI a - nI c) = true ↔ a < c) := by decide +kernel
section S
variable {l s d : Value} {tl : List hQ} {F : Nat} {I : hI} {J : hJ} {n : Nat} {T : tT} {els : List (List Nat)} {x : List Nat} {N : Nat} {tx : Nat → Nat} {fl : Int32}
/-- leans -/
theorem op27 (h : st n T els x N tx fl I J) (hS : caS l s d tl) (ho : okh (hs l s d tl)) (hl : tl.length ≤ 100) (hk : idK n (gA T) (pkQ n (gA T)) els d I J) (hx : exP n (gA T) els I J) (hp : kpos n (gA T)) (hF : 9000 ≤ F) (a b : Int32) : ∃ v d' tl' I1 J1 I2 J2, e133 F 0 a b (mkH (hs l s d tl) I J) = some (v, mkH (hs l s d' tl') I1 J1) ∧ e207 F 26 a b (mkH (hs l s d' tl') I1 J1) = some (v, mkH (hs l s d' tl') I2 J2) ∧ st n T els x N tx fl I2 J2 ∧ caS l s d' tl' ∧ okh (hs l s d' tl') ∧ cfm d d' 10 tl tl' I I1 J J1 ∧ xfr I1 I2 J1 J2 ∧ idK n (gA T) (pkQ n (gA T)) els d' I2 J2 ∧ exP n (gA T) els I2 J2 := by
  have hkp := h.2.1.2.2.1
  have hkm := h.2.2.2.2.1
  have hok := h.2.1.1.1
  have same : cfm d d 10 tl tl I I J J := ⟨Or.inl ⟨rfl, rfl⟩, fun _ _ _ _ => ⟨rfl, rfl⟩⟩
  rcases el_c els a with ⟨i, u, hu, rfl⟩ | ha
  · rcases el_c els b with ⟨w, y, hy, rfl⟩ | hb
    · have yb := (hkp.2.2.2.2 w y hy).2.2.1
      have ub := (hkp.2.2.2.2 i u hu).2.2.1
      have ybm := (hkm.2.2.2.2 w y hy).2.2.1
      have y20 := (hkp.2.2.2.2 w y hy).2.1
      have u20 := (hkp.2.2.2.2 i u hu).2.1
      have w40 := (kp_lt hkp hy).2
      have i40 := (kp_lt hkp hu).2
      obtain ⟨yc, yL, yl, _⟩ := kp_c hkp hy
      obtain ⟨uc, uL, ul, _⟩ := kp_c hkp hu
      by_cases h8 : y.length ≤ 8
      · have ec : e133 F 0 (nI i) (nI w) (mkH (hs l s d tl) I J) = if mc1 .lt (nI y.length - nI u.length) = true then m133_74 F (mkH (hs l s d tl) I J) else if mc1 .ne ((nI y.length - nI u.length) - (nI y.length - nI u.length) / 2 * 2) = true then (e135 F 0 (mkH (hs l s d tl) I J)).bind fun q21 => if q21.1 < q21.2.length then (rcv 0 q21.2 q21.1).bind fun u25 => (e5 F q21.1 (nI w) q21.2).bind fun q24 => if q24.1 < q24.2.length then (rcv 0 q24.2 q24.1).bind fun u28 => (e2 F q24.1 (nI i) (((nI y.length - nI u.length) - 1) / 2) q24.2).bind fun q27 => some (q27.1, q27.2) else none else none else m133_74 F (mkH (hs l s d tl) I J) := by
          show m133_0 F 0 _ _ _ = _
          unfold m133_0
          rw [gr0_2, Option.bind_some, rc8, Option.bind_some, eh1 hkp hu, Option.bind_some, if_neg (show ¬ mc1 .eq (nI 1) = true by decide), gr0_2, Option.bind_some, rc8, Option.bind_some, eh1 hkp hy, Option.bind_some, if_pos (show mc1 .ne (nI 1) = true by decide), gr0_2, Option.bind_some, gr8_3, Option.bind_some, rI10 (by omega), Option.bind_some, yb, if_pos (show mc2 .le (nI y.length) 8 = true by rw [c_8, c_le (by omega) (by omega)]; omega), Option.bind_some, gr8_3, Option.bind_some, rI10 (by omega), Option.bind_some, yb, Option.bind_some, gr8_3, Option.bind_some, rI10 (by omega), Option.bind_some, ub, rc0, Option.bind_some]
        have k1 := ln_lt2 y.length (by omega) u.length (by omega)
        -- the answer is 0
        have zero : e133 F 0 (nI i) (nI w) (mkH (hs l s d tl) I J) = m133_74 F (mkH (hs l s d tl) I J) → ¬ (y.length - u.length) % 2 = 1 → ∃ v d' tl' I1 J1 I2 J2, e133 F 0 (nI i) (nI w) (mkH (hs l s d tl) I J) = some (v, mkH (hs l s d' tl') I1 J1) ∧ e207 F 26 (nI i) (nI w) (mkH (hs l s d' tl') I1 J1) = some (v, mkH (hs l s d' tl') I2 J2) ∧ st n T els x N tx fl I2 J2 ∧ caS l s d' tl' ∧ okh (hs l s d' tl') ∧ cfm d d' 10 tl tl' I I1 J J1 ∧ xfr I1 I2 J1 J2 ∧ idK n (gA T) (pkQ n (gA T)) els d' I2 J2 ∧ exP n (gA T) els I2 J2 := by
          intro e0 hn
          obtain ⟨I2, J2, f, g1, g2, g3, g4, g5⟩ := lref_e (l := l) (s := s) (d := d) (tl := tl) (F := F) h.2.2.1 hkm hF hy h8 hx hu
          have m0 : mu n (gA T) f y u = 0 := by
            unfold mu
            rw [yl, ul, if_neg hn]
          rw [m0] at g1
          refine ⟨0, d, tl, I, J, I2, J2, e0, g1, st_x h g4, hS, ho, same, g4, idK_x hk (fun b' e => ?_) g4.2.2.2, g3⟩
          rcases hS.2.2 with e' | ⟨b'', e', h54, _⟩
          · rw [e'] at e
            cases e
          · rw [e'] at e
            cases e
            exact h54
        by_cases h1 : y.length < u.length
        · refine zero ?_ (by omega)
          rw [ec, if_pos (k1.mpr h1)]
        · have k2 := ln_od y.length (by omega) u.length (by omega) (by omega)
          by_cases h2 : (y.length - u.length) % 2 = 0
          · refine zero ?_ (by omega)
            rw [ec, if_neg (fun hh => h1 (k1.mp hh)), if_neg (fun hh => (k2.mp hh) h2)]
          · have k3 := ln_hf y.length (by omega) u.length (by omega) (by omega)
            rw [if_neg (fun hh => h1 (k1.mp hh)), if_pos (k2.mpr h2), k3] at ec
            obtain ⟨v, b0, tl', I0, I1, J0, J1, f1, f2, f3, f4, f5, f6, f7, f8, f9, f10⟩ := pnum_e (F := F) h.2.1.1 hkp hS ho hl hk hF hu hy h8 (fun W hA => pkQ_f hok yL yl h8 hA (kpm_le hp h8)) (nI ((y.length - u.length - 1) / 2))
            obtain ⟨H0, nd1, nd2, nd3, nd4⟩ := f1
            have st1 := st_54 h f9
            obtain ⟨I2, J2, f, g1, g2, g3, g4, g5⟩ := lref_e (l := l) (s := s) (d := .ref b0) (tl := tl') (F := F) st1.2.2.1 st1.2.2.2.2.1 hF hy h8 (exP_54 hx f9) hu
            have hv := pans_v hok yL yl h8 (kpm_le hp h8) uL (by omega) f5 g2
            have m1 : mu n (gA T) f y u = f u ((y.length - u.length - 1) / 2) := by
              unfold mu
              rw [yl, ul, if_pos (by omega)]
            rw [m1, ← hv] at g1
            refine ⟨v, .ref b0, tl', I1, J1, I2, J2, ?_, g1, st_x st1 g4, f6, f7, f8, g4, idK_x f10 (fun b' e => ?_) g4.2.2.2, g3⟩
            · rw [ec, nd1, Option.bind_some, if_pos nd2, nd3, Option.bind_some, nd4, Option.bind_some, if_pos f2, f3, Option.bind_some, f4, Option.bind_some]
            · rcases f6.2.2 with e' | ⟨b'', e', h54, _⟩
              · rw [e'] at e
                cases e
              · rw [e'] at e
                cases e
                exact h54
      · refine ⟨-1005, d, tl, I, J, I, J, ?_, ?_, h, hS, ho, same, xfr_rf I J, hk, hx⟩
        · show m133_0 F 0 _ _ _ = _
          unfold m133_0
          rw [gr0_2, Option.bind_some, rc8, Option.bind_some, eh1 hkp hu, Option.bind_some, if_neg (show ¬ mc1 .eq (nI 1) = true by decide), gr0_2, Option.bind_some, rc8, Option.bind_some, eh1 hkp hy, Option.bind_some, if_pos (show mc1 .ne (nI 1) = true by decide), gr0_2, Option.bind_some, gr8_3, Option.bind_some, rI10 (by omega), Option.bind_some, yb, if_neg (show ¬ mc2 .le (nI y.length) 8 = true by rw [c_8, c_le (by omega) (by omega)]; omega)]
        · show m207_0 F 26 _ _ _ = _
          unfold m207_0
          rw [rc26, Option.bind_some, ie1 hkm hu, Option.bind_some, if_neg (show ¬ mc1 .eq (nI 1) = true by decide), rc26, Option.bind_some, ie1 hkm hy, Option.bind_some, if_pos (show mc1 .ne (nI 1) = true by decide), gr26_17, Option.bind_some, rI34 (by omega), Option.bind_some, ybm, if_neg (show ¬ mc2 .le (nI y.length) 8 = true by rw [c_8, c_le (by omega) (by omega)]; omega)]
    · refine ⟨-1001, d, tl, I, J, I, J, ?_, ?_, h, hS, ho, same, xfr_rf I J, hk, hx⟩
      · show m133_0 F 0 _ _ _ = _
        unfold m133_0
        rw [gr0_2, Option.bind_some, rc8, Option.bind_some, eh1 hkp hu, Option.bind_some, if_neg (show ¬ mc1 .eq (nI 1) = true by decide), gr0_2, Option.bind_some, rc8, Option.bind_some, eh0 hkp hb, Option.bind_some, if_neg (show ¬ mc1 .ne (nI 0) = true by decide)]
        rfl
      · show m207_0 F 26 _ _ _ = _
        unfold m207_0
        rw [rc26, Option.bind_some, ie1 hkm hu, Option.bind_some, if_neg (show ¬ mc1 .eq (nI 1) = true by decide), rc26, Option.bind_some, ie0 hkm hb, Option.bind_some, if_neg (show ¬ mc1 .ne (nI 0) = true by decide)]
        rfl
  · refine ⟨-1001, d, tl, I, J, I, J, ?_, ?_, h, hS, ho, same, xfr_rf I J, hk, hx⟩
    · show m133_0 F 0 _ _ _ = _
      unfold m133_0
      rw [gr0_2, Option.bind_some, rc8, Option.bind_some, eh0 hkp ha, Option.bind_some, if_pos (show mc1 .eq (nI 0) = true by decide)]
      rfl
    · show m207_0 F 26 _ _ _ = _
      unfold m207_0
      rw [rc26, Option.bind_some, ie0 hkm ha, Option.bind_some, if_pos (show mc1 .eq (nI 0) = true by decide)]
      rfl
end S
