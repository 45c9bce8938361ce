/-! Calls of both: rough, where the numbers of P are in range. -/
theorem cnt_s (p : Nat → Bool) : ∀ m, ((((List.range m).filter p).length : Nat) : Int) = cx_sum m (fun i => if p i = true then 1 else 0) := by
  intro m
  induction m with
  | zero => rfl
  | succ m ih =>
    rw [List.range_succ, List.filter_append, List.length_append, Int.natCast_add, ih]
    show _ = cx_sum m (fun i => if p i = true then 1 else 0) + (if p m = true then 1 else 0)
    by_cases hp : p m = true
    · simp [hp]
    · simp [hp]
theorem cnt_l {W : List (List Nat)} {p : Nat → Bool} {P : List Nat → Prop} (h : ∀ (m : Nat) (z : List Nat), W[m]? = some z → (p m = true ↔ P z)) : ((((List.range W.length).filter p).length : Nat) : Int) = lsm (fun z => cii (P z) 1 0) W := by
  rw [cnt_s]
  refine cx_sum_eq (fun i hi => ?_)
  have := h i _ (gd_ex hi)
  by_cases hp : p i = true
  · rw [if_pos hp]
    exact (cii_p (this.mp hp)).symm
  · rw [if_neg hp]
    exact (cii_n (fun q => hp (this.mpr q))).symm
section S
variable {l s d : Value} {tl : List hQ} {F : Nat} {I : hI} {J : hJ} {n : Nat} {T : tT} {els : List (List Nat)} {x : List Nat} {N : Nat} {tx : Nat → Nat} {fl : Int32}
/-- rough -/
theorem op28 (h : st n T els x N tx fl I J) (hS : caS l s d tl) (ho : okh (hs l s d tl)) (hl : tl.length ≤ 100) (hk : idK n (gA T) (pkQ n (gA T)) els d I J) (hx : exP n (gA T) els I J) (hp : kpos n (gA T)) (hF : 9000 ≤ F) (a : Int32) : ∃ v d' tl' I1 J1 I2 J2, e134 F 0 a (mkH (hs l s d tl) I J) = some (v, mkH (hs l s d' tl') I1 J1) ∧ e208 F 26 a (mkH (hs l s d' tl') I1 J1) = some (v, mkH (hs l s d' tl') I2 J2) ∧ st n T els x N tx fl I2 J2 ∧ caS l s d' tl' ∧ okh (hs l s d' tl') ∧ cfm d d' 10 tl tl' I I1 J J1 ∧ xfr I1 I2 J1 J2 ∧ idK n (gA T) (pkQ n (gA T)) els d' I2 J2 ∧ exP n (gA T) els I2 J2 := by
  have hkp := h.2.1.2.2.1
  have hkm := h.2.2.2.2.1
  have hok := h.2.1.1.1
  have same : cfm d d 10 tl tl I I J J := ⟨Or.inl ⟨rfl, rfl⟩, fun _ _ _ _ => ⟨rfl, rfl⟩⟩
  rcases el_c els a with ⟨w, y, hy, rfl⟩ | ha
  · have yb := (hkp.2.2.2.2 w y hy).2.2.1
    have ybm := (hkm.2.2.2.2 w y hy).2.2.1
    have y20 := (hkp.2.2.2.2 w y hy).2.1
    have w40 := (kp_lt hkp hy).2
    obtain ⟨yc, yL, yl, _⟩ := kp_c hkp hy
    have ec : e134 F 0 (nI w) (mkH (hs l s d tl) I J) = if mc2 .le (nI y.length) 8 = true then (e135 F 0 (mkH (hs l s d tl) I J)).bind fun q9 => if q9.1 < q9.2.length then (rcv 0 q9.2 q9.1).bind fun u13 => (e5 F q9.1 (nI w) q9.2).bind fun q12 => if q12.1 < q12.2.length then (rcv 0 q12.2 q12.1).bind fun u16 => (e3 F q12.1 q12.2).bind fun q15 => some (q15.1, q15.2) else none else none else some ((-1005), (mkH (hs l s d tl) I J)) := by
      show m134_0 F 0 _ _ = _
      unfold m134_0
      rw [gr0_2, Option.bind_some, rc8, Option.bind_some, eh1 hkp hy, Option.bind_some, if_pos (show mc1 .ne (nI 1) = true by decide), gr0_2, Option.bind_some, gr8_3, Option.bind_some, rI10 (by omega), Option.bind_some, yb, rc0, Option.bind_some]
    by_cases h8 : y.length ≤ 8
    · obtain ⟨v, b0, tl', I1, J1, f1, f2, f3, f4, f5, f6, f7, f8, f9, f10⟩ := prou_e (F := F) h.2.1.1 hkp hS ho hl hk hF hy h8 (fun W hA => pkQ_f hok yL yl h8 hA (kpm_le hp h8))
      obtain ⟨H0, nd1, nd2, nd3, nd4⟩ := f1
      have st1 := st_54 h f9
      obtain ⟨I2, J2, f, W, p, g1, g2, g3, g4, g5, g6, g7⟩ := rref_e (l := l) (s := s) (d := .ref b0) (tl := tl') (F := F) st1.2.2.1 st1.2.2.2.2.1 hF hy (kpm_le hp h8) h8 (exP_54 hx f9)
      obtain ⟨W', q1, p', rfl, q3⟩ := rans_v hok yL yl h8 (kpm_le hp h8) f5 g2
      have e1 := cnt_l q3
      have e2 := cnt_l g7
      have e3 : lsm (fun z => cii (¬ ∀ k, f z k = if k = 0 then 1 else 0) 1 0) W' = lsm (fun z => cii (¬ ∀ k, f z k = if k = 0 then 1 else 0) 1 0) W := lsm_eq (n := n) (A := gA T) (fun u v e => by rw [g2.1 u v e]) (bqA_idl hok yL yl q1) (bqA_idl hok yL yl g6)
      have e4 : ((List.range W'.length).filter p').length = ((List.range W.length).filter p).length := by
        have := (e1.trans e3).trans e2.symm
        omega
      rw [← e4] at g1
      refine ⟨_, .ref b0, tl', I1, J1, I2, J2, ?_, g1, st_x st1 g4, f6, f7, f8, g4, idK_x f10 (fun b' e => ?_) g4.2.2.2, g3⟩
      · rw [ec, if_pos (show mc2 .le (nI y.length) 8 = true by rw [c_8, c_le (by omega) (by omega)]; omega), nd1, Option.bind_some, if_pos nd2, nd3, Option.bind_some, nd4, Option.bind_some, if_pos f2, f3, Option.bind_some, f4, Option.bind_some]
      · rcases f6.2.2 with e' | ⟨b'', e', h54, _⟩
        · rw [e'] at e
          cases e
        · rw [e'] at e
          cases e
          exact h54
    · refine ⟨-1005, d, tl, I, J, I, J, ?_, ?_, h, hS, ho, same, xfr_rf I J, hk, hx⟩
      · rw [ec, if_neg (show ¬ mc2 .le (nI y.length) 8 = true by rw [c_8, c_le (by omega) (by omega)]; omega)]
      · show m208_0 F 26 _ _ = _
        unfold m208_0
        rw [rc26, Option.bind_some, ie1 hkm hy, Option.bind_some, if_pos (show mc1 .ne (nI 1) = true by decide), gr26_17, Option.bind_some, rI34 (by omega), Option.bind_some, ybm, if_neg (show ¬ mc2 .le (nI y.length) 8 = true by rw [c_8, c_le (by omega) (by omega)]; omega)]
  · refine ⟨-1001, d, tl, I, J, I, J, ?_, ?_, h, hS, ho, same, xfr_rf I J, hk, hx⟩
    · show m134_0 F 0 _ _ = _
      unfold m134_0
      rw [gr0_2, Option.bind_some, rc8, Option.bind_some, eh0 hkp ha, Option.bind_some, if_neg (show ¬ mc1 .ne (nI 0) = true by decide)]
    · show m208_0 F 26 _ _ = _
      unfold m208_0
      rw [rc26, Option.bind_some, ie0 hkm ha, Option.bind_some, if_neg (show ¬ mc1 .ne (nI 0) = true by decide)]
end S
