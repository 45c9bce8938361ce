/-! p, leans, rough without asking for the range of the numbers: both answer; the answers are one where kpos holds. -/
def kpW (n : Nat) (A : Nat → Nat → Int) (W : List (List Nat)) : Prop := ∃ m, kpm n A m ∧ ∀ (i : Nat) (x : List Nat), W[i]? = some x → cx_l n A x ≤ m
def qc (n : Nat) (A : Nat → Nat → Int) (W : List (List Nat)) (i : Nat) (R : Nat → Int64) : Prop := kpW n A W → pkQ n A W i R
/-- the numbers of P of all elements that are kept are in range -/
def kpE (n : Nat) (A : Nat → Nat → Int) (els : List (List Nat)) : Prop := ∀ (w : Nat) (y : List Nat), els[w]? = some y → y.length ≤ 8 → kpm n A y.length
section S
variable {n : Nat} {A : Nat → Nat → Int} {y u : List Nat} {W : List (List Nat)}
theorem qc_f (hok : cx_ok n A) (yL : cx_L n y) (yl : cx_l n A y = y.length) (y8 : y.length ≤ 8) (hA : bqA n A y W) : filQ n A W (qc n A W) := by
  by_cases hp : kpW n A W
  · have e : qc n A W = pkQ n A W := by
      funext i R
      exact propext ⟨fun h => h hp, fun h _ => h⟩
    rw [e]
    obtain ⟨m, hm, hW⟩ := hp
    obtain ⟨i, x, hx, hg⟩ := hA.2.2.2 y (List.Sublist.refl _)
    have l1 := hW i x hx
    have l2 := cx_l_eq hg
    exact pkQ_f hok yL yl y8 hA (fun w f a b => hm w f a (by omega))
  · exact ⟨fun _ _ _ _ _ h => absurd h hp, fun _ _ _ _ _ _ h => absurd h hp, fun _ _ _ _ _ _ _ _ _ _ _ _ _ _ _ h => absurd h hp⟩
theorem kpW_of (hok : cx_ok n A) (yL : cx_L n y) (yl : cx_l n A y = y.length) (hp : kpm n A y.length) (hA : bqA n A y W) : kpW n A W := by
  have hI := bqA_idl hok yL yl hA
  refine ⟨y.length, hp, fun i x hx => ?_⟩
  have := (sbe_l yL (hI.2.1 i x hx).1 (hI.2.1 i x hx).2).1
  omega
theorem pAns_q (hok : cx_ok n A) (yL : cx_L n y) (yl : cx_l n A y = y.length) (hp : kpm n A y.length) {k v : Int32} (h : pAns n A (qc n A) u y k v) : pAns n A (pkQ n A) u y k v := by
  obtain ⟨W, top, x, R, hA, hx, hg, hq, hv⟩ := h
  exact ⟨W, top, x, R, hA, hx, hg, hq (kpW_of hok yL yl hp hA), hv⟩
theorem rAns_q (hok : cx_ok n A) (yL : cx_L n y) (yl : cx_l n A y = y.length) (hp : kpm n A y.length) {v : Int32} (h : rAns n A (qc n A) y v) : rAns n A (pkQ n A) y v := by
  obtain ⟨W, top, x, R, hA, hx, hg, hq, hv⟩ := h
  exact ⟨W, top, x, R, hA, hx, hg, hq (kpW_of hok yL yl hp hA), hv⟩
end S
section S
variable {l s d : Value} {tl : List hQ} {F : Nat} {I : hI} {J : hJ} {n : Nat} {A : Nat → Nat → Int} {y u : List Nat} {els W : List (List Nat)} {f : List Nat → Nat → Int}
theorem rin_s (hF : 9000 ≤ F) {i : Nat} (hi : i < 256) (c e0 : Int32) {rc : Nat → Int32 → Int32 → List mE → Option (Int32 × List mE)} : ∃ c' : Int32, m208_62 F rc 26 c (nI i) e0 (mkH (hs l s d tl) I J) = rc 26 c' (nI (i + 1)) (mkH (hs l s d tl) I J) := by
  refine lpc (σ := Int32) (R := Option (Int32 × List mE)) (fun f k e => m208_67 F rc f 26 c (nI i) e (nI k) (mkH (hs l s d tl) I J)) 9 (fun _ _ => True) (fun r => ∃ c' : Int32, r = rc 26 c' (nI (i + 1)) (mkH (hs l s d tl) I J)) ?_ ?_ F 1 e0 (by omega) (by omega) trivial
  · intro f e _
    show ∃ c' : Int32, m208_67 F rc (f + 1) 26 c (nI i) e (nI 9) (mkH (hs l s d tl) I J) = _
    rw [m208_67, if_pos (show mc2 .ge (nI 9) 9 = true by decide)]
    by_cases he : mc1 .eq e = true
    · rw [if_pos he]
      unfold m208_118
      rw [n_1, nI_add]
      exact ⟨_, rfl⟩
    · rw [if_neg he]
      unfold m208_118
      rw [n_1, nI_add]
      exact ⟨_, rfl⟩
  · intro f k e hk _
    right
    show ∃ y : Int32, m208_67 F rc (f + 1) 26 c (nI i) e (nI k) (mkH (hs l s d tl) I J) = m208_67 F rc f 26 c (nI i) y (nI (k + 1)) (mkH (hs l s d tl) I J) ∧ True
    rw [m208_67, if_neg (show ¬ mc2 .ge (nI k) 9 = true by rw [n_9, c_ge (by omega) (by omega)]; omega)]
    by_cases he : mc1 .eq e = true
    · rw [if_pos he]
      unfold m208_98 m208_99
      rw [n_1, nI_add]
      exact ⟨_, rfl, trivial⟩
    · rw [if_neg he, gr26_39, Option.bind_some, n_9, pk_mul, nI_add, rI52 (by omega), Option.bind_some]
      by_cases hz : mc1 .ne (I 52 (9 * i + k)) = true
      · rw [if_pos hz]
        unfold m208_98 m208_99
        rw [n_1, nI_add]
        exact ⟨_, rfl, trivial⟩
      · rw [if_neg hz]
        unfold m208_99
        rw [n_1, nI_add]
        exact ⟨_, rfl, trivial⟩
theorem rref_s (hM : mo_n n A I) (hk : km n A els I) (hF : 9000 ≤ F) {w : Nat} (hy : els[w]? = some y) (h8 : y.length ≤ 8) (hx : exP n A els I J) : ∃ (v : Int32) (I' : hI) (J' : hJ), e208 F 26 (nI w) (mkH (hs l s d tl) I J) = some (v, (mkH (hs l s d tl) I' J')) ∧ exP n A els I' J' ∧ xfr I I' J J' := by
  obtain ⟨yc, yL, yl, y20, w40, yb⟩ := km_c hk hy
  obtain ⟨I1, J1, W, f, e1, q1, q2, q3⟩ := fp_e (l := l) (s := s) (d := d) (tl := tl) (F := F) hM hk hF hy h8 hx
  have hW := q1.1.2.1
  have pre : e208 F 26 (nI w) (mkH (hs l s d tl) I J) = m208_36 F F 26 (nI 0) (nI 0) (mkH (hs l s d tl) I1 J1) := by
    show m208_0 F 26 _ _ = _
    unfold m208_0
    rw [rc26, Option.bind_some, ie1 hk hy, Option.bind_some, if_pos (show mc1 .ne (nI 1) = true by decide), gr26_17, Option.bind_some, rI34 (by omega), Option.bind_some, yb.1, if_pos (show mc2 .le (nI y.length) 8 = true by rw [c_8, c_le (by omega) (by omega)]; omega), rc26, Option.bind_some, e1, Option.bind_some]
    rfl
  have i31 : I1 26 31 = nI W.length := q1.1.2.2.1.2.2
  have run : ∃ v : Int32, m208_36 F F 26 (nI 0) (nI 0) (mkH (hs l s d tl) I1 J1) = some (v, (mkH (hs l s d tl) I1 J1)) := by
    refine lpc (σ := Int32) (R := Option (Int32 × List mE)) (fun g m c => m208_36 F g 26 c (nI m) (mkH (hs l s d tl) I1 J1)) W.length (fun _ _ => True) (fun r => ∃ v : Int32, r = some (v, (mkH (hs l s d tl) I1 J1))) ?_ ?_ F 0 (nI 0) (by omega) (by omega) trivial
    · intro g c _
      show ∃ v : Int32, m208_36 F (g + 1) 26 c (nI W.length) (mkH (hs l s d tl) I1 J1) = _
      rw [m208_36, gi26_31, Option.bind_some, i31, if_pos (show mc2 .ge (nI W.length) (nI W.length) = true by rw [c_ge (by omega) (by omega)]; omega)]
      exact ⟨_, rfl⟩
    · intro g m c hm _
      right
      show ∃ z : Int32, m208_36 F (g + 1) 26 c (nI m) (mkH (hs l s d tl) I1 J1) = m208_36 F g 26 z (nI (m + 1)) (mkH (hs l s d tl) I1 J1) ∧ True
      rw [m208_36, gi26_31, Option.bind_some, i31, if_neg (show ¬ mc2 .ge (nI m) (nI W.length) = true by rw [c_ge (by omega) (by omega)]; omega), gr26_39, Option.bind_some, n_9, pk_mul, rI52 (by omega), Option.bind_some]
      by_cases hz : mc2 .ne (I1 52 (9 * m)) 1 = true
      · rw [if_pos hz]
        obtain ⟨c', e⟩ := rin_s (l := l) (s := s) (d := d) (tl := tl) (F := F) (I := I1) (J := J1) hF (show m < 256 by omega) c 0 (rc := m208_36 F g)
        exact ⟨c', e, trivial⟩
      · rw [if_neg hz]
        obtain ⟨c', e⟩ := rin_s (l := l) (s := s) (d := d) (tl := tl) (F := F) (I := I1) (J := J1) hF (show m < 256 by omega) c 1 (rc := m208_36 F g)
        exact ⟨c', e, trivial⟩
  obtain ⟨v, e2⟩ := run
  exact ⟨v, I1, J1, pre.trans e2, Or.inr ⟨w, y, W, f, hy, h8, q2, q1⟩, q3⟩
end S
section S
variable {l s d : Value} {tl : List hQ} {F : Nat} {I : hI} {J : hJ} {n : Nat} {T : tT} {els : List (List Nat)} {x : List Nat} {N : Nat} {tx : Nat → Nat} {fl : Int32}
theorem op26u (h : st n T els x N tx fl I J) (hS : caS l s d tl) (ho : okh (hs l s d tl)) (hl : tl.length ≤ 100) (hk : idK n (gA T) (qc n (gA T)) els d I J) (hx : exP n (gA T) els I J) (hF : 9000 ≤ F) (a b c : Int32) : ∃ v v' d' tl' I1 J1 I2 J2, (kpE n (gA T) els → v = v') ∧ e132 F 0 a b c (mkH (hs l s d tl) I J) = some (v, mkH (hs l s d' tl') I1 J1) ∧ e206 F 26 a b c (mkH (hs l s d' tl') I1 J1) = some (v', mkH (hs l s d' tl') I2 J2) ∧ st n T els x N tx fl I2 J2 ∧ caS l s d' tl' ∧ okh (hs l s d' tl') ∧ cfm d d' 10 tl tl' I I1 J J1 ∧ xfr I1 I2 J1 J2 ∧ idK n (gA T) (qc n (gA T)) els d' I2 J2 ∧ exP n (gA T) els I2 J2 := by
  have hkp := h.2.1.2.2.1
  have hkm := h.2.2.2.2.1
  have hok := h.2.1.1.1
  have same : cfm d d 10 tl tl I I J J := ⟨Or.inl ⟨rfl, rfl⟩, fun _ _ _ _ => ⟨rfl, rfl⟩⟩
  rcases el_c els a with ⟨i, u, hu, rfl⟩ | ha
  · rcases el_c els b with ⟨w, y, hy, rfl⟩ | hb
    · have yb := (hkp.2.2.2.2 w y hy).2.2.1
      have ybm := (hkm.2.2.2.2 w y hy).2.2.1
      have y20 := (hkp.2.2.2.2 w y hy).2.1
      have w40 := (kp_lt hkp hy).2
      rcases ge0_c c with ⟨k, hk31, rfl⟩ | hc
      · have ec : e132 F 0 (nI i) (nI w) (nI k) (mkH (hs l s d tl) I J) = if mc2 .le (nI y.length) 8 = true then (e135 F 0 (mkH (hs l s d tl) I J)).bind fun q14 => if q14.1 < q14.2.length then (rcv 0 q14.2 q14.1).bind fun u18 => (e5 F q14.1 (nI w) q14.2).bind fun q17 => if q17.1 < q17.2.length then (rcv 0 q17.2 q17.1).bind fun u21 => (e2 F q17.1 (nI i) (nI k) q17.2).bind fun q20 => some (q20.1, q20.2) else none else none else some ((-1005), (mkH (hs l s d tl) I J)) := by
          show m132_0 F 0 _ _ _ _ = _
          unfold m132_0
          rw [gr0_2, Option.bind_some, rc8, Option.bind_some, eh1 hkp hu, Option.bind_some, if_neg (show ¬ mc1 .eq (nI 1) = true by decide), gr0_2, Option.bind_some, rc8, Option.bind_some, eh1 hkp hy, Option.bind_some, if_pos (show mc1 .ne (nI 1) = true by decide), if_pos (show mc1 .ge (nI k) = true by rw [d_ge hk31]; trivial), gr0_2, Option.bind_some, gr8_3, Option.bind_some, rI10 (by omega), Option.bind_some, yb, rc0, Option.bind_some]
        by_cases h8 : y.length ≤ 8
        · obtain ⟨yc, yL, yl, _⟩ := kp_c hkp hy
          obtain ⟨uc, uL, ul, _⟩ := kp_c hkp hu
          obtain ⟨v, b0, tl', I0, I1, J0, J1, f1, f2, f3, f4, f5, f6, f7, f8, f9, f10⟩ := pnum_e (F := F) h.2.1.1 hkp hS ho hl hk hF hu hy h8 (fun W hA => qc_f hok yL yl h8 hA) (nI k)
          obtain ⟨H0, nd1, nd2, nd3, nd4⟩ := f1
          have st1 := st_54 h f9
          obtain ⟨I2, J2, f, g1, g2, g3, g4, g5⟩ := pref_e (l := l) (s := s) (d := .ref b0) (tl := tl') (F := F) st1.2.2.1 st1.2.2.2.2.1 hF hy h8 (exP_54 hx f9) hu hk31
          have hv : kpE n (gA T) els → v = zI (f u k) := fun hp => pans_v hok yL yl h8 (hp w y hy h8) uL hk31 (pAns_q hok yL yl (hp w y hy h8) f5) g2
          refine ⟨v, zI (f u k), .ref b0, tl', I1, J1, I2, J2, hv, ?_, g1, st_x st1 g4, f6, f7, f8, g4, idK_x f10 (fun b' e => ?_) g4.2.2.2, g3⟩
          · rw [ec, if_pos (show mc2 .le (nI y.length) 8 = true by rw [c_8, c_le (by omega) (by omega)]; omega), nd1, Option.bind_some, if_pos nd2, nd3, Option.bind_some, nd4, Option.bind_some, if_pos f2, f3, Option.bind_some, f4, Option.bind_some]
          · rcases f6.2.2 with e' | ⟨b'', e', h54, _⟩
            · rw [e'] at e
              cases e
            · rw [e'] at e
              cases e
              exact h54
        · refine ⟨-1005, -1005, d, tl, I, J, I, J, fun _ => rfl, ?_, ?_, h, hS, ho, same, xfr_rf I J, hk, hx⟩
          · rw [ec, if_neg (show ¬ mc2 .le (nI y.length) 8 = true by rw [c_8, c_le (by omega) (by omega)]; omega)]
          · show m206_0 F 26 _ _ _ _ = _
            unfold m206_0
            rw [rc26, Option.bind_some, ie1 hkm hu, Option.bind_some, if_neg (show ¬ mc1 .eq (nI 1) = true by decide), rc26, Option.bind_some, ie1 hkm hy, Option.bind_some, if_pos (show mc1 .ne (nI 1) = true by decide), if_pos (show mc1 .ge (nI k) = true by rw [d_ge hk31]; trivial), gr26_17, Option.bind_some, rI34 (by omega), Option.bind_some, ybm, if_neg (show ¬ mc2 .le (nI y.length) 8 = true by rw [c_8, c_le (by omega) (by omega)]; omega)]
      · have hc' : ¬ mc1 .ge c = true := by
          unfold mc1
          rw [decide_eq_true_eq]
          exact Int32.not_le.mpr hc
        refine ⟨-1002, -1002, d, tl, I, J, I, J, fun _ => rfl, ?_, ?_, h, hS, ho, same, xfr_rf I J, hk, hx⟩
        · show m132_0 F 0 _ _ _ _ = _
          unfold m132_0
          rw [gr0_2, Option.bind_some, rc8, Option.bind_some, eh1 hkp hu, Option.bind_some, if_neg (show ¬ mc1 .eq (nI 1) = true by decide), gr0_2, Option.bind_some, rc8, Option.bind_some, eh1 hkp hy, Option.bind_some, if_pos (show mc1 .ne (nI 1) = true by decide), if_neg hc']
        · show m206_0 F 26 _ _ _ _ = _
          unfold m206_0
          rw [rc26, Option.bind_some, ie1 hkm hu, Option.bind_some, if_neg (show ¬ mc1 .eq (nI 1) = true by decide), rc26, Option.bind_some, ie1 hkm hy, Option.bind_some, if_pos (show mc1 .ne (nI 1) = true by decide), if_neg hc']
    · refine ⟨-1001, -1001, d, tl, I, J, I, J, fun _ => rfl, ?_, ?_, h, hS, ho, same, xfr_rf I J, hk, hx⟩
      · show m132_0 F 0 _ _ _ _ = _
        unfold m132_0
        rw [gr0_2, Option.bind_some, rc8, Option.bind_some, eh1 hkp hu, Option.bind_some, if_neg (show ¬ mc1 .eq (nI 1) = true by decide), gr0_2, Option.bind_some, rc8, Option.bind_some, eh0 hkp hb, Option.bind_some, if_neg (show ¬ mc1 .ne (nI 0) = true by decide)]
        rfl
      · show m206_0 F 26 _ _ _ _ = _
        unfold m206_0
        rw [rc26, Option.bind_some, ie1 hkm hu, Option.bind_some, if_neg (show ¬ mc1 .eq (nI 1) = true by decide), rc26, Option.bind_some, ie0 hkm hb, Option.bind_some, if_neg (show ¬ mc1 .ne (nI 0) = true by decide)]
        rfl
  · refine ⟨-1001, -1001, d, tl, I, J, I, J, fun _ => rfl, ?_, ?_, h, hS, ho, same, xfr_rf I J, hk, hx⟩
    · show m132_0 F 0 _ _ _ _ = _
      unfold m132_0
      rw [gr0_2, Option.bind_some, rc8, Option.bind_some, eh0 hkp ha, Option.bind_some, if_pos (show mc1 .eq (nI 0) = true by decide)]
      rfl
    · show m206_0 F 26 _ _ _ _ = _
      unfold m206_0
      rw [rc26, Option.bind_some, ie0 hkm ha, Option.bind_some, if_pos (show mc1 .eq (nI 0) = true by decide)]
      rfl
theorem op27u (h : st n T els x N tx fl I J) (hS : caS l s d tl) (ho : okh (hs l s d tl)) (hl : tl.length ≤ 100) (hk : idK n (gA T) (qc n (gA T)) els d I J) (hx : exP n (gA T) els I J) (hF : 9000 ≤ F) (a b : Int32) : ∃ v v' d' tl' I1 J1 I2 J2, (kpE n (gA T) els → v = v') ∧ e133 F 0 a b (mkH (hs l s d tl) I J) = some (v, mkH (hs l s d' tl') I1 J1) ∧ e207 F 26 a b (mkH (hs l s d' tl') I1 J1) = some (v', mkH (hs l s d' tl') I2 J2) ∧ st n T els x N tx fl I2 J2 ∧ caS l s d' tl' ∧ okh (hs l s d' tl') ∧ cfm d d' 10 tl tl' I I1 J J1 ∧ xfr I1 I2 J1 J2 ∧ idK n (gA T) (qc n (gA T)) els d' I2 J2 ∧ exP n (gA T) els I2 J2 := by
  have hkp := h.2.1.2.2.1
  have hkm := h.2.2.2.2.1
  have hok := h.2.1.1.1
  have same : cfm d d 10 tl tl I I J J := ⟨Or.inl ⟨rfl, rfl⟩, fun _ _ _ _ => ⟨rfl, rfl⟩⟩
  rcases el_c els a with ⟨i, u, hu, rfl⟩ | ha
  · rcases el_c els b with ⟨w, y, hy, rfl⟩ | hb
    · have yb := (hkp.2.2.2.2 w y hy).2.2.1
      have ub := (hkp.2.2.2.2 i u hu).2.2.1
      have ybm := (hkm.2.2.2.2 w y hy).2.2.1
      have y20 := (hkp.2.2.2.2 w y hy).2.1
      have u20 := (hkp.2.2.2.2 i u hu).2.1
      have w40 := (kp_lt hkp hy).2
      have i40 := (kp_lt hkp hu).2
      obtain ⟨yc, yL, yl, _⟩ := kp_c hkp hy
      obtain ⟨uc, uL, ul, _⟩ := kp_c hkp hu
      by_cases h8 : y.length ≤ 8
      · have ec : e133 F 0 (nI i) (nI w) (mkH (hs l s d tl) I J) = if mc1 .lt (nI y.length - nI u.length) = true then m133_74 F (mkH (hs l s d tl) I J) else if mc1 .ne ((nI y.length - nI u.length) - (nI y.length - nI u.length) / 2 * 2) = true then (e135 F 0 (mkH (hs l s d tl) I J)).bind fun q21 => if q21.1 < q21.2.length then (rcv 0 q21.2 q21.1).bind fun u25 => (e5 F q21.1 (nI w) q21.2).bind fun q24 => if q24.1 < q24.2.length then (rcv 0 q24.2 q24.1).bind fun u28 => (e2 F q24.1 (nI i) (((nI y.length - nI u.length) - 1) / 2) q24.2).bind fun q27 => some (q27.1, q27.2) else none else none else m133_74 F (mkH (hs l s d tl) I J) := by
          show m133_0 F 0 _ _ _ = _
          unfold m133_0
          rw [gr0_2, Option.bind_some, rc8, Option.bind_some, eh1 hkp hu, Option.bind_some, if_neg (show ¬ mc1 .eq (nI 1) = true by decide), gr0_2, Option.bind_some, rc8, Option.bind_some, eh1 hkp hy, Option.bind_some, if_pos (show mc1 .ne (nI 1) = true by decide), gr0_2, Option.bind_some, gr8_3, Option.bind_some, rI10 (by omega), Option.bind_some, yb, if_pos (show mc2 .le (nI y.length) 8 = true by rw [c_8, c_le (by omega) (by omega)]; omega), Option.bind_some, gr8_3, Option.bind_some, rI10 (by omega), Option.bind_some, yb, Option.bind_some, gr8_3, Option.bind_some, rI10 (by omega), Option.bind_some, ub, rc0, Option.bind_some]
        have k1 := ln_lt2 y.length (by omega) u.length (by omega)
        -- the answer is 0
        have zero : e133 F 0 (nI i) (nI w) (mkH (hs l s d tl) I J) = m133_74 F (mkH (hs l s d tl) I J) → ¬ (y.length - u.length) % 2 = 1 → ∃ v v' d' tl' I1 J1 I2 J2, (kpE n (gA T) els → v = v') ∧ e133 F 0 (nI i) (nI w) (mkH (hs l s d tl) I J) = some (v, mkH (hs l s d' tl') I1 J1) ∧ e207 F 26 (nI i) (nI w) (mkH (hs l s d' tl') I1 J1) = some (v', mkH (hs l s d' tl') I2 J2) ∧ st n T els x N tx fl I2 J2 ∧ caS l s d' tl' ∧ okh (hs l s d' tl') ∧ cfm d d' 10 tl tl' I I1 J J1 ∧ xfr I1 I2 J1 J2 ∧ idK n (gA T) (qc n (gA T)) els d' I2 J2 ∧ exP n (gA T) els I2 J2 := by
          intro e0 hn
          obtain ⟨I2, J2, f, g1, g2, g3, g4, g5⟩ := lref_e (l := l) (s := s) (d := d) (tl := tl) (F := F) h.2.2.1 hkm hF hy h8 hx hu
          have m0 : mu n (gA T) f y u = 0 := by
            unfold mu
            rw [yl, ul, if_neg hn]
          rw [m0] at g1
          refine ⟨0, 0, d, tl, I, J, I2, J2, fun _ => rfl, e0, g1, st_x h g4, hS, ho, same, g4, idK_x hk (fun b' e => ?_) g4.2.2.2, g3⟩
          rcases hS.2.2 with e' | ⟨b'', e', h54, _⟩
          · rw [e'] at e
            cases e
          · rw [e'] at e
            cases e
            exact h54
        by_cases h1 : y.length < u.length
        · refine zero ?_ (by omega)
          rw [ec, if_pos (k1.mpr h1)]
        · have k2 := ln_od y.length (by omega) u.length (by omega) (by omega)
          by_cases h2 : (y.length - u.length) % 2 = 0
          · refine zero ?_ (by omega)
            rw [ec, if_neg (fun hh => h1 (k1.mp hh)), if_neg (fun hh => (k2.mp hh) h2)]
          · have k3 := ln_hf y.length (by omega) u.length (by omega) (by omega)
            rw [if_neg (fun hh => h1 (k1.mp hh)), if_pos (k2.mpr h2), k3] at ec
            obtain ⟨v, b0, tl', I0, I1, J0, J1, f1, f2, f3, f4, f5, f6, f7, f8, f9, f10⟩ := pnum_e (F := F) h.2.1.1 hkp hS ho hl hk hF hu hy h8 (fun W hA => qc_f hok yL yl h8 hA) (nI ((y.length - u.length - 1) / 2))
            obtain ⟨H0, nd1, nd2, nd3, nd4⟩ := f1
            have st1 := st_54 h f9
            obtain ⟨I2, J2, f, g1, g2, g3, g4, g5⟩ := lref_e (l := l) (s := s) (d := .ref b0) (tl := tl') (F := F) st1.2.2.1 st1.2.2.2.2.1 hF hy h8 (exP_54 hx f9) hu
            have hv : kpE n (gA T) els → v = zI (f u ((y.length - u.length - 1) / 2)) := fun hp => pans_v hok yL yl h8 (hp w y hy h8) uL (by omega) (pAns_q hok yL yl (hp w y hy h8) f5) g2
            have m1 : mu n (gA T) f y u = f u ((y.length - u.length - 1) / 2) := by
              unfold mu
              rw [yl, ul, if_pos (by omega)]
            rw [m1] at g1
            refine ⟨v, zI (f u ((y.length - u.length - 1) / 2)), .ref b0, tl', I1, J1, I2, J2, hv, ?_, g1, st_x st1 g4, f6, f7, f8, g4, idK_x f10 (fun b' e => ?_) g4.2.2.2, g3⟩
            · rw [ec, nd1, Option.bind_some, if_pos nd2, nd3, Option.bind_some, nd4, Option.bind_some, if_pos f2, f3, Option.bind_some, f4, Option.bind_some]
            · rcases f6.2.2 with e' | ⟨b'', e', h54, _⟩
              · rw [e'] at e
                cases e
              · rw [e'] at e
                cases e
                exact h54
      · refine ⟨-1005, -1005, d, tl, I, J, I, J, fun _ => rfl, ?_, ?_, h, hS, ho, same, xfr_rf I J, hk, hx⟩
        · show m133_0 F 0 _ _ _ = _
          unfold m133_0
          rw [gr0_2, Option.bind_some, rc8, Option.bind_some, eh1 hkp hu, Option.bind_some, if_neg (show ¬ mc1 .eq (nI 1) = true by decide), gr0_2, Option.bind_some, rc8, Option.bind_some, eh1 hkp hy, Option.bind_some, if_pos (show mc1 .ne (nI 1) = true by decide), gr0_2, Option.bind_some, gr8_3, Option.bind_some, rI10 (by omega), Option.bind_some, yb, if_neg (show ¬ mc2 .le (nI y.length) 8 = true by rw [c_8, c_le (by omega) (by omega)]; omega)]
        · show m207_0 F 26 _ _ _ = _
          unfold m207_0
          rw [rc26, Option.bind_some, ie1 hkm hu, Option.bind_some, if_neg (show ¬ mc1 .eq (nI 1) = true by decide), rc26, Option.bind_some, ie1 hkm hy, Option.bind_some, if_pos (show mc1 .ne (nI 1) = true by decide), gr26_17, Option.bind_some, rI34 (by omega), Option.bind_some, ybm, if_neg (show ¬ mc2 .le (nI y.length) 8 = true by rw [c_8, c_le (by omega) (by omega)]; omega)]
    · refine ⟨-1001, -1001, d, tl, I, J, I, J, fun _ => rfl, ?_, ?_, h, hS, ho, same, xfr_rf I J, hk, hx⟩
      · show m133_0 F 0 _ _ _ = _
        unfold m133_0
        rw [gr0_2, Option.bind_some, rc8, Option.bind_some, eh1 hkp hu, Option.bind_some, if_neg (show ¬ mc1 .eq (nI 1) = true by decide), gr0_2, Option.bind_some, rc8, Option.bind_some, eh0 hkp hb, Option.bind_some, if_neg (show ¬ mc1 .ne (nI 0) = true by decide)]
        rfl
      · show m207_0 F 26 _ _ _ = _
        unfold m207_0
        rw [rc26, Option.bind_some, ie1 hkm hu, Option.bind_some, if_neg (show ¬ mc1 .eq (nI 1) = true by decide), rc26, Option.bind_some, ie0 hkm hb, Option.bind_some, if_neg (show ¬ mc1 .ne (nI 0) = true by decide)]
        rfl
  · refine ⟨-1001, -1001, d, tl, I, J, I, J, fun _ => rfl, ?_, ?_, h, hS, ho, same, xfr_rf I J, hk, hx⟩
    · show m133_0 F 0 _ _ _ = _
      unfold m133_0
      rw [gr0_2, Option.bind_some, rc8, Option.bind_some, eh0 hkp ha, Option.bind_some, if_pos (show mc1 .eq (nI 0) = true by decide)]
      rfl
    · show m207_0 F 26 _ _ _ = _
      unfold m207_0
      rw [rc26, Option.bind_some, ie0 hkm ha, Option.bind_some, if_pos (show mc1 .eq (nI 0) = true by decide)]
      rfl
theorem op28u (h : st n T els x N tx fl I J) (hS : caS l s d tl) (ho : okh (hs l s d tl)) (hl : tl.length ≤ 100) (hk : idK n (gA T) (qc n (gA T)) els d I J) (hx : exP n (gA T) els I J) (hF : 9000 ≤ F) (a : Int32) : ∃ v v' d' tl' I1 J1 I2 J2, (kpE n (gA T) els → v = v') ∧ e134 F 0 a (mkH (hs l s d tl) I J) = some (v, mkH (hs l s d' tl') I1 J1) ∧ e208 F 26 a (mkH (hs l s d' tl') I1 J1) = some (v', mkH (hs l s d' tl') I2 J2) ∧ st n T els x N tx fl I2 J2 ∧ caS l s d' tl' ∧ okh (hs l s d' tl') ∧ cfm d d' 10 tl tl' I I1 J J1 ∧ xfr I1 I2 J1 J2 ∧ idK n (gA T) (qc n (gA T)) els d' I2 J2 ∧ exP n (gA T) els I2 J2 := by
  have hkp := h.2.1.2.2.1
  have hkm := h.2.2.2.2.1
  have hok := h.2.1.1.1
  have same : cfm d d 10 tl tl I I J J := ⟨Or.inl ⟨rfl, rfl⟩, fun _ _ _ _ => ⟨rfl, rfl⟩⟩
  rcases el_c els a with ⟨w, y, hy, rfl⟩ | ha
  · have yb := (hkp.2.2.2.2 w y hy).2.2.1
    have ybm := (hkm.2.2.2.2 w y hy).2.2.1
    have y20 := (hkp.2.2.2.2 w y hy).2.1
    have w40 := (kp_lt hkp hy).2
    obtain ⟨yc, yL, yl, _⟩ := kp_c hkp hy
    have ec : e134 F 0 (nI w) (mkH (hs l s d tl) I J) = if mc2 .le (nI y.length) 8 = true then (e135 F 0 (mkH (hs l s d tl) I J)).bind fun q9 => if q9.1 < q9.2.length then (rcv 0 q9.2 q9.1).bind fun u13 => (e5 F q9.1 (nI w) q9.2).bind fun q12 => if q12.1 < q12.2.length then (rcv 0 q12.2 q12.1).bind fun u16 => (e3 F q12.1 q12.2).bind fun q15 => some (q15.1, q15.2) else none else none else some ((-1005), (mkH (hs l s d tl) I J)) := by
      show m134_0 F 0 _ _ = _
      unfold m134_0
      rw [gr0_2, Option.bind_some, rc8, Option.bind_some, eh1 hkp hy, Option.bind_some, if_pos (show mc1 .ne (nI 1) = true by decide), gr0_2, Option.bind_some, gr8_3, Option.bind_some, rI10 (by omega), Option.bind_some, yb, rc0, Option.bind_some]
    by_cases h8 : y.length ≤ 8
    · obtain ⟨v, b0, tl', I1, J1, f1, f2, f3, f4, f5, f6, f7, f8, f9, f10⟩ := prou_e (F := F) h.2.1.1 hkp hS ho hl hk hF hy h8 (fun W hA => qc_f hok yL yl h8 hA)
      obtain ⟨H0, nd1, nd2, nd3, nd4⟩ := f1
      have st1 := st_54 h f9
      have ref : ∃ (v' : Int32) (I2 : hI) (J2 : hJ), (kpE n (gA T) els → v = v') ∧ e208 F 26 (nI w) (mkH (hs l s (.ref b0) tl') I1 J1) = some (v', mkH (hs l s (.ref b0) tl') I2 J2) ∧ exP n (gA T) els I2 J2 ∧ xfr I1 I2 J1 J2 := by
        by_cases hE : kpE n (gA T) els
        · have hp := hE w y hy h8
          obtain ⟨I2, J2, f, W, p, g1, g2, g3, g4, g5, g6, g7⟩ := rref_e (l := l) (s := s) (d := .ref b0) (tl := tl') (F := F) st1.2.2.1 st1.2.2.2.2.1 hF hy hp h8 (exP_54 hx f9)
          obtain ⟨W', q1, p', rfl, q3⟩ := rans_v hok yL yl h8 hp (rAns_q hok yL yl hp f5) g2
          have e1 := cnt_l q3
          have e2 := cnt_l g7
          have e3 : lsm (fun z => cii (¬ ∀ k, f z k = if k = 0 then 1 else 0) 1 0) W' = lsm (fun z => cii (¬ ∀ k, f z k = if k = 0 then 1 else 0) 1 0) W := lsm_eq (n := n) (A := gA T) (fun u v e => by rw [g2.1 u v e]) (bqA_idl hok yL yl q1) (bqA_idl hok yL yl g6)
          have e4 : ((List.range W'.length).filter p').length = ((List.range W.length).filter p).length := by
            have := (e1.trans e3).trans e2.symm
            omega
          exact ⟨_, I2, J2, fun _ => by rw [e4], g1, g3, g4⟩
        · obtain ⟨v', I2, J2, g1, g3, g4⟩ := rref_s (l := l) (s := s) (d := .ref b0) (tl := tl') (F := F) st1.2.2.1 st1.2.2.2.2.1 hF hy h8 (exP_54 hx f9)
          exact ⟨v', I2, J2, fun h => absurd h hE, g1, g3, g4⟩
      obtain ⟨v', I2, J2, g0, g1, g3, g4⟩ := ref
      refine ⟨v, v', .ref b0, tl', I1, J1, I2, J2, g0, ?_, g1, st_x st1 g4, f6, f7, f8, g4, idK_x f10 (fun b' e => ?_) g4.2.2.2, g3⟩
      · rw [ec, if_pos (show mc2 .le (nI y.length) 8 = true by rw [c_8, c_le (by omega) (by omega)]; omega), nd1, Option.bind_some, if_pos nd2, nd3, Option.bind_some, nd4, Option.bind_some, if_pos f2, f3, Option.bind_some, f4, Option.bind_some]
      · rcases f6.2.2 with e' | ⟨b'', e', h54, _⟩
        · rw [e'] at e
          cases e
        · rw [e'] at e
          cases e
          exact h54
    · refine ⟨-1005, -1005, d, tl, I, J, I, J, fun _ => rfl, ?_, ?_, h, hS, ho, same, xfr_rf I J, hk, hx⟩
      · rw [ec, if_neg (show ¬ mc2 .le (nI y.length) 8 = true by rw [c_8, c_le (by omega) (by omega)]; omega)]
      · show m208_0 F 26 _ _ = _
        unfold m208_0
        rw [rc26, Option.bind_some, ie1 hkm hy, Option.bind_some, if_pos (show mc1 .ne (nI 1) = true by decide), gr26_17, Option.bind_some, rI34 (by omega), Option.bind_some, ybm, if_neg (show ¬ mc2 .le (nI y.length) 8 = true by rw [c_8, c_le (by omega) (by omega)]; omega)]
  · refine ⟨-1001, -1001, d, tl, I, J, I, J, fun _ => rfl, ?_, ?_, h, hS, ho, same, xfr_rf I J, hk, hx⟩
    · show m134_0 F 0 _ _ = _
      unfold m134_0
      rw [gr0_2, Option.bind_some, rc8, Option.bind_some, eh0 hkp ha, Option.bind_some, if_neg (show ¬ mc1 .ne (nI 0) = true by decide)]
    · show m208_0 F 26 _ _ = _
      unfold m208_0
      rw [rc26, Option.bind_some, ie0 hkm ha, Option.bind_some, if_neg (show ¬ mc1 .ne (nI 0) = true by decide)]
end S
