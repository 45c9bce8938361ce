/-! The reference's answer to leans. -/
section S
variable {l s d : Value} {tl : List hQ} {F : Nat} {I : hI} {J : hJ} {n : Nat} {A : Nat → Nat → Int} {y u : List Nat} {els W : List (List Nat)} {f : List Nat → Nat → Int}
theorem lref_e (hM : mo_n n A I) (hk : km n A els I) (hF : 9000 ≤ F) {i w : Nat} (hy : els[w]? = some y) (h8 : y.length ≤ 8) (hx : exP n A els I J) (hu : els[i]? = some u) : ∃ (I' : hI) (J' : hJ) (f : List Nat → Nat → Int), e207 F 26 (nI i) (nI w) (mkH (hs l s d tl) I J) = some (zI (mu n A f y u), (mkH (hs l s d tl) I' J')) ∧ klo n A y f ∧ exP n A els I' J' ∧ xfr I I' J J' ∧ I' 26 30 = nI w := by
  have hok := hM.1
  obtain ⟨yc, yL, yl, y20, w40, yb⟩ := km_c hk hy
  obtain ⟨uc, uL, ul, u20, i40, ub⟩ := km_c hk hu
  obtain ⟨I', J1, J', W, f, v, e1, e2, q1, q2, q3, q4, hv⟩ := fpo_e (l := l) (s := s) (d := d) (tl := tl) (F := F) hM hk hF hy h8 hx hu
  refine ⟨I', J', f, ?_, q1.2.1, q2, q3, q4⟩
  have i34 : I' 34 = I 34 := q3.1 34 (by decide) (by decide)
  have pre : e207 F 26 (nI i) (nI w) (mkH (hs l s d tl) I J) = if mc1 .lt v = true then m207_72 F (mkH (hs l s d tl) I' J') else if mc1 .ne ((nI y.length - nI u.length) - (nI y.length - nI u.length) / 2 * 2) = true then (rdI (mkH (hs l s d tl) I' J') 52 ((9 * v) + (((nI y.length - nI u.length) - 1) / 2))).bind fun x21 => m207_92 F x21 (mkH (hs l s d tl) I' J') else m207_72 F (mkH (hs l s d tl) I' J') := by
    show m207_0 F 26 _ _ _ = _
    unfold m207_0
    rw [rc26, Option.bind_some, ie1 hk hu, Option.bind_some, if_neg (show ¬ mc1 .eq (nI 1) = true by decide), rc26, Option.bind_some, ie1 hk hy, Option.bind_some, if_pos (show mc1 .ne (nI 1) = true by decide), gr26_17, Option.bind_some, rI34 (by omega), Option.bind_some, yb.1, if_pos (show mc2 .le (nI y.length) 8 = true by rw [c_8, c_le (by omega) (by omega)]; omega), rc26, Option.bind_some, e1, Option.bind_some, rc26, Option.bind_some, e2, Option.bind_some, gr26_17, Option.bind_some, rI34 (by omega), Option.bind_some, i34, yb.1, Option.bind_some, rI34 (by omega), Option.bind_some, i34, ub.1, gr26_39, Option.bind_some]
  have hW := q1.1.2.1
  rcases hv with ⟨j, x, hj, hg, rfl⟩ | ⟨h0, _, rfl⟩
  · have hjl := (List.getElem?_eq_some_iff.mp hj).1
    have hI := (bqA_idl hok yL yl (bqS_A q1.1.1)).2.1 j x hj
    have hle := (sbe_l yL hI.1 hI.2).1
    rw [cx_l_eq hg, yl, ul] at hle
    have k2 := ln_od y.length (by omega) u.length (by omega) hle
    rw [pre, if_neg (show ¬ mc1 .lt (nI j) = true by rw [d_lt (by omega)]; exact id)]
    unfold mu
    rw [yl, ul]
    by_cases ho : (y.length - u.length) % 2 = 0
    · rw [if_neg (fun hh => (k2.mp hh) ho), if_neg (show ¬ (y.length - u.length) % 2 = 1 by omega)]
      rfl
    · have k3 := ln_hf y.length (by omega) u.length (by omega) (by omega)
      rw [if_pos (k2.mpr ho), if_pos (show (y.length - u.length) % 2 = 1 by omega), k3, n_9, pk_mul, nI_add, rI52 (by omega), Option.bind_some, q1.2.2 j x hj _ (by omega), q1.2.1.1 x u hg]
      rfl
  · rw [pre, if_pos (show mc1 .lt (gI 1) = true by decide)]
    unfold mu
    rw [h0]
    by_cases ho : (cx_l n A y - cx_l n A u) % 2 = 1
    · rw [if_pos ho]
      rfl
    · rw [if_neg ho]
      rfl
end S
