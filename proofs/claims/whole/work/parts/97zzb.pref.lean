/-! The reference's answers about P. -/
section S
variable {l s d : Value} {tl : List hQ} {F : Nat} {I : hI} {J : hJ} {n : Nat} {A : Nat → Nat → Int} {y u : List Nat} {els W : List (List Nat)} {f : List Nat → Nat → Int}
theorem exQ_J {J' : hJ} (h : exQ n A y W f I J) (hJ : J' 45 = J 45) : exQ n A y W f I J' := by
  unfold exQ blF blP sqs at *
  rw [hJ]
  exact h
theorem xfr_J {J' : hJ} (hJ : ∀ c, c ≠ 32 → J' c = J c) : xfr I I J J' := ⟨fun _ _ _ => rfl, fun _ _ _ => rfl, fun c _ hc => hJ c hc, fun c hc => ⟨rfl, hJ c (by omega)⟩⟩
/-- findP, then placeOf -/
theorem fpo_e (hM : mo_n n A I) (hk : km n A els I) (hF : 9000 ≤ F) {i w : Nat} (hy : els[w]? = some y) (h8 : y.length ≤ 8) (hx : exP n A els I J) (hu : els[i]? = some u) : ∃ (I' : hI) (J1 J' : hJ) (W : List (List Nat)) (f : List Nat → Nat → Int) (v : Int32), e203 F 26 (nI w) (mkH (hs l s d tl) I J) = some ((), (mkH (hs l s d tl) I' J1)) ∧ e204 F 26 (nI i) (mkH (hs l s d tl) I' J1) = some (v, (mkH (hs l s d tl) I' J')) ∧ exQ n A y W f I' J' ∧ exP n A els I' J' ∧ xfr I I' J J' ∧ I' 26 30 = nI w ∧ ((∃ (j : Nat) (x : List Nat), W[j]? = some x ∧ cx_g n A x = cx_g n A u ∧ v = nI j) ∨ ((∀ k, f u k = 0) ∧ (∀ (j : Nat) (x : List Nat), W[j]? = some x → cx_g n A x ≠ cx_g n A u) ∧ v = gI 1)) := by
  have hok := hM.1
  obtain ⟨yc, yL, yl, y20, w40, yb⟩ := km_c hk hy
  obtain ⟨uc, uL, ul, u20, i40, ub⟩ := km_c hk hu
  obtain ⟨I1, J1, W, f, e1, q1, q2, q3⟩ := fp_e (l := l) (s := s) (d := d) (tl := tl) (F := F) hM hk hF hy h8 hx
  have M1 : mo_n n A I1 := mo_fr hM (q3.2.1 0 (by decide) (by decide)) (q3.1 28 (by decide) (by decide))
  have k1 : km n A els I1 := km_fr hk (q3.2.1 16 (by decide) (by decide)) (q3.1 34 (by decide) (by decide)) (q3.1 35 (by decide) (by decide))
  obtain ⟨v, J2, e2, hv, hJ2⟩ := po_e (l := l) (s := s) (d := d) (tl := tl) (F := F) M1 k1 hF yL h8 q1.1 hu
  have q4 := exQ_J q1 (hJ2 45 (by decide))
  refine ⟨I1, J1, J2, W, f, v, e1, e2, q4, Or.inr ⟨w, y, W, f, hy, h8, q2, q4⟩, xfr_tr q3 (xfr_J hJ2), q2, ?_⟩
  rcases hv with hv | ⟨h1, h2⟩
  · exact Or.inl hv
  · refine Or.inr ⟨fun k => q1.2.1.2.1 u uL (fun hb => ?_) k, h1, h2⟩
    obtain ⟨m, z, a1, a2⟩ := (bqA_idl hok yL yl (bqS_A q1.1.1)).2.2 u uL hb
    exact h1 m z a1 a2
/-- p -/
theorem pref_e (hM : mo_n n A I) (hk : km n A els I) (hF : 9000 ≤ F) {i w K : Nat} (hy : els[w]? = some y) (h8 : y.length ≤ 8) (hx : exP n A els I J) (hu : els[i]? = some u) (hK : K < 2 ^ 31) : ∃ (I' : hI) (J' : hJ) (f : List Nat → Nat → Int), e206 F 26 (nI i) (nI w) (nI K) (mkH (hs l s d tl) I J) = some (zI (f u K), (mkH (hs l s d tl) I' J')) ∧ klo n A y f ∧ exP n A els I' J' ∧ xfr I I' J J' ∧ I' 26 30 = nI w := by
  obtain ⟨yc, yL, yl, y20, w40, yb⟩ := km_c hk hy
  obtain ⟨uc, uL, ul, u20, i40, ub⟩ := km_c hk hu
  obtain ⟨I', J1, J', W, f, v, e1, e2, q1, q2, q3, q4, hv⟩ := fpo_e (l := l) (s := s) (d := d) (tl := tl) (F := F) hM hk hF hy h8 hx hu
  refine ⟨I', J', f, ?_, q1.2.1, q2, q3, q4⟩
  have pre : e206 F 26 (nI i) (nI w) (nI K) (mkH (hs l s d tl) I J) = if mc1 .lt v = true then m206_66 F (mkH (hs l s d tl) I' J') else if mc2 .le (nI K) 8 = true then (rdI (mkH (hs l s d tl) I' J') 52 ((9 * v) + nI K)).bind fun x18 => m206_82 F x18 (mkH (hs l s d tl) I' J') else m206_66 F (mkH (hs l s d tl) I' J') := by
    show m206_0 F 26 _ _ _ _ = _
    unfold m206_0
    rw [rc26, Option.bind_some, ie1 hk hu, Option.bind_some, if_neg (show ¬ mc1 .eq (nI 1) = true by decide), rc26, Option.bind_some, ie1 hk hy, Option.bind_some, if_pos (show mc1 .ne (nI 1) = true by decide), if_pos (show mc1 .ge (nI K) = true by rw [d_ge hK]; trivial), gr26_17, Option.bind_some, rI34 (by omega), Option.bind_some, yb.1, if_pos (show mc2 .le (nI y.length) 8 = true by rw [c_8, c_le (by omega) (by omega)]; omega), rc26, Option.bind_some, e1, Option.bind_some, rc26, Option.bind_some, e2, Option.bind_some, gr26_39, Option.bind_some]
  have hW := q1.1.2.1
  rcases hv with ⟨j, x, hj, hg, rfl⟩ | ⟨h0, _, rfl⟩
  · have hjl := (List.getElem?_eq_some_iff.mp hj).1
    rw [pre, if_neg (show ¬ mc1 .lt (nI j) = true by rw [d_lt (by omega)]; exact id)]
    by_cases h9 : K ≤ 8
    · rw [if_pos (show mc2 .le (nI K) 8 = true by rw [c_8, c_le hK (by omega)]; exact h9), n_9, pk_mul, nI_add, rI52 (by omega), Option.bind_some, q1.2.2 j x hj K (by omega), q1.2.1.1 x u hg]
      rfl
    · rw [if_neg (show ¬ mc2 .le (nI K) 8 = true by rw [c_8, c_le hK (by omega)]; exact h9), klo_hi q1.2.1 uL (by omega) (by omega)]
      rfl
  · rw [pre, if_pos (show mc1 .lt (gI 1) = true by decide), h0 K]
    rfl
end S
