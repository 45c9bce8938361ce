/-! One call on a fresh object: nothing of KP is asked. -/
theorem kpm_0 {n : Nat} {A : Nat → Nat → Int} (hok : cx_ok n A) : kpm n A 0 := by
  intro w f hw hl hk u hu k _
  have l0 : cx_l n A w = 0 := by omega
  rw [klo_un hok hw hk (klo_0 hok hw l0) 0 u hu (by omega) k]
  unfold rd0
  by_cases hz : cx_l n A u = 0
  · rw [cii_p hz]
    split <;> omega
  · rw [cii_n hz]
    omega
theorem kpE_0 {n : Nat} {A : Nat → Nat → Int} (hok : cx_ok n A) : kpE n A [[]] := by
  intro w y h _
  cases w with
  | zero =>
    cases h
    exact kpm_0 hok
  | succ w => cases h
theorem start_nx {o : Nat} (ho : o < 29) (a b e : Int32) : ∃ (hp2 : List mE) (c' w' : Nat), LStep 26 o a b e hpB hp2 c' w' ∧ hpB.length + c' = hp2.length ∧ sms hpB + w' = sms hp2 ∧ IV hp2 := by
  have h := sAll_t
  unfold sAll at h
  simp only [Bool.and_eq_true, beq_iff_eq] at h
  have eH := hok_H h.1.1.2
  obtain ⟨v, v', hp2, c', w', h1, hv, h2, h3, h4⟩ := nx_all start_inv ho a b e
  rw [← eH] at h1 h2 h3
  obtain ⟨f, g, hp1, c1, w1, c2, w2, gs, k1, k2, k3, k4, k5, k6⟩ := h1
  have hvv := hv (Or.inr (kpE_0 (gA_ok T0_ok 3)))
  rw [← hvv] at k1 k4
  have kt : if lty o = true then ∃ x, v = .long x else ∃ x, v = .int x := by
    by_cases hl : lty o = true
    · rw [if_pos hl] at k1 ⊢
      exact k1.1
    · rw [if_neg hl] at k1 ⊢
      exact k1.1
  exact ⟨hp2, c', w', ⟨v, f, g, hp1, c1, w1, c2, w2, gs, kt, k2, k3, k4, k5, k6⟩, h2, h3, h4⟩
/-- scripts of at most four ints -/
theorem lgood_4 (L : Nat) (xs : Nat → Int32) (hL : L ≤ 4) : LGood L xs := by
  have h := sAll_t
  unfold sAll at h
  simp only [Bool.and_eq_true, beq_iff_eq, Option.isSome_iff_exists] at h
  obtain ⟨⟨⟨⟨⟨⟨⟨⟨⟨fx, x1⟩, ⟨fm, x2⟩⟩, ⟨r1, x3⟩⟩, ⟨r2, x4⟩⟩, x5⟩, x6⟩, x7⟩, x8⟩, x9⟩ := h
  have e1 : fxA = fx := by unfold fxA; rw [x1]; rfl
  have e2 : fxB = fm := by unfold fxB; rw [x2]; rfl
  have e3 : e103 200 0 [.inr (10, fxA)] = some ((), hpA) := by
    unfold hpA
    rw [x3]
  have e4 : e136 200 26 (hpA ++ [.inr (11, fxB)]) = some ((), hpB) := by
    unfold hpB
    rw [x4]
  obtain ⟨c1, w1, f, g1⟩ := a103 (d := 30) (by decide) 200 0 _ _ _ (by decide) e3 0 0
  obtain ⟨c2, w2, g, g2⟩ := a136 (d := 30) (by decide) 200 26 _ _ _ (by rw [List.length_append, x5]; decide) e4 0 0
  obtain ⟨n1, k1, s1⟩ := exec_kn _ _ _ _ _ _ _ _ _ _ _ _ _ g1
  obtain ⟨n2, k2, s2⟩ := exec_kn _ _ _ _ _ _ _ _ _ _ _ _ _ g2
  have l1 := exec_len _ _ _ _ _ _ _ _ _ _ _ _ _ g1
  have l2 := exec_len _ _ _ _ _ _ _ _ _ _ _ _ _ g2
  have eH := hok_H x7
  rw [← e1] at x1
  rw [← e2] at x2
  have iB : IV hpB := ⟨_, _, _, _, _, _, _, _, _, _, _, _, _, eH, start_inv⟩
  have one : ∀ hp, IV hp → hp.length ≤ room_1.cells ∧ sms hp ≤ room_1.slots ∧ 26 < hp.length ∧ ∃ fs, hp[0]? = some (.inr (10, fs)) := by
    intro hp hi
    obtain ⟨l, s, d, tl, n, T, els, x, N, tx, fl, I, J, e, hi⟩ := hi
    rw [e]
    refine ⟨?_, sms_le hi.2.2.2.1, hs_lt (by decide), hF I J 0 0 (hb0 l s d), ?_⟩
    · have := lay_len hi.2.2.2.1
      have := rm_c
      rw [mkH_len, hs_len]
      omega
    · rw [mkH_get, q0]
      rfl
  refine ⟨26, fun t hp c w => (t = 0 → hp = hpB) ∧ IV hp ∧ c = hp.length ∧ w = sms hp, fxA, fxB, f, g, hpA, hpB, c1, w1, c2, w2, x1, g1, by rw [x5]; exact x6, x5, by decide, by decide, x2, g2, ⟨fun _ => rfl, iB, ?_, ?_⟩, ?_, ?_, ?_⟩
  · rw [List.length_append] at l2
    have l3 : ([.inr (10, fxA)] : List mE).length = 1 := rfl
    have l4 : ([.inr (11, fxB)] : List mE).length = 1 := rfl
    rw [l3] at l1
    rw [l4] at l2
    omega
  · unfold sms
    rw [k2]
    simp only [List.map_append]
    rw [k1]
    simp only [List.map_append, List.sum_append, List.map_cons, List.map_nil, List.sum_cons, List.sum_nil, knd]
    rw [x8, x9]
    omega
  · intro t hp c w hh
    obtain ⟨-, hi, ec, ew⟩ := hh
    rw [ec, ew]
    exact one hp hi
  · intro t hp c w hh hn
    exact ⟨fun ht => absurd ht (by omega), hh.2⟩
  · intro t hp c w hh hn o ho _
    obtain ⟨h0, hi, ec, ew⟩ := hh
    have t0 : t = 0 := by omega
    obtain ⟨hp2, c', w', q1, q2, q3, q4⟩ := start_nx ho (xs (4 * t + 1)) (xs (4 * t + 2)) (xs (4 * t + 3))
    rw [← h0 t0] at q1 q2 q3
    exact ⟨hp2, c', w', q1, fun ht => absurd ht (by omega), q4, by rw [ec]; exact q2, by rw [ew]; exact q3⟩
