/-! Calls of both: words, also where Layers is made first. -/
/-- what words leaves of the cells behind the first 45, and of the shape -/
def lyn (l l' : Value) (tl tl' : List hQ) (I I' : hI) (J J' : hJ) : Prop := (∀ b : Nat, l' = .ref b → sfb (b + 4) 4096 I') ∧ ((l' = l ∧ tl' = tl ∧ (∀ c : Nat, 26 ≤ c → (∀ b : Nat, l = .ref b → c ≠ b + 4 ∧ c ≠ b + 6 ∧ c ≠ b + 7 ∧ c ≠ b + 8) → I' c = I c) ∧ ∀ c : Nat, 45 ≤ c → (∀ b : Nat, l = .ref b → c ≠ b + 1 ∧ c ≠ b + 2 ∧ c ≠ b + 5) → J' c = J c) ∨ (l = .null ∧ l' = .ref (tl.length + 54) ∧ tl' = tl ++ lyc (tl.length + 54) ∧ (∀ c, 26 ≤ c → c < tl.length + 54 → I' c = I c) ∧ (∀ c, 45 ≤ c → c < tl.length + 54 → J' c = J c) ∧ I' (tl.length + 54) 8 = -1))
section S
variable {l s d : Value} {tl : List hQ} {F : Nat} {I : hI} {J : hJ} {n : Nat} {T : tT} {els : List (List Nat)} {x : List Nat} {N : Nat} {tx : Nat → Nat} {fl : Int32}
theorem op16 (h : st n T els x N tx fl I J) (hS : caS l s d tl) (ho : okh (hs l s d tl)) (hl : tl.length ≤ 100) (hb : ∀ b : Nat, l = .ref b → sfb (b + 4) 4096 I) (hF : 9000 ≤ F) (a : Int32) : ∃ v l' tl' I1 J1 I2 J2, e121 F 0 a (mkH (hs l s d tl) I J) = some (v, mkH (hs l' s d tl') I1 J1) ∧ e180 F 26 a (mkH (hs l' s d tl') I1 J1) = some (v, mkH (hs l' s d tl') I2 J2) ∧ st n T els x N tx fl I2 J2 ∧ caS l' s d tl' ∧ okh (hs l' s d tl') ∧ lyn l l' tl tl' I I2 J J2 := by
  have hh := h
  obtain ⟨hT, hcl, hrf⟩ := h
  have hk := hcl.2.2.1
  have h40 := hk.2.1
  have same : lyn l l tl tl I I J J := ⟨hb, Or.inl ⟨rfl, rfl, fun _ _ _ => rfl, fun _ _ _ => rfl⟩⟩
  by_cases hex : ∃ j, j < els.length ∧ a = nI j
  · obtain ⟨j, hj, rfl⟩ := hex
    have hy := gd_ex hj
    generalize els.getD j [] = y at hy
    obtain ⟨y1, y2, y3, _⟩ := hk.2.2.2.2 j y hy
    have r1 : rdI (mkH (hs l s d tl) I J) 10 (nI j) = some (nI y.length) := by rw [rdI_H q10 (by omega) (by omega), y3]
    by_cases h12 : y.length ≤ 12
    · have pre : e121 F 0 (nI j) (mkH (hs l s d tl) I J) = (e128 F 0 (mkH (hs l s d tl) I J)).bind fun q9 => if q9.1 < q9.2.length then (rcv 2 q9.2 q9.1).bind fun u13 => (e29 F q9.1 (nI j) q9.2).bind fun q12 => some (q12.1, q12.2) else none := by
        show m121_0 F 0 _ _ = _
        unfold m121_0
        rw [gr0_2, Option.bind_some, rc8, Option.bind_some, eh1 hk hy, Option.bind_some, if_pos (show mc1 .ne (nI 1) = true by decide), gr0_2, Option.bind_some, gr8_3, Option.bind_some, r1, Option.bind_some, if_pos (show mc2 .le (nI y.length) 12 = true by rw [n_12, c_le (by omega) (by omega)]; exact h12), rc0, Option.bind_some]
      rcases id hS.1 with rfl | ⟨b, rfl, hb54, hly⟩
      · have hly : lyS (hs (.ref (tl.length + 54)) s d (tl ++ lyc (tl.length + 54))) (tl.length + 54) := lyS_new rfl
        have lo : ∀ c, c < tl.length + 54 → lyI (wzI I (tl.length + 54)) (tl.length + 54) c = I c ∧ lyJ (wzJ J (tl.length + 54)) (tl.length + 54) c = J c := fun c hc => ⟨lyI_lo hc, lyJ_lo hc⟩
        have fI := lyI_f (I := wzI I (tl.length + 54)) (b := tl.length + 54)
        have st0 : st n T els x N tx fl (lyI (wzI I (tl.length + 54)) (tl.length + 54)) (lyJ (wzJ J (tl.length + 54)) (tl.length + 54)) := ⟨hT, stc_r hcl (fun c hc => lo c (by omega)), str_f hrf (fun c _ a2 => (lo c (by omega)).1)⟩
        obtain ⟨v, I1, J1, J2, e1, e2, r3, r4, r5, r6⟩ := w16 (F := F) st0 (by omega) hly fI.1 hF hy h12
        refine ⟨v, _, _, I1, J1, I1, J2, ?_, e2, r3, caS_ly hS, okh_ly ho hl, fun b' e => ?_, Or.inr ⟨rfl, rfl, rfl, fun c a1 a2 => ?_, fun c a1 a2 => ?_, ?_⟩⟩
        · rw [pre, nl_n ho hl, Option.bind_some]
          show (if tl.length + 54 < (mkH _ _ _).length then _ else _) = _
          rw [mkH_len, if_pos (List.getElem?_eq_some_iff.mp hly.1).1, lyr hly, Option.bind_some, e1, Option.bind_some]
        · cases e
          exact r4
        · rw [r5 c (by omega) (by omega) (by omega) (by omega)]
          exact (lo c a2).1
        · rw [r6 c a1 (by omega) (by omega) (by omega)]
          exact (lo c a2).2
        · rw [r5 _ (by omega) (by omega) (by omega) (by omega)]
          exact fI.2
      · obtain ⟨v, I1, J1, J2, e1, e2, r3, r4, r5, r6⟩ := w16 (F := F) hh hb54 hly (hb b rfl) hF hy h12
        refine ⟨v, _, _, I1, J1, I1, J2, ?_, e2, r3, hS, ho, fun b' e => ?_, Or.inl ⟨rfl, rfl, fun c a1 a2 => ?_, fun c a1 a2 => ?_⟩⟩
        · rw [pre, nl_r hly, Option.bind_some]
          show (if b < (mkH _ _ _).length then _ else _) = _
          rw [mkH_len, if_pos (List.getElem?_eq_some_iff.mp hly.1).1, lyr hly, Option.bind_some, e1, Option.bind_some]
        · cases e
          exact r4
        · obtain ⟨b1, b2, b3, b4⟩ := a2 b rfl
          exact r5 c b1 b2 b3 b4
        · obtain ⟨b1, b2, b3⟩ := a2 b rfl
          exact r6 c a1 b1 b2 b3
    · refine ⟨-1005, l, tl, I, J, I, J, ?_, ?_, hh, hS, ho, same⟩
      · show m121_0 F 0 _ _ = _
        unfold m121_0
        rw [gr0_2, Option.bind_some, rc8, Option.bind_some, eh1 hk hy, Option.bind_some, if_pos (show mc1 .ne (nI 1) = true by decide), gr0_2, Option.bind_some, gr8_3, Option.bind_some, r1, Option.bind_some, if_neg (show ¬ mc2 .le (nI y.length) 12 = true by rw [n_12, c_le (by omega) (by omega)]; exact h12)]
      · obtain ⟨_, _, z3, _⟩ := hrf.2.2.1.2.2.2.2 j y hy
        have r2 : rdI (mkH (hs l s d tl) I J) 34 (nI j) = some (nI y.length) := by rw [rdI_H q34 (by omega) (by omega), z3]
        show m180_0 F 26 _ _ = _
        unfold m180_0
        rw [rc26, Option.bind_some, ie1 hrf.2.2.1 hy, Option.bind_some, if_pos (show mc1 .ne (nI 1) = true by decide), gr26_17, Option.bind_some, r2, Option.bind_some, if_neg (show ¬ mc2 .le (nI y.length) 12 = true by rw [n_12, c_le (by omega) (by omega)]; exact h12)]
  · have hno : ∀ j, j < els.length → a ≠ nI j := fun j hj e => hex ⟨j, hj, e⟩
    refine ⟨-1001, l, tl, I, J, I, J, ?_, ?_, hh, hS, ho, same⟩
    · show m121_0 F 0 _ _ = _
      unfold m121_0
      rw [gr0_2, Option.bind_some, rc8, Option.bind_some, eh0 hk hno, Option.bind_some, if_neg (show ¬ mc1 .ne (nI 0) = true by decide)]
    · show m180_0 F 26 _ _ = _
      unfold m180_0
      rw [rc26, Option.bind_some, ie0 hrf.2.2.1 hno, Option.bind_some, if_neg (show ¬ mc1 .ne (nI 0) = true by decide)]
end S
