/-! The reference's answer to rough. -/
section S
variable {l s d : Value} {tl : List hQ} {F : Nat} {I : hI} {J : hJ} {n : Nat} {A : Nat → Nat → Int} {y u : List Nat} {els W : List (List Nat)} {f : List Nat → Nat → Int}
theorem rref_e (hM : mo_n n A I) (hk : km n A els I) (hF : 9000 ≤ F) {w : Nat} (hy : els[w]? = some y) (hp : kpm n A y.length) (h8 : y.length ≤ 8) (hx : exP n A els I J) : ∃ (I' : hI) (J' : hJ) (f : List Nat → Nat → Int) (W : List (List Nat)) (p : Nat → Bool), e208 F 26 (nI w) (mkH (hs l s d tl) I J) = some (nI ((List.range W.length).filter p).length, (mkH (hs l s d tl) I' J')) ∧ klo n A y f ∧ exP n A els I' J' ∧ xfr I I' J J' ∧ I' 26 30 = nI w ∧ bqA n A y W ∧ ∀ (m : Nat) (z : List Nat), W[m]? = some z → (p m = true ↔ ¬ ∀ k, f z k = if k = 0 then 1 else 0) := by
  have hok := hM.1
  obtain ⟨yc, yL, yl, y20, w40, yb⟩ := km_c hk hy
  obtain ⟨I1, J1, W, f, e1, q1, q2, q3⟩ := fp_e (l := l) (s := s) (d := d) (tl := tl) (F := F) hM hk hF hy h8 hx
  have hA := bqS_A q1.1.1
  have hW := q1.1.2.1
  obtain ⟨p, hpp⟩ : ∃ p : Nat → Bool, ∀ (m : Nat) (z : List Nat), W[m]? = some z → (p m = true ↔ ¬ ∀ k, f z k = if k = 0 then 1 else 0) := ⟨fun m => @decide (¬ ∀ k, f (W.getD m []) k = if k = 0 then 1 else 0) (Classical.propDecidable _), fun m z hz => by
    rw [← gd_of hz]
    exact @decide_eq_true_iff _ (Classical.propDecidable _)⟩
  refine ⟨I1, J1, f, W, p, ?_, q1.2.1, Or.inr ⟨w, y, W, f, hy, h8, q2, q1⟩, q3, q2, hA, hpp⟩
  have pre : e208 F 26 (nI w) (mkH (hs l s d tl) I J) = m208_36 F F 26 (nI 0) (nI 0) (mkH (hs l s d tl) I1 J1) := by
    show m208_0 F 26 _ _ = _
    unfold m208_0
    rw [rc26, Option.bind_some, ie1 hk hy, Option.bind_some, if_pos (show mc1 .ne (nI 1) = true by decide), gr26_17, Option.bind_some, rI34 (by omega), Option.bind_some, yb.1, if_pos (show mc2 .le (nI y.length) 8 = true by rw [c_8, c_le (by omega) (by omega)]; omega), rc26, Option.bind_some, e1, Option.bind_some]
    rfl
  rw [pre]
  have i31 : I1 26 31 = nI W.length := q1.1.2.2.1.2.2
  refine lpc (σ := Nat) (R := Option (Int32 × List mE)) (fun g m c => m208_36 F g 26 (nI c) (nI m) (mkH (hs l s d tl) I1 J1)) W.length (fun m c => c = ((List.range m).filter p).length) (fun r => r = some (nI ((List.range W.length).filter p).length, (mkH (hs l s d tl) I1 J1))) ?_ ?_ F 0 0 (by omega) (by omega) rfl
  · rintro g c rfl
    show m208_36 F (g + 1) 26 _ (nI W.length) (mkH (hs l s d tl) I1 J1) = _
    rw [m208_36, gi26_31, Option.bind_some, i31, if_pos (show mc2 .ge (nI W.length) (nI W.length) = true by rw [c_ge (by omega) (by omega)]; omega)]
  · rintro g m c hm hc
    right
    have hz := gd_ex hm
    generalize W.getD m [] = z at hz
    have zL := (hA.2.2.1 m z hz).1
    have hi : ∀ k, 5 ≤ k → f z k = 0 := fun k h5 => klo_hi q1.2.1 zL (by omega) (by omega)
    have bd : ∀ k, k < 9 → 0 ≤ f z k ∧ f z k ≤ 4095 := fun k _ => by
      by_cases h5 : k < 5
      · exact hp y f yL (by omega) q1.2.1 z zL k h5
      · rw [hi k (by omega)]
        omega
    have all : (∀ k, k < 9 → f z k = if k = 0 then 1 else 0) ↔ ∀ k, f z k = if k = 0 then 1 else 0 := ⟨fun h k => by
      by_cases h9 : k < 9
      · exact h k h9
      · rw [hi k (by omega), if_neg (by omega)], fun h k _ => h k⟩
    have b0 : I1 52 (9 * m) = zI (f z 0) := q1.2.2 m z hz 0 (by omega)
    have one : ∃ e0 : Nat, ((e0 = 1 ∧ f z 0 = 1) ∨ (e0 = 0 ∧ f z 0 ≠ 1)) ∧ m208_36 F (g + 1) 26 (nI c) (nI m) (mkH (hs l s d tl) I1 J1) = m208_62 F (m208_36 F g) 26 (nI c) (nI m) (nI e0) (mkH (hs l s d tl) I1 J1) := by
      have pre2 : m208_36 F (g + 1) 26 (nI c) (nI m) (mkH (hs l s d tl) I1 J1) = if mc2 .ne (zI (f z 0)) 1 = true then m208_62 F (m208_36 F g) 26 (nI c) (nI m) (nI 0) (mkH (hs l s d tl) I1 J1) else m208_62 F (m208_36 F g) 26 (nI c) (nI m) (nI 1) (mkH (hs l s d tl) I1 J1) := by
        rw [m208_36, gi26_31, Option.bind_some, i31, if_neg (show ¬ mc2 .ge (nI m) (nI W.length) = true by rw [c_ge (by omega) (by omega)]; omega), gr26_39, Option.bind_some, n_9, pk_mul, rI52 (by omega), Option.bind_some, b0]
        rfl
      obtain ⟨V, hV⟩ : ∃ V : Nat, f z 0 = (V : Int) := ⟨(f z 0).toNat, by have := bd 0 (by omega); omega⟩
      have hVb := bd 0 (by omega)
      by_cases h1 : f z 0 = 1
      · refine ⟨1, Or.inl ⟨rfl, h1⟩, ?_⟩
        rw [pre2, h1, if_neg (show ¬ mc2 .ne (zI 1) 1 = true by decide)]
      · refine ⟨0, Or.inr ⟨rfl, h1⟩, ?_⟩
        rw [pre2, hV, zI_n, if_pos (show mc2 .ne (nI V) 1 = true by rw [n_1, c_ne (by omega) (by omega)]; omega)]
    obtain ⟨e0, h0, e2⟩ := one
    obtain ⟨e, he, e3⟩ := rin_e (l := l) (s := s) (d := d) (tl := tl) (F := F) (J := J1) (c := c) (rc := m208_36 F g) hF (show m < 256 by omega) (fun k hk => q1.2.2 m z hz k hk) bd h0
    refine ⟨c + e, e2.trans e3, ?_⟩
    rw [List.range_succ, List.filter_append, List.length_append, ← hc]
    rcases he with ⟨rfl, h1⟩ | ⟨rfl, h1⟩
    · have : p m = false := Bool.eq_false_iff.mpr (fun hh => (hpp m z hz).mp hh (all.mp h1))
      simp [this]
    · have : p m = true := (hpp m z hz).mpr (fun hh => h1 (all.mpr hh))
      simp [this]
end S
