/-! The reference's answer to rough. -/
section S
variable {l s d : Value} {tl : List hQ} {F : Nat} {I : hI} {J : hJ} {n : Nat} {A : Nat → Nat → Int} {y u : List Nat} {els W : List (List Nat)} {f : List Nat → Nat → Int}
/-- one element -/
theorem rin_e (hF : 9000 ≤ F) {i c : Nat} (hi : i < 256) {p : Nat → Int} (hb : ∀ k, k < 9 → I 52 (9 * i + k) = zI (p k)) (hp : ∀ k, k < 9 → 0 ≤ p k ∧ p k ≤ 4095) {rc : Nat → Int32 → Int32 → List mE → Option (Int32 × List mE)} {e0 : Nat} (h0 : (e0 = 1 ∧ p 0 = 1) ∨ (e0 = 0 ∧ p 0 ≠ 1)) : ∃ e : Nat, ((e = 0 ∧ ∀ k, k < 9 → p k = if k = 0 then 1 else 0) ∨ (e = 1 ∧ ¬ ∀ k, k < 9 → p k = if k = 0 then 1 else 0)) ∧ m208_62 F rc 26 (nI c) (nI i) (nI e0) (mkH (hs l s d tl) I J) = rc 26 (nI (c + e)) (nI (i + 1)) (mkH (hs l s d tl) I J) := by
  refine lpc (σ := Nat) (R := Option (Int32 × List mE)) (fun f k e => m208_67 F rc f 26 (nI c) (nI i) (nI e) (nI k) (mkH (hs l s d tl) I J)) 9 (fun k e => 1 ≤ k ∧ ((e = 1 ∧ ∀ j, j < k → p j = if j = 0 then 1 else 0) ∨ (e = 0 ∧ ¬ ∀ j, j < k → p j = if j = 0 then 1 else 0))) (fun r => ∃ e : Nat, ((e = 0 ∧ ∀ k, k < 9 → p k = if k = 0 then 1 else 0) ∨ (e = 1 ∧ ¬ ∀ k, k < 9 → p k = if k = 0 then 1 else 0)) ∧ r = rc 26 (nI (c + e)) (nI (i + 1)) (mkH (hs l s d tl) I J)) ?_ ?_ F 1 e0 (by omega) (by omega) ⟨by omega, ?_⟩
  · rintro f e ⟨_, ⟨rfl, h1⟩ | ⟨rfl, h1⟩⟩
    · refine ⟨0, Or.inl ⟨rfl, h1⟩, ?_⟩
      show m208_67 F rc (f + 1) 26 (nI c) (nI i) (nI 1) (nI 9) (mkH (hs l s d tl) I J) = _
      rw [m208_67, if_pos (show mc2 .ge (nI 9) 9 = true by decide), if_neg (show ¬ mc1 .eq (nI 1) = true by decide)]
      unfold m208_118
      rw [n_0, nI_add, n_1, nI_add]
    · refine ⟨1, Or.inr ⟨rfl, h1⟩, ?_⟩
      show m208_67 F rc (f + 1) 26 (nI c) (nI i) (nI 0) (nI 9) (mkH (hs l s d tl) I J) = _
      rw [m208_67, if_pos (show mc2 .ge (nI 9) 9 = true by decide), if_pos (show mc1 .eq (nI 0) = true by decide)]
      unfold m208_118
      rw [n_1, nI_add, nI_add]
  · rintro f k e hk ⟨k1, hh⟩
    right
    have pre : m208_67 F rc (f + 1) 26 (nI c) (nI i) (nI e) (nI k) (mkH (hs l s d tl) I J) = if mc1 .eq (nI e) = true then m208_67 F rc f 26 (nI c) (nI i) (nI 0) (nI (k + 1)) (mkH (hs l s d tl) I J) else if mc1 .ne (zI (p k)) = true then m208_67 F rc f 26 (nI c) (nI i) (nI 0) (nI (k + 1)) (mkH (hs l s d tl) I J) else m208_67 F rc f 26 (nI c) (nI i) (nI 1) (nI (k + 1)) (mkH (hs l s d tl) I J) := by
      rw [m208_67, if_neg (show ¬ mc2 .ge (nI k) 9 = true by rw [n_9, c_ge (by omega) (by omega)]; omega), gr26_39, Option.bind_some, n_9, pk_mul, nI_add, rI52 (by omega), Option.bind_some, hb k hk]
      unfold m208_98 m208_99
      rw [n_1, nI_add]
      rfl
    rcases hh with ⟨rfl, h1⟩ | ⟨rfl, h1⟩
    · rw [if_neg (show ¬ mc1 .eq (nI 1) = true by decide)] at pre
      by_cases hz : p k = 0
      · refine ⟨1, ?_, by omega, Or.inl ⟨rfl, fun j hj => ?_⟩⟩
        · show m208_67 F rc (f + 1) 26 (nI c) (nI i) (nI 1) (nI k) (mkH (hs l s d tl) I J) = _
          rw [pre, hz, if_neg (show ¬ mc1 .ne (zI 0) = true by decide)]
        · by_cases hjk : j = k
          · rw [hjk, hz, if_neg (by omega)]
          · exact h1 j (by omega)
      · refine ⟨0, ?_, by omega, Or.inr ⟨rfl, fun hh => hz ?_⟩⟩
        · show m208_67 F rc (f + 1) 26 (nI c) (nI i) (nI 1) (nI k) (mkH (hs l s d tl) I J) = _
          rw [pre, if_pos (show mc1 .ne (zI (p k)) = true by
            by_cases h2 : mc1 .ne (zI (p k)) = true
            · exact h2
            · exact absurd (zI_z0 (hp k hk).1 (hp k hk).2 (by unfold mc1 at *; simpa using h2)) hz)]
        · rw [hh k (by omega), if_neg (by omega)]
    · rw [if_pos (show mc1 .eq (nI 0) = true by decide)] at pre
      exact ⟨0, pre, by omega, Or.inr ⟨rfl, fun hh => h1 (fun j hj => hh j (by omega))⟩⟩
  · rcases h0 with ⟨rfl, h1⟩ | ⟨rfl, h1⟩
    · refine Or.inl ⟨rfl, fun j hj => ?_⟩
      have : j = 0 := by omega
      rw [this, if_pos rfl, h1]
    · exact Or.inr ⟨rfl, fun hh => h1 (hh 0 (by omega))⟩
end S
