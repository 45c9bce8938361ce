/-! A call of both out of runs of both; cells and slots that it makes. -/
theorem lstep_of {nm o : Nat} {a b d : Int32} {hp hp1 hp2 : List mE} {v : Value} {gs : List Value} (hv : if lty o = true then ∃ x, v = .long x else ∃ x, v = .int x) (hx : ∃ c1 w1, Rn 30 (lkx o) 0 (lv_args 0 (.ref 0 :: larg o a b d)) [] hp 0 0 (some v, hp1, c1, w1)) (hg : hp1[nm]? = some (.inr (11, gs))) (hm : ∃ c2 w2, Rn 30 (lkm o) 0 (lv_args 0 (.ref nm :: larg o a b d)) [] hp1 0 0 (some v, hp2, c2, w2)) :
    ∃ (c' w' : Nat) (nw : List (Nat × Nat × Nat)), LStep nm o a b d hp hp2 c' w' ∧ hp2.map knd = hp.map knd ++ nw ∧ c' = nw.length ∧ w' = (nw.map (fun q => q.2.2)).sum := by
  obtain ⟨c1, w1, f, hf⟩ := hx
  obtain ⟨c2, w2, g, hg2⟩ := hm
  obtain ⟨n1, k1, s1⟩ := exec_kn _ _ _ _ _ _ _ _ _ _ _ _ _ hf
  obtain ⟨n2, k2, s2⟩ := exec_kn _ _ _ _ _ _ _ _ _ _ _ _ _ hg2
  have l1 := exec_len _ _ _ _ _ _ _ _ _ _ _ _ _ hf
  have l2 := exec_len _ _ _ _ _ _ _ _ _ _ _ _ _ hg2
  have e1 := congrArg List.length k1
  have e2 := congrArg List.length k2
  simp only [List.length_map, List.length_append] at e1 e2
  refine ⟨c1 + c2, w1 + w2, n1 ++ n2, ⟨v, f, g, hp1, c1, w1, c2, w2, gs, hv, hf, hg, hg2, rfl, rfl⟩, by rw [k2, k1, List.append_assoc], ?_, ?_⟩
  · rw [List.length_append]
    omega
  · rw [List.map_append, List.sum_append]
    omega
