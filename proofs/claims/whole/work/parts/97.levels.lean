/-! Level by level: what the reference keeps. -/
/-- all that k steps down from y lead to, each once, with its number of ways -/
def lvV (n : Nat) (A : Nat → Nat → Int) (y : List Nat) (k : Nat) (L : List (List Nat)) (c : Nat → Int64) : Prop := (∀ (i j : Nat) (u v : List Nat), L[i]? = some u → L[j]? = some v → cx_g n A u = cx_g n A v → i = j) ∧ (∀ (m : Nat) (u : List Nat), L[m]? = some u → cx_L n u ∧ swk n A y k u ∧ cx_l n A u + k = cx_l n A y ∧ c m = wys n A y k u) ∧ ∀ z, cx_L n z → (∀ (i : Nat) (u : List Nat), L[i]? = some u → cx_g n A u ≠ cx_g n A z) → wys n A y k z = 0
/-- the next level, while it is made -/
def lvI (n : Nat) (A : Nat → Nat → Int) (y : List Nat) (k : Nat) (L : List (List Nat)) (c : Nat → Int64) (i t : Nat) (L' : List (List Nat)) (c' : Nat → Int64) : Prop := (∀ (i j : Nat) (u v : List Nat), L'[i]? = some u → L'[j]? = some v → cx_g n A u = cx_g n A v → i = j) ∧ (∀ (m : Nat) (u : List Nat), L'[m]? = some u → cx_L n u ∧ swk n A y (k + 1) u ∧ cx_l n A u + (k + 1) = cx_l n A y) ∧ (∀ (i' j : Nat) (u : List Nat), L[i']? = some u → j < n → i' < i ∨ i' = i ∧ j < t → dn n A u j → ∃ (m : Nat) (v : List Nat), L'[m]? = some v ∧ cx_g n A v = cx_g n A (u ++ [j])) ∧ ∀ (m : Nat) (u : List Nat), L'[m]? = some u → c' m = sumj i (fun i => ctr n A (L.getD i []) (c i) n u) + ctr n A (L.getD i []) (c i) t u
section S
variable {n k i t : Nat} {A : Nat → Nat → Int} {y : List Nat} {L L' : List (List Nat)} {c c' c'' : Nat → Int64}
theorem lvV_0 (hy : cx_L n y) (hl : y.length = cx_l n A y) (hc : c 0 = 1) : lvV n A y 0 [y] c := by
  have one : ∀ (m : Nat) (u : List Nat), [y][m]? = some u → m = 0 ∧ u = y := by
    intro m u h
    cases m with
    | zero => exact ⟨rfl, (Option.some.inj h).symm⟩
    | succ m => simp at h
  refine ⟨fun i j u v h1 h2 _ => by rw [(one i u h1).1, (one j v h2).1], fun m u h => ?_, fun z hz h => ?_⟩
  · rw [(one m u h).2, (one m u h).1, hc]
    refine ⟨hy, swk_0 hy hl, rfl, ?_⟩
    unfold wys
    rw [cif_p rfl]
  · unfold wys
    exact cif_n (h 0 y rfl)
theorem lvI_0 : lvI n A y k L c 0 0 [] c' := ⟨fun i j u v h => by simp at h, fun m u h => by simp at h, fun i' j u _ _ h => by omega, fun m u h => by simp at h⟩
theorem lvI_n {u : List Nat} (h : lvI n A y k L c i t L' c') (hu : L[i]? = some u) (hd : ¬ dn n A u t) : lvI n A y k L c i (t + 1) L' c' := by
  obtain ⟨h1, h2, h3, h4⟩ := h
  refine ⟨h1, h2, fun i' j v a1 a2 a3 a4 => ?_, fun m v hv => ?_⟩
  · by_cases hj : i' = i ∧ j = t
    · obtain ⟨rfl, rfl⟩ := hj
      rw [hu] at a1
      cases a1
      exact absurd a4 hd
    · exact h3 i' j v a1 a2 (by omega) a4
  · rw [ctr_n (by rw [gd_of hu]; exact hd)]
    exact h4 m v hv
theorem lvI_i (h : lvI n A y k L c i n L' c') : lvI n A y k L c (i + 1) 0 L' c' := by
  obtain ⟨h1, h2, h3, h4⟩ := h
  refine ⟨h1, h2, fun i' j v a1 a2 a3 a4 => h3 i' j v a1 a2 (by omega) a4, fun m v hv => ?_⟩
  rw [ctr_0, Int64.add_zero, sumj]
  exact h4 m v hv
theorem lvI_f {u v : List Nat} {m : Nat} (h : lvI n A y k L c i t L' c') (hu : L[i]? = some u) (hd : dn n A u t) (hm : L'[m]? = some v) (hg : cx_g n A v = cx_g n A (u ++ [t])) (hc : ∀ k, k < L'.length → c'' k = if k = m then c' m + c i else c' k) : lvI n A y k L c i (t + 1) L' c'' := by
  obtain ⟨h1, h2, h3, h4⟩ := h
  refine ⟨h1, h2, fun i' j x a1 a2 a3 a4 => ?_, fun m' x hx => ?_⟩
  · by_cases hj : i' = i ∧ j = t
    · obtain ⟨rfl, rfl⟩ := hj
      rw [hu] at a1
      cases a1
      exact ⟨m, v, hm, hg⟩
    · exact h3 i' j x a1 a2 (by omega) a4
  · have hml := (List.getElem?_eq_some_iff.mp hx).1
    have e7 := h4 m' x hx
    rw [gd_of hu] at e7 ⊢
    by_cases hmm : m' = m
    · subst hmm
      rw [hm] at hx
      cases hx
      rw [hc _ hml, if_pos rfl, ctr_y hd hg.symm, e7]
      simp only [Int64.add_assoc]
    · rw [hc _ hml, if_neg hmm, ctr_o (fun e => hmm (h1 m' m x v hx hm (e.symm.trans hg.symm))), e7]
theorem lvI_a (hok : cx_ok n A) {u : List Nat} (hV : lvV n A y k L c) (h : lvI n A y k L c i t L' c') (hu : L[i]? = some u) (ht : t < n) (hd : dn n A u t) (hnew : ∀ (m : Nat) (v : List Nat), L'[m]? = some v → cx_g n A v ≠ cx_g n A (u ++ [t])) (hc : ∀ k, k ≤ L'.length → c'' k = if k = L'.length then c i else c' k) : lvI n A y k L c i (t + 1) (L' ++ [u ++ [t]]) c'' := by
  obtain ⟨h1, h2, h3, h4⟩ := h
  have hi := (List.getElem?_eq_some_iff.mp hu).1
  obtain ⟨uL, k1, k2, _⟩ := hV.2.1 i u hu
  have ul := dn_1 hok uL ht hd
  refine ⟨fun a b x z hx hz hg => ?_, fun m x hx => ?_, fun i' j x a1 a2 a3 a4 => ?_, fun m' x hx => ?_⟩
  · rcases ap_c hx with hx | ⟨ha, rfl⟩
    · rcases ap_c hz with hz | ⟨hb, rfl⟩
      · exact h1 a b x z hx hz hg
      · exact absurd hg (hnew a x hx)
    · rcases ap_c hz with hz | ⟨hb, rfl⟩
      · exact absurd hg.symm (hnew b z hz)
      · omega
  · rcases ap_c hx with hx | ⟨ha, rfl⟩
    · exact h2 m x hx
    · exact ⟨cx_L_app uL (cx_L_1 ht), swk_s hok k1 uL ht hd, by omega⟩
  · by_cases hj : i' = i ∧ j = t
    · obtain ⟨rfl, rfl⟩ := hj
      rw [hu] at a1
      cases a1
      exact ⟨L'.length, u ++ [j], ap_r, rfl⟩
    · obtain ⟨m, v, b1, b2⟩ := h3 i' j x a1 a2 (by omega) a4
      exact ⟨m, v, ap_l b1, b2⟩
  · rw [gd_of hu]
    rcases ap_c hx with hx | ⟨ha, rfl⟩
    · have hml := (List.getElem?_eq_some_iff.mp hx).1
      have e7 := h4 m' x hx
      rw [gd_of hu] at e7
      rw [hc _ (by omega), if_neg (by omega), ctr_o (fun e => hnew m' x hx e.symm), e7]
    · rw [hc _ (by omega), if_pos ha, ctr_y hd rfl, ctr_no (fun j hj hdj e => by
        obtain ⟨m, v, b1, b2⟩ := h3 i j u hu (by omega) (Or.inr ⟨rfl, hj⟩) hdj
        exact hnew m v b1 (b2.trans e)), sumj_cg (g := fun _ => 0) (fun a ha => ctr_no (fun j hj hdj e => by
        obtain ⟨m, v, b1, b2⟩ := h3 a j _ (gd_ex (by omega)) hj (Or.inl ha) hdj
        exact hnew m v b1 (b2.trans e))), sumj_0, Int64.zero_add, Int64.zero_add]
theorem lvI_z (hok : cx_ok n A) (hV : lvV n A y k L c) (h : lvI n A y k L c L.length 0 L' c') : lvV n A y (k + 1) L' c' := by
  obtain ⟨h1, h2, h3, h4⟩ := h
  have e : ∀ z, cx_L n z → sumj L.length (fun i => ctr n A (L.getD i []) (c i) n z) = wys n A y (k + 1) z := fun z hz =>
    way_s (V := wys n A y k) (L := fun i => L.getD i []) hok hz (fun i hi => (hV.2.1 i _ (gd_ex hi)).1) (fun i j hi hj hg => hV.1 i j _ _ (gd_ex hi) (gd_ex hj) hg) (fun i j hi hj hnd hg => by
      rw [(hV.2.1 i _ (gd_ex hi)).2.2.2]
      exact wys_cg _ hg) (fun j hj hnd hno => hV.2.2 _ (cx_L_app hz (cx_L_1 hj)) (fun i u hu hg => hno i (List.getElem?_eq_some_iff.mp hu).1 (by rw [gd_of hu]; exact hg)))
  refine ⟨h1, fun m u hu => ?_, fun z hz hno => ?_⟩
  · obtain ⟨a1, a2, a3⟩ := h2 m u hu
    refine ⟨a1, a2, a3, ?_⟩
    rw [h4 m u hu, ctr_0, Int64.add_zero, e u a1]
  · rw [← e z hz, sumj_cg (g := fun _ => 0) (fun a ha => ctr_no (fun j hj hdj ee => by
      obtain ⟨m, v, b1, b2⟩ := h3 a j _ (gd_ex ha) hj (Or.inl ha) hdj
      exact hno m v b1 (b2.trans ee))), sumj_0]
/-- where all steps were made, the one that is left has the number of ways -/
theorem lvV_e (hok : cx_ok n A) (hy : cx_L n y) (hV : lvV n A y (cx_l n A y) L c) (h0 : 0 < L.length) : c 0 = wys n A y (cx_l n A y) [] := by
  obtain ⟨a1, a2, a3, a4⟩ := hV.2.1 0 _ (gd_ex h0)
  rw [a4]
  exact wys_cg _ (cx_l_0 a1 (by omega))
/-- there is always one, as long as letters are left -/
theorem lvI_ne (hok : cx_ok n A) (hV : lvV n A y k L c) (h : lvI n A y k L c L.length 0 L' c') (h0 : 0 < L.length) (hk : k < cx_l n A y) : 0 < L'.length := by
  obtain ⟨a1, a2, a3, a4⟩ := hV.2.1 0 _ (gd_ex h0)
  obtain ⟨j, hj, hd⟩ := cx_ex_dn hok a1 (by omega)
  obtain ⟨m, v, b1, _⟩ := h.2.2.1 0 j _ (gd_ex h0) hj (Or.inl h0) hd
  have := (List.getElem?_eq_some_iff.mp b1).1
  omega
end S
