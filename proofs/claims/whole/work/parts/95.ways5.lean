/-! A step down to what is there, and to what is new. -/
section S
variable {n : Nat} {A : Nat → Nat → Int} {w : List Nat} {ws : List (List Nat)} {c c' : Nat → Int64} {i t : Nat}
theorem gd_ap {x : List Nat} {k : Nat} (h : k < ws.length) : (ws ++ [x]).getD k [] = ws.getD k [] := by
  rw [List.getD_eq_getElem?_getD, List.getD_eq_getElem?_getD, List.getElem?_append_left h]
theorem ap_c {x : List Nat} {m : Nat} {v : List Nat} (hv : (ws ++ [x])[m]? = some v) : ws[m]? = some v ∨ m = ws.length ∧ v = x := by
  by_cases hm : m < ws.length
  · rw [List.getElem?_append_left hm] at hv
    exact Or.inl hv
  · rw [List.getElem?_append_right (by omega)] at hv
    obtain ⟨e, he⟩ : ∃ e, m - ws.length = e := ⟨_, rfl⟩
    rw [he] at hv
    cases e with
    | zero => exact Or.inr ⟨by omega, (Option.some.inj hv).symm⟩
    | succ e => simp at hv
theorem ap_l {x : List Nat} {m : Nat} {v : List Nat} (h : ws[m]? = some v) : (ws ++ [x])[m]? = some v := by
  rw [List.getElem?_append_left (List.getElem?_eq_some_iff.mp h).1]
  exact h
theorem ap_r {x : List Nat} : (ws ++ [x])[ws.length]? = some x := by
  rw [List.getElem?_append_right (Nat.le_refl _), Nat.sub_self]
  rfl
theorem ctr_no {y z : List Nat} {a : Int64} {j : Nat} (h : ∀ k, k < j → dn n A y k → cx_g n A (y ++ [k]) ≠ cx_g n A z) : ctr n A y a j z = 0 := by
  unfold ctr
  rw [sumj_cg (g := fun _ => 0) (fun k hk => cif_n (fun hh => h k hk hh.1 hh.2)), sumj_0]
theorem qiv_f (hok : cx_ok n A) {u v : List Nat} {m : Nat} (h : qiv n A w ws c i t) (hu : ws[i]? = some u) (ht : t < n) (hd : dn n A u t) (hm : ws[m]? = some v) (hg : cx_g n A v = cx_g n A (u ++ [t])) (hc : ∀ k, c' k = if k = m then c m + c i else c k) : qiv n A w ws c' i (t + 1) := by
  obtain ⟨h1, h2, h3, h4, h5, h6, h7⟩ := h
  have him : i < m := by
    apply Classical.byContradiction
    intro hh
    have := h4 m i v u hm hu (by omega)
    rw [cx_l_eq hg] at this
    exact absurd hd (Nat.not_lt.mpr this)
  have ce : ∀ k, k ≤ i → c' k = c k := fun k hk => by rw [hc, if_neg (by omega)]
  refine ⟨h1, h2, h3, h4, h5, fun i' j x a1 a2 a3 a4 => ?_, fun m' x hx => ?_⟩
  · by_cases hj : i' = i ∧ j = t
    · obtain ⟨rfl, rfl⟩ := hj
      rw [hu] at a1
      cases a1
      exact ⟨m, v, hm, hg⟩
    · exact h6 i' j x a1 a2 (by omega) a4
  · rw [sumj_cg (g := fun i => ctr n A (ws.getD i []) (c i) n x) (fun k hk => by rw [ce k (by omega)]), ce i (Nat.le_refl _), gd_of hu]
    have e7 := h7 m' x hx
    rw [gd_of hu] at e7
    by_cases hmm : m' = m
    · subst hmm
      rw [hm] at hx
      cases hx
      rw [hc, if_pos rfl, ctr_y hd hg.symm, e7]
      simp only [Int64.add_assoc]
    · rw [hc, if_neg hmm, ctr_o (fun e => hmm (h2 m' m x v hx hm (e.symm.trans hg.symm))), e7]
theorem qiv_a (hok : cx_ok n A) {u : List Nat} (h : qiv n A w ws c i t) (hu : ws[i]? = some u) (ht : t < n) (hd : dn n A u t) (hnew : ∀ (m : Nat) (v : List Nat), ws[m]? = some v → cx_g n A v ≠ cx_g n A (u ++ [t])) (hc : ∀ k, c' k = if k = ws.length then c i else c k) : qiv n A w (ws ++ [u ++ [t]]) c' i (t + 1) := by
  obtain ⟨h1, h2, h3, h4, h5, h6, h7⟩ := h
  have hi := (List.getElem?_eq_some_iff.mp hu).1
  obtain ⟨uL, k, k1, k2⟩ := h3 i u hu
  have ul := dn_1 hok uL ht hd
  have ce : ∀ k, k ≤ i → c' k = c k := fun k hk => by rw [hc, if_neg (by omega)]
  refine ⟨ap_l h1, fun a b x y hx hy hg => ?_, fun m x hx => ?_, fun a b x y hx hy hab => ?_, fun m x y hx hy => ?_, fun i' j x a1 a2 a3 a4 => ?_, fun m' x hx => ?_⟩
  · rcases ap_c hx with hx | ⟨ha, rfl⟩
    · rcases ap_c hy with hy | ⟨hb, rfl⟩
      · exact h2 a b x y hx hy hg
      · exact absurd hg (hnew a x hx)
    · rcases ap_c hy with hy | ⟨hb, rfl⟩
      · exact absurd hg.symm (hnew b y hy)
      · omega
  · rcases ap_c hx with hx | ⟨ha, rfl⟩
    · exact h3 m x hx
    · exact ⟨cx_L_app uL (cx_L_1 ht), k + 1, swk_s hok k1 uL ht hd, by omega⟩
  · rcases ap_c hx with hx | ⟨ha, rfl⟩
    · rcases ap_c hy with hy | ⟨hb, rfl⟩
      · exact h4 a b x y hx hy hab
      · have := h5 a x u hx hu
        omega
    · rcases ap_c hy with hy | ⟨hb, rfl⟩
      · have := (List.getElem?_eq_some_iff.mp hy).1
        omega
      · exact Nat.le_refl _
  · rcases ap_c hy with hy | ⟨hb, _⟩
    · rw [hu] at hy
      cases hy
      rcases ap_c hx with hx | ⟨ha, rfl⟩
      · exact h5 m x u hx hu
      · omega
    · omega
  · rcases ap_c a1 with a5 | ⟨ha, rfl⟩
    · by_cases hj : i' = i ∧ j = t
      · obtain ⟨rfl, rfl⟩ := hj
        rw [hu] at a5
        cases a5
        exact ⟨ws.length, u ++ [j], ap_r, rfl⟩
      · obtain ⟨m, v, b1, b2⟩ := h6 i' j x a5 a2 (by omega) a4
        exact ⟨m, v, ap_l b1, b2⟩
    · omega
  · rw [sumj_cg (g := fun i => ctr n A (ws.getD i []) (c i) n x) (fun k hk => by rw [ce k (by omega), gd_ap (by omega)]), ce i (Nat.le_refl _), gd_ap hi, gd_of hu]
    rcases ap_c hx with hx | ⟨ha, rfl⟩
    · have e7 := h7 m' x hx
      rw [gd_of hu] at e7
      rw [hc, if_neg (by have := (List.getElem?_eq_some_iff.mp hx).1; omega), ctr_o (fun e => hnew m' x hx e.symm), e7]
    · rw [hc, if_pos ha, cif_n (by omega), ctr_y hd rfl, Int64.zero_add, ctr_no (fun j hj hdj e => by
        obtain ⟨m, v, b1, b2⟩ := h6 i j u hu (by omega) (Or.inr ⟨rfl, hj⟩) hdj
        exact hnew m v b1 (b2.trans e)), sumj_cg (g := fun _ => 0) (fun a ha => ctr_no (fun j hj hdj e => by
        obtain ⟨m, v, b1, b2⟩ := h6 a j _ (gd_ex (by omega)) hj (Or.inl ha) hdj
        exact hnew m v b1 (b2.trans e))), sumj_0, Int64.zero_add, Int64.zero_add]
end S
