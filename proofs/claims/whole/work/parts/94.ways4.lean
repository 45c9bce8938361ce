/-! Stepping down from one after another, letter by letter: what is kept. -/
def qiv (n : Nat) (A : Nat → Nat → Int) (w : List Nat) (ws : List (List Nat)) (c : Nat → Int64) (i t : Nat) : Prop := ws[0]? = some w ∧ (∀ (i j : Nat) (u v : List Nat), ws[i]? = some u → ws[j]? = some v → cx_g n A u = cx_g n A v → i = j) ∧ (∀ (m : Nat) (u : List Nat), ws[m]? = some u → cx_L n u ∧ ∃ k, swk n A w k u ∧ cx_l n A u + k = cx_l n A w) ∧ (∀ (i j : Nat) (u v : List Nat), ws[i]? = some u → ws[j]? = some v → i ≤ j → cx_l n A v ≤ cx_l n A u) ∧ (∀ (m : Nat) (u v : List Nat), ws[m]? = some u → ws[i]? = some v → cx_l n A v ≤ cx_l n A u + 1) ∧ (∀ (i' j : Nat) (u : List Nat), ws[i']? = some u → j < n → i' < i ∨ i' = i ∧ j < t → dn n A u j → ∃ (m : Nat) (v : List Nat), ws[m]? = some v ∧ cx_g n A v = cx_g n A (u ++ [j])) ∧ ∀ (m : Nat) (u : List Nat), ws[m]? = some u → c m = cif (m = 0) 1 0 + (sumj i (fun i => ctr n A (ws.getD i []) (c i) n u) + ctr n A (ws.getD i []) (c i) t u)
section S
variable {n : Nat} {A : Nat → Nat → Int} {w : List Nat} {ws : List (List Nat)} {c : Nat → Int64} {i t : Nat}
theorem ctr_0 {y z : List Nat} {a : Int64} : ctr n A y a 0 z = 0 := rfl
theorem qiv_1 (hw : cx_L n w) (hl : w.length = cx_l n A w) (hc : c 0 = 1) : qiv n A w [w] c 0 0 := by
  have one : ∀ (m : Nat) (u : List Nat), [w][m]? = some u → m = 0 ∧ u = w := by
    intro m u h
    cases m with
    | zero => exact ⟨rfl, (Option.some.inj h).symm⟩
    | succ m => simp at h
  refine ⟨rfl, fun i j u v h1 h2 _ => by rw [(one i u h1).1, (one j v h2).1], fun m u h => ?_, fun i j u v h1 h2 _ => by rw [(one i u h1).2, (one j v h2).2]; exact Nat.le_refl _, fun m u v h1 h2 => by rw [(one m u h1).2, (one 0 v h2).2]; omega, fun i' j u h1 h2 h3 => by omega, fun m u h => ?_⟩
  · rw [(one m u h).2]
    exact ⟨hw, 0, swk_0 hw hl, rfl⟩
  · rw [(one m u h).1, hc, cif_p rfl, ctr_0]
    rfl
theorem qiv_n {u : List Nat} (h : qiv n A w ws c i t) (hu : ws[i]? = some u) (hd : ¬ dn n A u t) : qiv n A w ws c i (t + 1) := by
  obtain ⟨h1, h2, h3, h4, h5, h6, h7⟩ := h
  refine ⟨h1, h2, h3, h4, h5, fun i' j v a1 a2 a3 a4 => ?_, fun m v hv => ?_⟩
  · by_cases hj : i' = i ∧ j = t
    · obtain ⟨rfl, rfl⟩ := hj
      rw [hu] at a1
      cases a1
      exact absurd a4 hd
    · exact h6 i' j v a1 a2 (by omega) a4
  · rw [ctr_n (by rw [gd_of hu]; exact hd)]
    exact h7 m v hv
theorem qiv_i (h : qiv n A w ws c i n) : qiv n A w ws c (i + 1) 0 := by
  obtain ⟨h1, h2, h3, h4, h5, h6, h7⟩ := h
  refine ⟨h1, h2, h3, h4, fun m u v a1 a2 => ?_, fun i' j v a1 a2 a3 a4 => h6 i' j v a1 a2 (by omega) a4, fun m v hv => ?_⟩
  · have hi := (List.getElem?_eq_some_iff.mp a2).1
    have e1 := h4 i (i + 1) _ v (gd_ex (by omega)) a2 (by omega)
    have e2 := h5 m u _ a1 (gd_ex (by omega))
    omega
  · rw [ctr_0, Int64.add_zero, sumj]
    exact h7 m v hv
theorem qiv_z (hok : cx_ok n A) (h : qiv n A w ws c ws.length 0) : qfn n A w ws c := by
  obtain ⟨h1, h2, h3, h4, h5, h6, h7⟩ := h
  refine ⟨h1, h2, fun m u hu => (h3 m u hu).1, fun m u hu => ?_, h4, fun i' j v a1 a2 a4 => h6 i' j v a1 a2 (Or.inl (List.getElem?_eq_some_iff.mp a1).1) a4, fun m v hv => ?_⟩
  · obtain ⟨_, k, k1, k2⟩ := h3 m u hu
    refine ⟨by omega, fun e => ?_⟩
    have : k = 0 := by omega
    subst this
    obtain ⟨y, y1, _, _, _, y5⟩ := k1
    have : y = w := by
      cases w with
      | nil => exact List.mem_singleton.mp y1
      | cons a w => exact List.mem_singleton.mp y1
    rw [← y5, this]
  · rw [h7 m v hv, ctr_0, Int64.add_zero]
/-- room for what is new -/
theorem qiv_r (hok : cx_ok n A) {u : List Nat} (h : qiv n A w ws c i t) (hw : w.length ≤ 12) (ht : t < n) (hu : ws[i]? = some u) (hd : dn n A u t) (hnew : ∀ (m : Nat) (v : List Nat), ws[m]? = some v → cx_g n A v ≠ cx_g n A (u ++ [t])) : ws.length < 4096 := by
  obtain ⟨h1, h2, h3, h4, h5, h6, h7⟩ := h
  obtain ⟨uL, k, k1, k2⟩ := h3 i u hu
  have ap : ∀ (m : Nat) (v : List Nat), (ws ++ [u ++ [t]])[m]? = some v → ws[m]? = some v ∨ m = ws.length ∧ v = u ++ [t] := by
    intro m v hv
    by_cases hm : m < ws.length
    · rw [List.getElem?_append_left hm] at hv
      exact Or.inl hv
    · rw [List.getElem?_append_right (by omega)] at hv
      obtain ⟨e, he⟩ : ∃ e, m - ws.length = e := ⟨_, rfl⟩
      rw [he] at hv
      cases e with
      | zero => exact Or.inr ⟨by omega, (Option.some.inj hv).symm⟩
      | succ e => simp at hv
  have := swa_le (n := n) (A := A) (w := w) (ws := ws ++ [u ++ [t]]) hw (fun a b x y hx hy hg => by
    rcases ap a x hx with hx | ⟨ha, rfl⟩
    · rcases ap b y hy with hy | ⟨hb, rfl⟩
      · exact h2 a b x y hx hy hg
      · exact absurd hg (hnew a x hx)
    · rcases ap b y hy with hy | ⟨hb, rfl⟩
      · exact absurd hg.symm (hnew b y hy)
      · omega) (fun a x hx => by
    rcases ap a x hx with hx | ⟨ha, rfl⟩
    · obtain ⟨_, k, k1, _⟩ := h3 a x hx
      exact ⟨k, k1⟩
    · exact ⟨k + 1, swk_s hok k1 uL ht hd⟩)
  rw [List.length_append] at this
  simp at this
  omega
end S
