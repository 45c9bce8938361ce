/-! All that stands below an element, letter by letter of its word. -/
section S
variable {n : Nat} {A : Nat → Nat → Int} {y : List Nat} {k b t : Nat} {W : List (List Nat)} {H : Nat}
theorem als_sub {z : List Nat} : ∀ {y : List Nat}, z.Sublist y → z ∈ als y := by
  intro y h
  induction h with
  | slnil => exact List.mem_singleton.mpr rfl
  | cons a h ih =>
    rw [als, List.mem_append]
    exact Or.inr ih
  | cons_cons a h ih =>
    rw [als, List.mem_append, List.mem_map]
    exact Or.inl ⟨_, ih, rfl⟩
/-- the list while letter k (it is t) of y is gone through: H were there before, b of these are done -/
def bqI (n : Nat) (A : Nat → Nat → Int) (y : List Nat) (k t H b : Nat) (W : List (List Nat)) : Prop := W[0]? = some [] ∧ lds n A W ∧ (∀ (i : Nat) (u : List Nat), W[i]? = some u → cx_L n u ∧ ∃ z, z.Sublist (y.take k ++ [t]) ∧ cx_g n A z = cx_g n A u) ∧ H ≤ W.length ∧ (∀ z, z.Sublist (y.take k) → ∃ (i : Nat) (u : List Nat), i < H ∧ W[i]? = some u ∧ cx_g n A u = cx_g n A z) ∧ ∀ (i : Nat) (u : List Nat), i < b → W[i]? = some u → ∃ (m : Nat) (v : List Nat), W[m]? = some v ∧ cx_g n A v = cx_g n A (u ++ [t])
/-- the list behind k letters -/
def bqS (n : Nat) (A : Nat → Nat → Int) (y : List Nat) (k : Nat) (W : List (List Nat)) : Prop := W[0]? = some [] ∧ lds n A W ∧ (∀ (i : Nat) (u : List Nat), W[i]? = some u → cx_L n u ∧ ∃ z, z.Sublist (y.take k) ∧ cx_g n A z = cx_g n A u) ∧ ∀ z, z.Sublist (y.take k) → ∃ (i : Nat) (u : List Nat), W[i]? = some u ∧ cx_g n A u = cx_g n A z
theorem bqS_0 : bqS n A y 0 [[]] := by
  refine ⟨rfl, lds_1 [], fun i u hu => ?_, fun z hz => ⟨0, [], rfl, ?_⟩⟩
  · rw [List.mem_singleton.mp (List.mem_of_getElem? hu)]
    exact ⟨cx_L_nil, [], List.nil_sublist _, rfl⟩
  · rw [List.take_zero] at hz
    rw [List.sublist_nil.mp hz]
theorem bqI_0 (h : bqS n A y k W) (t : Nat) : bqI n A y k t W.length 0 W := by
  obtain ⟨h1, h2, h3, h4⟩ := h
  refine ⟨h1, h2, fun i u hu => ?_, Nat.le_refl _, fun z hz => ?_, fun i u hi => by omega⟩
  · obtain ⟨a1, z, a2, a3⟩ := h3 i u hu
    exact ⟨a1, z, a2.trans (List.sublist_append_left _ _), a3⟩
  · obtain ⟨i, u, a1, a2⟩ := h4 z hz
    exact ⟨i, u, (List.getElem?_eq_some_iff.mp a1).1, a1, a2⟩
theorem bqI_f {u v : List Nat} {m : Nat} (h : bqI n A y k t H b W) (hu : W[b]? = some u) (hm : W[m]? = some v) (hg : cx_g n A v = cx_g n A (u ++ [t])) : bqI n A y k t H (b + 1) W := by
  obtain ⟨h1, h2, h3, h4, h5, h6⟩ := h
  refine ⟨h1, h2, h3, h4, h5, fun i w hi hw => ?_⟩
  by_cases hib : i = b
  · subst hib
    rw [hu] at hw
    cases hw
    exact ⟨m, v, hm, hg⟩
  · exact h6 i w (by omega) hw
/-- u, t, too, is left of the word without some letters -/
theorem bqI_s {u : List Nat} (hbH : b < H) (h0 : ∀ (i : Nat) (u : List Nat), i < H → W[i]? = some u → ∃ z, z.Sublist (y.take k) ∧ cx_g n A z = cx_g n A u) (hu : W[b]? = some u) : ∃ z, z.Sublist (y.take k ++ [t]) ∧ cx_g n A z = cx_g n A (u ++ [t]) := by
  obtain ⟨z, a1, a2⟩ := h0 b u hbH hu
  exact ⟨z ++ [t], a1.append (List.Sublist.refl _), cx_g_ap1 [t] a2⟩
theorem bqI_a {u : List Nat} (h : bqI n A y k t H b W) (ht : t < n) (hbH : b < H) (h0 : ∀ (i : Nat) (u : List Nat), i < H → W[i]? = some u → ∃ z, z.Sublist (y.take k) ∧ cx_g n A z = cx_g n A u) (hu : W[b]? = some u) (hnew : ∀ (m : Nat) (v : List Nat), W[m]? = some v → cx_g n A v ≠ cx_g n A (u ++ [t])) : bqI n A y k t H (b + 1) (W ++ [u ++ [t]]) := by
  have hz := bqI_s (t := t) hbH h0 hu
  obtain ⟨h1, h2, h3, h4, h5, h6⟩ := h
  have hb := (List.getElem?_eq_some_iff.mp hu).1
  refine ⟨ap_l h1, lds_app h2 (lds_1 _) (fun i j a c ha hc => ?_), fun i v hv => ?_, by rw [List.length_append]; omega, fun z hz => ?_, fun i v hi hv => ?_⟩
  · rw [List.mem_singleton.mp (List.mem_of_getElem? hc)]
    exact hnew i a ha
  · rcases ap_c hv with hv | ⟨_, rfl⟩
    · exact h3 i v hv
    · exact ⟨cx_L_app (h3 b u hu).1 (cx_L_1 ht), hz⟩
  · obtain ⟨i, v, a1, a2, a3⟩ := h5 z hz
    exact ⟨i, v, a1, ap_l a2, a3⟩
  · rcases ap_c hv with hv1 | ⟨hv1, rfl⟩
    · by_cases hib : i = b
      · subst hib
        rw [hu] at hv1
        cases hv1
        exact ⟨W.length, _, ap_r, rfl⟩
      · obtain ⟨m, w, a1, a2⟩ := h6 i v (by omega) hv1
        exact ⟨m, w, ap_l a1, a2⟩
    · omega
theorem sub_snoc {z x : List Nat} {t : Nat} (h : z.Sublist (x ++ [t])) : z.Sublist x ∨ ∃ z', z = z' ++ [t] ∧ z'.Sublist x := by
  obtain ⟨z1, z2, rfl, h1, h2⟩ := List.sublist_append_iff.mp h
  cases z2 with
  | nil => rw [List.append_nil]; exact Or.inl h1
  | cons a z2 =>
    have hl := h2.length_le
    have e : z2 = [] := List.length_eq_zero_iff.mp (by rw [List.length_cons] at hl; have h1 : [t].length = 1 := rfl; omega)
    have ha : a = t := List.mem_singleton.mp (h2.subset List.mem_cons_self)
    rw [e, ha]
    exact Or.inr ⟨z1, rfl, h1⟩
theorem bqI_z (h : bqI n A y k t H H W) (hk : y[k]? = some t) : bqS n A y (k + 1) W := by
  obtain ⟨h1, h2, h3, h4, h5, h6⟩ := h
  rw [bqS, take_c hk]
  refine ⟨h1, h2, h3, fun z hz => ?_⟩
  rcases sub_snoc hz with hz1 | ⟨z', rfl, hz1⟩
  · obtain ⟨i, u, _, a2, a3⟩ := h5 z hz1
    exact ⟨i, u, a2, a3⟩
  · obtain ⟨i, u, a1, a2, a3⟩ := h5 z' hz1
    obtain ⟨m, v, b1, b2⟩ := h6 i u a1 a2
    exact ⟨m, v, b1, b2.trans (cx_g_ap1 [t] a3)⟩
theorem bqS_len (h : ∀ (i : Nat) (u : List Nat), W[i]? = some u → ∃ z, z.Sublist y ∧ cx_g n A z = cx_g n A u) (hd : lds n A W) (hy : y.length ≤ 8) : W.length ≤ 256 := by
  refine Nat.le_trans (pgl hd (S := als y) (fun i u hu => ?_)) (by rw [als_len]; exact Nat.pow_le_pow_right (n := 2) (by omega) hy)
  obtain ⟨z, a1, a2⟩ := h i u hu
  exact ⟨z, als_sub a1, a2⟩
theorem bqS_l {u : List Nat} (hu : cx_L n u) (h : ∃ z, z.Sublist y ∧ cx_g n A z = cx_g n A u) (hy : cx_L n y) : cx_l n A u ≤ y.length := by
  obtain ⟨z, a1, a2⟩ := h
  have zL : cx_L n z := fun r hr => hy r (a1.subset hr)
  exact Nat.le_trans (cx_l_le hu zL a2) a1.length_le
end S
