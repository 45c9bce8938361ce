/-! What R has below; what goes down from what is below stands there, too. -/
section S
variable {n : Nat} {A : Nat → Nat → Int} {y : List Nat} {W : List (List Nat)}
theorem red_sub (hok : cx_ok n A) : ∀ {z : List Nat}, cx_L n z → ∃ z', z'.Sublist z ∧ cx_g n A z' = cx_g n A z ∧ cx_l n A z' = z'.length := by
  intro z
  induction z with
  | nil => exact fun _ => ⟨[], List.Sublist.refl _, rfl, cx_l_nil⟩
  | cons t z ih =>
    intro hz
    have ht := cx_L_hd hz
    obtain ⟨z', h1, h2, h3⟩ := ih (cx_L_tl hz)
    have zL : cx_L n z' := fun r hr => cx_L_tl hz r (h1.subset hr)
    rcases cx_lstep hok zL ht with h | h
    · exact ⟨t :: z', h1.cons_cons t, cx_g_cons t h2, by rw [List.length_cons, h, h3]⟩
    · obtain ⟨i, hi, hg⟩ := cx_lexch hok ht zL (by omega)
      refine ⟨z'.eraseIdx i, ((List.eraseIdx_sublist z' i).trans h1).cons t, hg.symm.trans (cx_g_cons t h2), ?_⟩
      rw [← cx_l_eq hg, List.length_eraseIdx_of_lt hi]
      omega
/-- R has nothing but below -/
theorem rwl_sup (hok : cx_ok n A) : ∀ (r : List Nat), cx_L n r → ∀ u, cx_L n u → (∀ z, z.Sublist r.reverse → cx_g n A z ≠ cx_g n A u) → ∀ k, rwl n A r u k = 0 := by
  intro r
  induction r with
  | nil =>
    intro _ u hu h k
    exact cii_n (fun h0 => h [] (List.Sublist.refl _) (cx_l_0 hu h0).symm)
  | cons s r ih =>
    intro hr u hu h k
    have hs := cx_L_hd hr
    have rL := cx_L_tl hr
    rw [List.reverse_cons] at h
    have z1 := ih rL u hu (fun z hz => h z (hz.trans (List.sublist_append_left _ _)))
    have z2 := ih rL (u ++ [s]) (cx_L_app hu (cx_L_1 hs)) (fun z hz hg => h (z ++ [s]) (hz.append (List.Sublist.refl _)) (by
      rw [cx_g_ap1 [s] hg]
      exact cx_g_sr hok hs u))
    show cii (dn n A u s) _ _ = 0
    rw [qs_cg z1, z1, qs_cg z2, z2, qs_0]
    by_cases hd : dn n A u s
    · exact cii_p hd
    · rw [cii_n hd]
      rfl
theorem rww_sup (hok : cx_ok n A) {w u : List Nat} (hw : cx_L n w) (hu : cx_L n u) (h : ∀ z, z.Sublist w → cx_g n A z ≠ cx_g n A u) (k : Nat) : rww n A w u k = 0 := rwl_sup hok _ (cx_L_rev hw) u hu (by rw [List.reverse_reverse]; exact h) k
/-- the list has all that is left of y without some letters -/
def bqA (n : Nat) (A : Nat → Nat → Int) (y : List Nat) (W : List (List Nat)) : Prop := W[0]? = some [] ∧ lds n A W ∧ (∀ (i : Nat) (u : List Nat), W[i]? = some u → cx_L n u ∧ ∃ z, z.Sublist y ∧ cx_g n A z = cx_g n A u) ∧ ∀ z, z.Sublist y → ∃ (i : Nat) (u : List Nat), W[i]? = some u ∧ cx_g n A u = cx_g n A z
theorem bqS_A (h : bqS n A y y.length W) : bqA n A y W := by
  unfold bqS at h
  rw [List.take_length] at h
  exact h
/-- a least word, out of y -/
theorem bqA_w (hok : cx_ok n A) (yL : cx_L n y) (h : bqA n A y W) {i : Nat} {u : List Nat} (hu : W[i]? = some u) : ∃ z, z.Sublist y ∧ cx_g n A z = cx_g n A u ∧ cx_l n A z = z.length ∧ cx_L n z := by
  obtain ⟨_, z, a1, a2⟩ := h.2.2.1 i u hu
  have zL : cx_L n z := fun r hr => yL r (a1.subset hr)
  obtain ⟨z', b1, b2, b3⟩ := red_sub hok zL
  exact ⟨z', b1.trans a1, b2.trans a2, b3, fun r hr => zL r (b1.subset hr)⟩
theorem bqA_d (hok : cx_ok n A) (yL : cx_L n y) (h : bqA n A y W) {i t : Nat} {u : List Nat} (hu : W[i]? = some u) (ht : t < n) (hd : dn n A u t) : ∃ (j : Nat) (v : List Nat), W[j]? = some v ∧ cx_g n A v = cx_g n A (u ++ [t]) := by
  obtain ⟨_, z, a1, a2⟩ := h.2.2.1 i u hu
  have zL : cx_L n z := fun r hr => yL r (a1.subset hr)
  obtain ⟨e, he, hg⟩ := cx_exch hok ht zL ((dn_g a2 t).mpr hd)
  obtain ⟨j, v, b1, b2⟩ := h.2.2.2 (z.eraseIdx e) ((List.eraseIdx_sublist z e).trans a1)
  exact ⟨j, v, b1, b2.trans (hg.symm.trans (cx_g_ap1 [t] a2))⟩
/-- R of what is below has nothing but what is there -/
theorem bqA_r (hok : cx_ok n A) (yL : cx_L n y) (h : bqA n A y W) {i : Nat} {v r u : List Nat} (hv : W[i]? = some v) (hr : cx_L n r) (hl : cx_l n A r = r.length) (hg : cx_g n A r = cx_g n A v) (hu : cx_L n u) (hno : ∀ (j : Nat) (x : List Nat), W[j]? = some x → cx_g n A x ≠ cx_g n A u) (k : Nat) : rww n A r u k = 0 := by
  obtain ⟨z, a1, a2, a3, a4⟩ := bqA_w hok yL h hv
  rw [rww_un hok hr a4 hl a3 (hg.trans a2.symm) hu]
  refine rww_sup hok a4 hu (fun x hx hgx => ?_) k
  obtain ⟨j, w, b1, b2⟩ := h.2.2.2 x (hx.trans a1)
  exact hno j w b1 (b2.trans hgx)
end S
